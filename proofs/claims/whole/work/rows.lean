section
-- ===== PART A: goes FIRST, ahead of the names: the tables' words, and 'selects' of the private methods out of them =====
/-- a private method of a class that the tables say can be made, by its rows of tables_1 -/
def lw_okq (q : MethodName × Nat) : Prop := (q.1.cls ≠ "java/lang/invoke/MethodHandle" ∧ q.1.cls ≠ "java/lang/invoke/VarHandle") ∧ Cond.instantiable q.1.cls q.2 ∈ tables_1 ∧ Cond.privateMethod q.1 ∈ tables_1 ∧ Cond.instanceMethod q.1 ∈ tables_1
theorem lw_p0 : lw_okq (⟨"MusicBox", "found", "(I)I"⟩, 10) := ⟨⟨by decide +kernel, by decide +kernel⟩, List.mem_of_getElem? (i := 14) (by decide +kernel), List.mem_of_getElem? (i := 241) (by decide +kernel), List.mem_of_getElem? (i := 242) (by decide +kernel)⟩
theorem lw_p1 : lw_okq (⟨"MusicBox", "unfound", "(I)I"⟩, 10) := ⟨⟨by decide +kernel, by decide +kernel⟩, List.mem_of_getElem? (i := 14) (by decide +kernel), List.mem_of_getElem? (i := 253) (by decide +kernel), List.mem_of_getElem? (i := 254) (by decide +kernel)⟩
theorem lw_p2 : lw_okq (⟨"MusicBox$Row", "cut", "(I)I"⟩, 4) := ⟨⟨by decide +kernel, by decide +kernel⟩, List.mem_of_getElem? (i := 175) (by decide +kernel), List.mem_of_getElem? (i := 272) (by decide +kernel), List.mem_of_getElem? (i := 273) (by decide +kernel)⟩
theorem lw_p3 : lw_okq (⟨"MusicBox$Tape", "readLaw", "(LMusicBox$Works;)Z"⟩, 5) := ⟨⟨by decide +kernel, by decide +kernel⟩, List.mem_of_getElem? (i := 96) (by decide +kernel), List.mem_of_getElem? (i := 309) (by decide +kernel), List.mem_of_getElem? (i := 310) (by decide +kernel)⟩
theorem lw_p4 : lw_okq (⟨"MusicBox$Tape", "take", "(I)Z"⟩, 5) := ⟨⟨by decide +kernel, by decide +kernel⟩, List.mem_of_getElem? (i := 96) (by decide +kernel), List.mem_of_getElem? (i := 313) (by decide +kernel), List.mem_of_getElem? (i := 314) (by decide +kernel)⟩
theorem lw_p5 : lw_okq (⟨"MusicBox$Tape", "coming", "()I"⟩, 5) := ⟨⟨by decide +kernel, by decide +kernel⟩, List.mem_of_getElem? (i := 96) (by decide +kernel), List.mem_of_getElem? (i := 317) (by decide +kernel), List.mem_of_getElem? (i := 318) (by decide +kernel)⟩
theorem lw_p6 : lw_okq (⟨"MusicBox$Tape", "fail", "(I)Z"⟩, 5) := ⟨⟨by decide +kernel, by decide +kernel⟩, List.mem_of_getElem? (i := 96) (by decide +kernel), List.mem_of_getElem? (i := 321) (by decide +kernel), List.mem_of_getElem? (i := 322) (by decide +kernel)⟩
theorem lw_p7 : lw_okq (⟨"MusicBox$Tape", "takeNumber", "(II)Z"⟩, 5) := ⟨⟨by decide +kernel, by decide +kernel⟩, List.mem_of_getElem? (i := 96) (by decide +kernel), List.mem_of_getElem? (i := 325) (by decide +kernel), List.mem_of_getElem? (i := 326) (by decide +kernel)⟩
theorem lw_p8 : lw_okq (⟨"MusicBox$Tape", "readColumns", "(LMusicBox$Works;)Z"⟩, 5) := ⟨⟨by decide +kernel, by decide +kernel⟩, List.mem_of_getElem? (i := 96) (by decide +kernel), List.mem_of_getElem? (i := 329) (by decide +kernel), List.mem_of_getElem? (i := 330) (by decide +kernel)⟩
theorem lw_p9 : lw_okq (⟨"MusicBox$Tape", "readTeeth", "(LMusicBox$Works;)Z"⟩, 5) := ⟨⟨by decide +kernel, by decide +kernel⟩, List.mem_of_getElem? (i := 96) (by decide +kernel), List.mem_of_getElem? (i := 333) (by decide +kernel), List.mem_of_getElem? (i := 334) (by decide +kernel)⟩
theorem lw_p10 : lw_okq (⟨"MusicBox", "hasBox", "()Z"⟩, 10) := ⟨⟨by decide +kernel, by decide +kernel⟩, List.mem_of_getElem? (i := 14) (by decide +kernel), List.mem_of_getElem? (i := 368) (by decide +kernel), List.mem_of_getElem? (i := 369) (by decide +kernel)⟩
theorem lw_p11 : lw_okq (⟨"MusicBox$Works", "pluck", "(I)V"⟩, 11) := ⟨⟨by decide +kernel, by decide +kernel⟩, List.mem_of_getElem? (i := 25) (by decide +kernel), List.mem_of_getElem? (i := 393) (by decide +kernel), List.mem_of_getElem? (i := 394) (by decide +kernel)⟩
theorem lw_p12 : lw_okq (⟨"MusicBox$Works", "stir", "(II)V"⟩, 11) := ⟨⟨by decide +kernel, by decide +kernel⟩, List.mem_of_getElem? (i := 25) (by decide +kernel), List.mem_of_getElem? (i := 398) (by decide +kernel), List.mem_of_getElem? (i := 399) (by decide +kernel)⟩
theorem lw_p13 : lw_okq (⟨"MusicBox", "hasColumn", "(I)Z"⟩, 10) := ⟨⟨by decide +kernel, by decide +kernel⟩, List.mem_of_getElem? (i := 14) (by decide +kernel), List.mem_of_getElem? (i := 418) (by decide +kernel), List.mem_of_getElem? (i := 419) (by decide +kernel)⟩
theorem lw_p14 : lw_okq (⟨"MusicBox", "hasTooth", "(I)Z"⟩, 10) := ⟨⟨by decide +kernel, by decide +kernel⟩, List.mem_of_getElem? (i := 14) (by decide +kernel), List.mem_of_getElem? (i := 422) (by decide +kernel), List.mem_of_getElem? (i := 423) (by decide +kernel)⟩
theorem lw_p15 : lw_okq (⟨"MusicBox$Seer", "tryAhead", "(I)V"⟩, 3) := ⟨⟨by decide +kernel, by decide +kernel⟩, List.mem_of_getElem? (i := 140) (by decide +kernel), List.mem_of_getElem? (i := 474) (by decide +kernel), List.mem_of_getElem? (i := 475) (by decide +kernel)⟩
def lw_privs_1 : List (MethodName × Nat) := [(⟨"MusicBox", "found", "(I)I"⟩, 10), (⟨"MusicBox", "unfound", "(I)I"⟩, 10), (⟨"MusicBox$Row", "cut", "(I)I"⟩, 4), (⟨"MusicBox$Tape", "readLaw", "(LMusicBox$Works;)Z"⟩, 5), (⟨"MusicBox$Tape", "take", "(I)Z"⟩, 5), (⟨"MusicBox$Tape", "coming", "()I"⟩, 5), (⟨"MusicBox$Tape", "fail", "(I)Z"⟩, 5), (⟨"MusicBox$Tape", "takeNumber", "(II)Z"⟩, 5), (⟨"MusicBox$Tape", "readColumns", "(LMusicBox$Works;)Z"⟩, 5), (⟨"MusicBox$Tape", "readTeeth", "(LMusicBox$Works;)Z"⟩, 5), (⟨"MusicBox", "hasBox", "()Z"⟩, 10), (⟨"MusicBox$Works", "pluck", "(I)V"⟩, 11), (⟨"MusicBox$Works", "stir", "(II)V"⟩, 11), (⟨"MusicBox", "hasColumn", "(I)Z"⟩, 10), (⟨"MusicBox", "hasTooth", "(I)Z"⟩, 10), (⟨"MusicBox$Seer", "tryAhead", "(I)V"⟩, 3)]
theorem lw_r1 : ∀ q ∈ lw_privs_1, lw_okq q := List.forall_mem_cons.mpr ⟨lw_p0, List.forall_mem_cons.mpr ⟨lw_p1, List.forall_mem_cons.mpr ⟨lw_p2, List.forall_mem_cons.mpr ⟨lw_p3, List.forall_mem_cons.mpr ⟨lw_p4, List.forall_mem_cons.mpr ⟨lw_p5, List.forall_mem_cons.mpr ⟨lw_p6, List.forall_mem_cons.mpr ⟨lw_p7, List.forall_mem_cons.mpr ⟨lw_p8, List.forall_mem_cons.mpr ⟨lw_p9, List.forall_mem_cons.mpr ⟨lw_p10, List.forall_mem_cons.mpr ⟨lw_p11, List.forall_mem_cons.mpr ⟨lw_p12, List.forall_mem_cons.mpr ⟨lw_p13, List.forall_mem_cons.mpr ⟨lw_p14, List.forall_mem_cons.mpr ⟨lw_p15, fun _ h => absurd h List.not_mem_nil⟩⟩⟩⟩⟩⟩⟩⟩⟩⟩⟩⟩⟩⟩⟩⟩
theorem lw_p16 : lw_okq (⟨"MusicBox$Seer", "standsFrom", "(ILMusicBox$Row;II)Z"⟩, 3) := ⟨⟨by decide +kernel, by decide +kernel⟩, List.mem_of_getElem? (i := 140) (by decide +kernel), List.mem_of_getElem? (i := 551) (by decide +kernel), List.mem_of_getElem? (i := 552) (by decide +kernel)⟩
theorem lw_p17 : lw_okq (⟨"MusicBox$Seer", "loudOf", "(I)I"⟩, 3) := ⟨⟨by decide +kernel, by decide +kernel⟩, List.mem_of_getElem? (i := 140) (by decide +kernel), List.mem_of_getElem? (i := 563) (by decide +kernel), List.mem_of_getElem? (i := 564) (by decide +kernel)⟩
theorem lw_p18 : lw_okq (⟨"MusicBox$Seer", "wear", "(I)I"⟩, 3) := ⟨⟨by decide +kernel, by decide +kernel⟩, List.mem_of_getElem? (i := 140) (by decide +kernel), List.mem_of_getElem? (i := 575) (by decide +kernel), List.mem_of_getElem? (i := 576) (by decide +kernel)⟩
theorem lw_p19 : lw_okq (⟨"MusicBox$Seer", "outcome", "(IIIIZ)I"⟩, 3) := ⟨⟨by decide +kernel, by decide +kernel⟩, List.mem_of_getElem? (i := 140) (by decide +kernel), List.mem_of_getElem? (i := 587) (by decide +kernel), List.mem_of_getElem? (i := 588) (by decide +kernel)⟩
theorem lw_p20 : lw_okq (⟨"MusicBox$Seer", "loudBehindTurns", "(IIZ)I"⟩, 3) := ⟨⟨by decide +kernel, by decide +kernel⟩, List.mem_of_getElem? (i := 140) (by decide +kernel), List.mem_of_getElem? (i := 591) (by decide +kernel), List.mem_of_getElem? (i := 592) (by decide +kernel)⟩
theorem lw_p21 : lw_okq (⟨"MusicBox$Seer", "kindsThatFit", "(ILMusicBox$Row;II)I"⟩, 3) := ⟨⟨by decide +kernel, by decide +kernel⟩, List.mem_of_getElem? (i := 140) (by decide +kernel), List.mem_of_getElem? (i := 607) (by decide +kernel), List.mem_of_getElem? (i := 608) (by decide +kernel)⟩
theorem lw_p22 : lw_okq (⟨"MusicBox$Seer", "trialIsHeardAs", "(LMusicBox$Row;II)Z"⟩, 3) := ⟨⟨by decide +kernel, by decide +kernel⟩, List.mem_of_getElem? (i := 140) (by decide +kernel), List.mem_of_getElem? (i := 611) (by decide +kernel), List.mem_of_getElem? (i := 612) (by decide +kernel)⟩
theorem lw_p23 : lw_okq (⟨"MusicBox$Seer", "tuningsThatFit", "(ILMusicBox$Row;II)I"⟩, 3) := ⟨⟨by decide +kernel, by decide +kernel⟩, List.mem_of_getElem? (i := 140) (by decide +kernel), List.mem_of_getElem? (i := 615) (by decide +kernel), List.mem_of_getElem? (i := 616) (by decide +kernel)⟩
theorem lw_p24 : lw_okq (⟨"MusicBox$Seer", "columnsThatFit", "(LMusicBox$Row;II)I"⟩, 3) := ⟨⟨by decide +kernel, by decide +kernel⟩, List.mem_of_getElem? (i := 140) (by decide +kernel), List.mem_of_getElem? (i := 619) (by decide +kernel), List.mem_of_getElem? (i := 620) (by decide +kernel)⟩
theorem lw_p25 : lw_okq (⟨"MusicBox$Seer", "springsThatFit", "(ILMusicBox$Row;II)I"⟩, 3) := ⟨⟨by decide +kernel, by decide +kernel⟩, List.mem_of_getElem? (i := 140) (by decide +kernel), List.mem_of_getElem? (i := 623) (by decide +kernel), List.mem_of_getElem? (i := 624) (by decide +kernel)⟩
theorem lw_p26 : lw_okq (⟨"MusicBox$Seer", "weightOfRinging", "(IIIII)J"⟩, 3) := ⟨⟨by decide +kernel, by decide +kernel⟩, List.mem_of_getElem? (i := 140) (by decide +kernel), List.mem_of_getElem? (i := 637) (by decide +kernel), List.mem_of_getElem? (i := 638) (by decide +kernel)⟩
theorem lw_p27 : lw_okq (⟨"MusicBox$Seer", "draw", "(I)V"⟩, 3) := ⟨⟨by decide +kernel, by decide +kernel⟩, List.mem_of_getElem? (i := 140) (by decide +kernel), List.mem_of_getElem? (i := 669) (by decide +kernel), List.mem_of_getElem? (i := 670) (by decide +kernel)⟩
theorem lw_p28 : lw_okq (⟨"MusicBox$Asking", "answer", "(III)I"⟩, 3) := ⟨⟨by decide +kernel, by decide +kernel⟩, List.mem_of_getElem? (i := 158) (by decide +kernel), List.mem_of_getElem? (i := 703) (by decide +kernel), List.mem_of_getElem? (i := 704) (by decide +kernel)⟩
theorem lw_p29 : lw_okq (⟨"MusicBox$Asking", "body", "(III)I"⟩, 3) := ⟨⟨by decide +kernel, by decide +kernel⟩, List.mem_of_getElem? (i := 158) (by decide +kernel), List.mem_of_getElem? (i := 711) (by decide +kernel), List.mem_of_getElem? (i := 712) (by decide +kernel)⟩
theorem lw_p30 : lw_okq (⟨"MusicBox$Asking", "leave", "(I)V"⟩, 3) := ⟨⟨by decide +kernel, by decide +kernel⟩, List.mem_of_getElem? (i := 158) (by decide +kernel), List.mem_of_getElem? (i := 715) (by decide +kernel), List.mem_of_getElem? (i := 716) (by decide +kernel)⟩
theorem lw_p31 : lw_okq (⟨"MusicBox", "rowsThere", "()I"⟩, 10) := ⟨⟨by decide +kernel, by decide +kernel⟩, List.mem_of_getElem? (i := 14) (by decide +kernel), List.mem_of_getElem? (i := 728) (by decide +kernel), List.mem_of_getElem? (i := 729) (by decide +kernel)⟩
def lw_privs_2 : List (MethodName × Nat) := [(⟨"MusicBox$Seer", "standsFrom", "(ILMusicBox$Row;II)Z"⟩, 3), (⟨"MusicBox$Seer", "loudOf", "(I)I"⟩, 3), (⟨"MusicBox$Seer", "wear", "(I)I"⟩, 3), (⟨"MusicBox$Seer", "outcome", "(IIIIZ)I"⟩, 3), (⟨"MusicBox$Seer", "loudBehindTurns", "(IIZ)I"⟩, 3), (⟨"MusicBox$Seer", "kindsThatFit", "(ILMusicBox$Row;II)I"⟩, 3), (⟨"MusicBox$Seer", "trialIsHeardAs", "(LMusicBox$Row;II)Z"⟩, 3), (⟨"MusicBox$Seer", "tuningsThatFit", "(ILMusicBox$Row;II)I"⟩, 3), (⟨"MusicBox$Seer", "columnsThatFit", "(LMusicBox$Row;II)I"⟩, 3), (⟨"MusicBox$Seer", "springsThatFit", "(ILMusicBox$Row;II)I"⟩, 3), (⟨"MusicBox$Seer", "weightOfRinging", "(IIIII)J"⟩, 3), (⟨"MusicBox$Seer", "draw", "(I)V"⟩, 3), (⟨"MusicBox$Asking", "answer", "(III)I"⟩, 3), (⟨"MusicBox$Asking", "body", "(III)I"⟩, 3), (⟨"MusicBox$Asking", "leave", "(I)V"⟩, 3), (⟨"MusicBox", "rowsThere", "()I"⟩, 10)]
theorem lw_r2 : ∀ q ∈ lw_privs_2, lw_okq q := List.forall_mem_cons.mpr ⟨lw_p16, List.forall_mem_cons.mpr ⟨lw_p17, List.forall_mem_cons.mpr ⟨lw_p18, List.forall_mem_cons.mpr ⟨lw_p19, List.forall_mem_cons.mpr ⟨lw_p20, List.forall_mem_cons.mpr ⟨lw_p21, List.forall_mem_cons.mpr ⟨lw_p22, List.forall_mem_cons.mpr ⟨lw_p23, List.forall_mem_cons.mpr ⟨lw_p24, List.forall_mem_cons.mpr ⟨lw_p25, List.forall_mem_cons.mpr ⟨lw_p26, List.forall_mem_cons.mpr ⟨lw_p27, List.forall_mem_cons.mpr ⟨lw_p28, List.forall_mem_cons.mpr ⟨lw_p29, List.forall_mem_cons.mpr ⟨lw_p30, List.forall_mem_cons.mpr ⟨lw_p31, fun _ h => absurd h List.not_mem_nil⟩⟩⟩⟩⟩⟩⟩⟩⟩⟩⟩⟩⟩⟩⟩⟩
theorem lw_p32 : lw_okq (⟨"MusicBoxModel", "finds", "(I)I"⟩, 18) := ⟨⟨by decide +kernel, by decide +kernel⟩, List.mem_of_getElem? (i := 740) (by decide +kernel), List.mem_of_getElem? (i := 815) (by decide +kernel), List.mem_of_getElem? (i := 816) (by decide +kernel)⟩
theorem lw_p33 : lw_okq (⟨"MusicBoxModel", "against", "(III)I"⟩, 18) := ⟨⟨by decide +kernel, by decide +kernel⟩, List.mem_of_getElem? (i := 740) (by decide +kernel), List.mem_of_getElem? (i := 824) (by decide +kernel), List.mem_of_getElem? (i := 825) (by decide +kernel)⟩
theorem lw_p34 : lw_okq (⟨"MusicBoxModel", "takesAll", "()Z"⟩, 18) := ⟨⟨by decide +kernel, by decide +kernel⟩, List.mem_of_getElem? (i := 740) (by decide +kernel), List.mem_of_getElem? (i := 846) (by decide +kernel), List.mem_of_getElem? (i := 847) (by decide +kernel)⟩
theorem lw_p35 : lw_okq (⟨"MusicBoxModel", "takesLaw", "()Z"⟩, 18) := ⟨⟨by decide +kernel, by decide +kernel⟩, List.mem_of_getElem? (i := 740) (by decide +kernel), List.mem_of_getElem? (i := 850) (by decide +kernel), List.mem_of_getElem? (i := 851) (by decide +kernel)⟩
theorem lw_p36 : lw_okq (⟨"MusicBoxModel", "takes", "(I)Z"⟩, 18) := ⟨⟨by decide +kernel, by decide +kernel⟩, List.mem_of_getElem? (i := 740) (by decide +kernel), List.mem_of_getElem? (i := 854) (by decide +kernel), List.mem_of_getElem? (i := 855) (by decide +kernel)⟩
theorem lw_p37 : lw_okq (⟨"MusicBoxModel", "here", "()I"⟩, 18) := ⟨⟨by decide +kernel, by decide +kernel⟩, List.mem_of_getElem? (i := 740) (by decide +kernel), List.mem_of_getElem? (i := 858) (by decide +kernel), List.mem_of_getElem? (i := 859) (by decide +kernel)⟩
theorem lw_p38 : lw_okq (⟨"MusicBoxModel", "fails", "(II)Z"⟩, 18) := ⟨⟨by decide +kernel, by decide +kernel⟩, List.mem_of_getElem? (i := 740) (by decide +kernel), List.mem_of_getElem? (i := 862) (by decide +kernel), List.mem_of_getElem? (i := 863) (by decide +kernel)⟩
theorem lw_p39 : lw_okq (⟨"MusicBoxModel", "takesNumber", "(II)Z"⟩, 18) := ⟨⟨by decide +kernel, by decide +kernel⟩, List.mem_of_getElem? (i := 740) (by decide +kernel), List.mem_of_getElem? (i := 866) (by decide +kernel), List.mem_of_getElem? (i := 867) (by decide +kernel)⟩
theorem lw_p40 : lw_okq (⟨"MusicBoxModel", "takesColumn", "()Z"⟩, 18) := ⟨⟨by decide +kernel, by decide +kernel⟩, List.mem_of_getElem? (i := 740) (by decide +kernel), List.mem_of_getElem? (i := 872) (by decide +kernel), List.mem_of_getElem? (i := 873) (by decide +kernel)⟩
theorem lw_p41 : lw_okq (⟨"MusicBoxModel", "takesTooth", "()Z"⟩, 18) := ⟨⟨by decide +kernel, by decide +kernel⟩, List.mem_of_getElem? (i := 740) (by decide +kernel), List.mem_of_getElem? (i := 876) (by decide +kernel), List.mem_of_getElem? (i := 877) (by decide +kernel)⟩
theorem lw_p42 : lw_okq (⟨"MusicBoxModel", "copyOf", "(II)V"⟩, 18) := ⟨⟨by decide +kernel, by decide +kernel⟩, List.mem_of_getElem? (i := 740) (by decide +kernel), List.mem_of_getElem? (i := 884) (by decide +kernel), List.mem_of_getElem? (i := 885) (by decide +kernel)⟩
theorem lw_p43 : lw_okq (⟨"MusicBoxModel", "isBox", "()Z"⟩, 18) := ⟨⟨by decide +kernel, by decide +kernel⟩, List.mem_of_getElem? (i := 740) (by decide +kernel), List.mem_of_getElem? (i := 901) (by decide +kernel), List.mem_of_getElem? (i := 902) (by decide +kernel)⟩
theorem lw_p44 : lw_okq (⟨"MusicBoxModel", "minds", "()V"⟩, 18) := ⟨⟨by decide +kernel, by decide +kernel⟩, List.mem_of_getElem? (i := 740) (by decide +kernel), List.mem_of_getElem? (i := 906) (by decide +kernel), List.mem_of_getElem? (i := 907) (by decide +kernel)⟩
theorem lw_p45 : lw_okq (⟨"MusicBoxModel", "passes", "(I)V"⟩, 18) := ⟨⟨by decide +kernel, by decide +kernel⟩, List.mem_of_getElem? (i := 740) (by decide +kernel), List.mem_of_getElem? (i := 910) (by decide +kernel), List.mem_of_getElem? (i := 911) (by decide +kernel)⟩
theorem lw_p46 : lw_okq (⟨"MusicBoxModel", "fades", "(I)V"⟩, 18) := ⟨⟨by decide +kernel, by decide +kernel⟩, List.mem_of_getElem? (i := 740) (by decide +kernel), List.mem_of_getElem? (i := 914) (by decide +kernel), List.mem_of_getElem? (i := 915) (by decide +kernel)⟩
theorem lw_p47 : lw_okq (⟨"MusicBoxModel", "plucks", "(II)V"⟩, 18) := ⟨⟨by decide +kernel, by decide +kernel⟩, List.mem_of_getElem? (i := 740) (by decide +kernel), List.mem_of_getElem? (i := 921) (by decide +kernel), List.mem_of_getElem? (i := 922) (by decide +kernel)⟩
def lw_privs_3 : List (MethodName × Nat) := [(⟨"MusicBoxModel", "finds", "(I)I"⟩, 18), (⟨"MusicBoxModel", "against", "(III)I"⟩, 18), (⟨"MusicBoxModel", "takesAll", "()Z"⟩, 18), (⟨"MusicBoxModel", "takesLaw", "()Z"⟩, 18), (⟨"MusicBoxModel", "takes", "(I)Z"⟩, 18), (⟨"MusicBoxModel", "here", "()I"⟩, 18), (⟨"MusicBoxModel", "fails", "(II)Z"⟩, 18), (⟨"MusicBoxModel", "takesNumber", "(II)Z"⟩, 18), (⟨"MusicBoxModel", "takesColumn", "()Z"⟩, 18), (⟨"MusicBoxModel", "takesTooth", "()Z"⟩, 18), (⟨"MusicBoxModel", "copyOf", "(II)V"⟩, 18), (⟨"MusicBoxModel", "isBox", "()Z"⟩, 18), (⟨"MusicBoxModel", "minds", "()V"⟩, 18), (⟨"MusicBoxModel", "passes", "(I)V"⟩, 18), (⟨"MusicBoxModel", "fades", "(I)V"⟩, 18), (⟨"MusicBoxModel", "plucks", "(II)V"⟩, 18)]
theorem lw_r3 : ∀ q ∈ lw_privs_3, lw_okq q := List.forall_mem_cons.mpr ⟨lw_p32, List.forall_mem_cons.mpr ⟨lw_p33, List.forall_mem_cons.mpr ⟨lw_p34, List.forall_mem_cons.mpr ⟨lw_p35, List.forall_mem_cons.mpr ⟨lw_p36, List.forall_mem_cons.mpr ⟨lw_p37, List.forall_mem_cons.mpr ⟨lw_p38, List.forall_mem_cons.mpr ⟨lw_p39, List.forall_mem_cons.mpr ⟨lw_p40, List.forall_mem_cons.mpr ⟨lw_p41, List.forall_mem_cons.mpr ⟨lw_p42, List.forall_mem_cons.mpr ⟨lw_p43, List.forall_mem_cons.mpr ⟨lw_p44, List.forall_mem_cons.mpr ⟨lw_p45, List.forall_mem_cons.mpr ⟨lw_p46, List.forall_mem_cons.mpr ⟨lw_p47, fun _ h => absurd h List.not_mem_nil⟩⟩⟩⟩⟩⟩⟩⟩⟩⟩⟩⟩⟩⟩⟩⟩
theorem lw_p48 : lw_okq (⟨"MusicBoxModel", "loud", "(I)I"⟩, 18) := ⟨⟨by decide +kernel, by decide +kernel⟩, List.mem_of_getElem? (i := 740) (by decide +kernel), List.mem_of_getElem? (i := 925) (by decide +kernel), List.mem_of_getElem? (i := 926) (by decide +kernel)⟩
theorem lw_p49 : lw_okq (⟨"MusicBoxModel", "isColumn", "(I)Z"⟩, 18) := ⟨⟨by decide +kernel, by decide +kernel⟩, List.mem_of_getElem? (i := 740) (by decide +kernel), List.mem_of_getElem? (i := 938) (by decide +kernel), List.mem_of_getElem? (i := 939) (by decide +kernel)⟩
theorem lw_p50 : lw_okq (⟨"MusicBoxModel", "isTooth", "(I)Z"⟩, 18) := ⟨⟨by decide +kernel, by decide +kernel⟩, List.mem_of_getElem? (i := 740) (by decide +kernel), List.mem_of_getElem? (i := 942) (by decide +kernel), List.mem_of_getElem? (i := 943) (by decide +kernel)⟩
theorem lw_p51 : lw_okq (⟨"MusicBoxModel", "mends", "(II)V"⟩, 18) := ⟨⟨by decide +kernel, by decide +kernel⟩, List.mem_of_getElem? (i := 740) (by decide +kernel), List.mem_of_getElem? (i := 954) (by decide +kernel), List.mem_of_getElem? (i := 955) (by decide +kernel)⟩
theorem lw_p52 : lw_okq (⟨"MusicBoxModel", "columnsOf", "(II)I"⟩, 18) := ⟨⟨by decide +kernel, by decide +kernel⟩, List.mem_of_getElem? (i := 740) (by decide +kernel), List.mem_of_getElem? (i := 962) (by decide +kernel), List.mem_of_getElem? (i := 963) (by decide +kernel)⟩
theorem lw_p53 : lw_okq (⟨"MusicBoxModel", "ringing", "(I)I"⟩, 18) := ⟨⟨by decide +kernel, by decide +kernel⟩, List.mem_of_getElem? (i := 740) (by decide +kernel), List.mem_of_getElem? (i := 974) (by decide +kernel), List.mem_of_getElem? (i := 975) (by decide +kernel)⟩
theorem lw_p54 : lw_okq (⟨"MusicBoxModel", "tries", "()V"⟩, 18) := ⟨⟨by decide +kernel, by decide +kernel⟩, List.mem_of_getElem? (i := 740) (by decide +kernel), List.mem_of_getElem? (i := 983) (by decide +kernel), List.mem_of_getElem? (i := 984) (by decide +kernel)⟩
theorem lw_p55 : lw_okq (⟨"MusicBoxModel", "goesOn", "(I)V"⟩, 18) := ⟨⟨by decide +kernel, by decide +kernel⟩, List.mem_of_getElem? (i := 740) (by decide +kernel), List.mem_of_getElem? (i := 987) (by decide +kernel), List.mem_of_getElem? (i := 988) (by decide +kernel)⟩
theorem lw_p56 : lw_okq (⟨"MusicBoxModel", "sumOf", "(I)I"⟩, 18) := ⟨⟨by decide +kernel, by decide +kernel⟩, List.mem_of_getElem? (i := 740) (by decide +kernel), List.mem_of_getElem? (i := 1010) (by decide +kernel), List.mem_of_getElem? (i := 1011) (by decide +kernel)⟩
theorem lw_p57 : lw_okq (⟨"MusicBoxModel", "loudBy", "(III)I"⟩, 18) := ⟨⟨by decide +kernel, by decide +kernel⟩, List.mem_of_getElem? (i := 740) (by decide +kernel), List.mem_of_getElem? (i := 1042) (by decide +kernel), List.mem_of_getElem? (i := 1043) (by decide +kernel)⟩
theorem lw_p58 : lw_okq (⟨"MusicBoxModel", "isSo", "(II)Z"⟩, 18) := ⟨⟨by decide +kernel, by decide +kernel⟩, List.mem_of_getElem? (i := 740) (by decide +kernel), List.mem_of_getElem? (i := 1050) (by decide +kernel), List.mem_of_getElem? (i := 1051) (by decide +kernel)⟩
theorem lw_p59 : lw_okq (⟨"MusicBoxModel", "sizeOf", "(I)I"⟩, 18) := ⟨⟨by decide +kernel, by decide +kernel⟩, List.mem_of_getElem? (i := 740) (by decide +kernel), List.mem_of_getElem? (i := 1093) (by decide +kernel), List.mem_of_getElem? (i := 1094) (by decide +kernel)⟩
theorem lw_p60 : lw_okq (⟨"MusicBoxModel", "traces", "(I)V"⟩, 18) := ⟨⟨by decide +kernel, by decide +kernel⟩, List.mem_of_getElem? (i := 740) (by decide +kernel), List.mem_of_getElem? (i := 1097) (by decide +kernel), List.mem_of_getElem? (i := 1098) (by decide +kernel)⟩
theorem lw_p61 : lw_okq (⟨"MusicBoxModel", "size11", "(I)I"⟩, 18) := ⟨⟨by decide +kernel, by decide +kernel⟩, List.mem_of_getElem? (i := 740) (by decide +kernel), List.mem_of_getElem? (i := 1101) (by decide +kernel), List.mem_of_getElem? (i := 1102) (by decide +kernel)⟩
theorem lw_p62 : lw_okq (⟨"MusicBoxModel", "size10", "(I)I"⟩, 18) := ⟨⟨by decide +kernel, by decide +kernel⟩, List.mem_of_getElem? (i := 740) (by decide +kernel), List.mem_of_getElem? (i := 1105) (by decide +kernel), List.mem_of_getElem? (i := 1106) (by decide +kernel)⟩
theorem lw_p63 : lw_okq (⟨"MusicBoxModel", "markOf", "(I)I"⟩, 18) := ⟨⟨by decide +kernel, by decide +kernel⟩, List.mem_of_getElem? (i := 740) (by decide +kernel), List.mem_of_getElem? (i := 1109) (by decide +kernel), List.mem_of_getElem? (i := 1110) (by decide +kernel)⟩
def lw_privs_4 : List (MethodName × Nat) := [(⟨"MusicBoxModel", "loud", "(I)I"⟩, 18), (⟨"MusicBoxModel", "isColumn", "(I)Z"⟩, 18), (⟨"MusicBoxModel", "isTooth", "(I)Z"⟩, 18), (⟨"MusicBoxModel", "mends", "(II)V"⟩, 18), (⟨"MusicBoxModel", "columnsOf", "(II)I"⟩, 18), (⟨"MusicBoxModel", "ringing", "(I)I"⟩, 18), (⟨"MusicBoxModel", "tries", "()V"⟩, 18), (⟨"MusicBoxModel", "goesOn", "(I)V"⟩, 18), (⟨"MusicBoxModel", "sumOf", "(I)I"⟩, 18), (⟨"MusicBoxModel", "loudBy", "(III)I"⟩, 18), (⟨"MusicBoxModel", "isSo", "(II)Z"⟩, 18), (⟨"MusicBoxModel", "sizeOf", "(I)I"⟩, 18), (⟨"MusicBoxModel", "traces", "(I)V"⟩, 18), (⟨"MusicBoxModel", "size11", "(I)I"⟩, 18), (⟨"MusicBoxModel", "size10", "(I)I"⟩, 18), (⟨"MusicBoxModel", "markOf", "(I)I"⟩, 18)]
theorem lw_r4 : ∀ q ∈ lw_privs_4, lw_okq q := List.forall_mem_cons.mpr ⟨lw_p48, List.forall_mem_cons.mpr ⟨lw_p49, List.forall_mem_cons.mpr ⟨lw_p50, List.forall_mem_cons.mpr ⟨lw_p51, List.forall_mem_cons.mpr ⟨lw_p52, List.forall_mem_cons.mpr ⟨lw_p53, List.forall_mem_cons.mpr ⟨lw_p54, List.forall_mem_cons.mpr ⟨lw_p55, List.forall_mem_cons.mpr ⟨lw_p56, List.forall_mem_cons.mpr ⟨lw_p57, List.forall_mem_cons.mpr ⟨lw_p58, List.forall_mem_cons.mpr ⟨lw_p59, List.forall_mem_cons.mpr ⟨lw_p60, List.forall_mem_cons.mpr ⟨lw_p61, List.forall_mem_cons.mpr ⟨lw_p62, List.forall_mem_cons.mpr ⟨lw_p63, fun _ h => absurd h List.not_mem_nil⟩⟩⟩⟩⟩⟩⟩⟩⟩⟩⟩⟩⟩⟩⟩⟩
theorem lw_p64 : lw_okq (⟨"MusicBoxModel", "mark21", "(I)I"⟩, 18) := ⟨⟨by decide +kernel, by decide +kernel⟩, List.mem_of_getElem? (i := 740) (by decide +kernel), List.mem_of_getElem? (i := 1113) (by decide +kernel), List.mem_of_getElem? (i := 1114) (by decide +kernel)⟩
theorem lw_p65 : lw_okq (⟨"MusicBoxModel", "mark20", "(I)I"⟩, 18) := ⟨⟨by decide +kernel, by decide +kernel⟩, List.mem_of_getElem? (i := 740) (by decide +kernel), List.mem_of_getElem? (i := 1117) (by decide +kernel), List.mem_of_getElem? (i := 1118) (by decide +kernel)⟩
theorem lw_p66 : lw_okq (⟨"MusicBoxModel", "size13", "(I)I"⟩, 18) := ⟨⟨by decide +kernel, by decide +kernel⟩, List.mem_of_getElem? (i := 740) (by decide +kernel), List.mem_of_getElem? (i := 1121) (by decide +kernel), List.mem_of_getElem? (i := 1122) (by decide +kernel)⟩
theorem lw_p67 : lw_okq (⟨"MusicBoxModel", "mark23", "(I)I"⟩, 18) := ⟨⟨by decide +kernel, by decide +kernel⟩, List.mem_of_getElem? (i := 740) (by decide +kernel), List.mem_of_getElem? (i := 1125) (by decide +kernel), List.mem_of_getElem? (i := 1126) (by decide +kernel)⟩
theorem lw_p68 : lw_okq (⟨"MusicBoxModel", "rowsThere", "()I"⟩, 18) := ⟨⟨by decide +kernel, by decide +kernel⟩, List.mem_of_getElem? (i := 740) (by decide +kernel), List.mem_of_getElem? (i := 1137) (by decide +kernel), List.mem_of_getElem? (i := 1138) (by decide +kernel)⟩
theorem lw_p69 : lw_okq (⟨"MusicBoxModel", "pluckedAll", "()I"⟩, 18) := ⟨⟨by decide +kernel, by decide +kernel⟩, List.mem_of_getElem? (i := 740) (by decide +kernel), List.mem_of_getElem? (i := 1141) (by decide +kernel), List.mem_of_getElem? (i := 1142) (by decide +kernel)⟩
def lw_privs_5 : List (MethodName × Nat) := [(⟨"MusicBoxModel", "mark21", "(I)I"⟩, 18), (⟨"MusicBoxModel", "mark20", "(I)I"⟩, 18), (⟨"MusicBoxModel", "size13", "(I)I"⟩, 18), (⟨"MusicBoxModel", "mark23", "(I)I"⟩, 18), (⟨"MusicBoxModel", "rowsThere", "()I"⟩, 18), (⟨"MusicBoxModel", "pluckedAll", "()I"⟩, 18)]
theorem lw_r5 : ∀ q ∈ lw_privs_5, lw_okq q := List.forall_mem_cons.mpr ⟨lw_p64, List.forall_mem_cons.mpr ⟨lw_p65, List.forall_mem_cons.mpr ⟨lw_p66, List.forall_mem_cons.mpr ⟨lw_p67, List.forall_mem_cons.mpr ⟨lw_p68, List.forall_mem_cons.mpr ⟨lw_p69, fun _ h => absurd h List.not_mem_nil⟩⟩⟩⟩⟩⟩
def lw_privs : List (MethodName × Nat) := lw_privs_1 ++ (lw_privs_2 ++ (lw_privs_3 ++ (lw_privs_4 ++ (lw_privs_5))))
def lw_tbl : List Cond := k2_sels lw_privs ++ tables_1
theorem lw_privs_ok : ∀ q ∈ lw_privs, lw_okq q := by
  show ∀ q ∈ lw_privs_1 ++ (lw_privs_2 ++ (lw_privs_3 ++ (lw_privs_4 ++ (lw_privs_5)))), lw_okq q
  exact List.forall_mem_append.mpr ⟨lw_r1, List.forall_mem_append.mpr ⟨lw_r2, List.forall_mem_append.mpr ⟨lw_r3, List.forall_mem_append.mpr ⟨lw_r4, lw_r5⟩⟩⟩⟩
end
section
def RX0 : String := "MusicBox$Asking"
def TX0 : u_T := fun k => match k with
  | 0 => ("MusicBox$Asking", "now", "LMusicBox$Works;", true)
  | 1 => ("MusicBox$Asking", "left", "[I", true)
  | _ => ("MusicBox$Asking", "length", "I", false)
def tyX0 : Nat → FieldType := fun k => match k with
  | 0 => .object "MusicBox$Works"
  | 1 => .array .int
  | _ => .int
abbrev wsX00 : List Cond := u_ws RX0 TX0 3
theorem nmX0 : ∀ a, a < 3 → ∀ b, b < 3 → a ≠ b → (TX0 a).2.1 ≠ (TX0 b).2.1 := by decide +kernel
theorem tyX0_ok : ∀ k, k < 3 → parseFieldDescriptor (TX0 k).2.2.1 = some (tyX0 k) := by decide +kernel
abbrev cX0_init : ByteArray := prog_2_method_1_code
def yX0_init : MethodName := ⟨RX0, "<init>", "(LMusicBox$Works;)V"⟩
abbrev cX0_start : ByteArray := prog_2_method_2_code
def yX0_start : MethodName := ⟨RX0, "start", "(II)I"⟩
abbrev cX0_answer : ByteArray := prog_2_method_3_code
def yX0_answer : MethodName := ⟨RX0, "answer", "(III)I"⟩
abbrev cX0_body : ByteArray := prog_2_method_4_code
def yX0_body : MethodName := ⟨RX0, "body", "(III)I"⟩
abbrev cX0_leave : ByteArray := prog_2_method_5_code
def yX0_leave : MethodName := ⟨RX0, "leave", "(I)V"⟩
def RX1 : String := "MusicBox$Past"
def TX1 : u_T := fun k => match k with
  | 0 => ("MusicBox$Past", "kept", "[LMusicBox$Works;", true)
  | 1 => ("MusicBox$Past", "next", "I", false)
  | _ => ("MusicBox$Past", "size", "I", false)
def tyX1 : Nat → FieldType := fun k => match k with
  | 0 => .array (.object "MusicBox$Works")
  | 1 => .int
  | _ => .int
abbrev wsX10 : List Cond := u_ws RX1 TX1 3
theorem nmX1 : ∀ a, a < 3 → ∀ b, b < 3 → a ≠ b → (TX1 a).2.1 ≠ (TX1 b).2.1 := by decide +kernel
theorem tyX1_ok : ∀ k, k < 3 → parseFieldDescriptor (TX1 k).2.2.1 = some (tyX1 k) := by decide +kernel
abbrev cX1_init : ByteArray := prog_3_method_1_code
def yX1_init : MethodName := ⟨RX1, "<init>", "()V"⟩
abbrev cX1_keep : ByteArray := prog_3_method_2_code
def yX1_keep : MethodName := ⟨RX1, "keep", "(LMusicBox$Works;)V"⟩
abbrev cX1_bringBack : ByteArray := prog_3_method_3_code
def yX1_bringBack : MethodName := ⟨RX1, "bringBack", "(LMusicBox$Works;)V"⟩
abbrev cX1_forget : ByteArray := prog_3_method_4_code
def yX1_forget : MethodName := ⟨RX1, "forget", "()V"⟩
def RX2 : String := "MusicBox$Row"
def TX2 : u_T := fun k => match k with
  | 0 => ("MusicBox$Row", "items", "[I", true)
  | 1 => ("MusicBox$Row", "there", "Z", false)
  | 2 => ("MusicBox$Row", "lane", "I", false)
  | _ => ("MusicBox$Row", "size", "I", false)
def tyX2 : Nat → FieldType := fun k => match k with
  | 0 => .array .int
  | 1 => .boolean
  | 2 => .int
  | _ => .int
abbrev wsX20 : List Cond := u_ws RX2 TX2 4
theorem nmX2 : ∀ a, a < 4 → ∀ b, b < 4 → a ≠ b → (TX2 a).2.1 ≠ (TX2 b).2.1 := by decide +kernel
theorem tyX2_ok : ∀ k, k < 4 → parseFieldDescriptor (TX2 k).2.2.1 = some (tyX2 k) := by decide +kernel
abbrev cX2_init : ByteArray := prog_4_method_1_code
def yX2_init : MethodName := ⟨RX2, "<init>", "()V"⟩
abbrev cX2_startOver : ByteArray := prog_4_method_2_code
def yX2_startOver : MethodName := ⟨RX2, "startOver", "(II)V"⟩
abbrev cX2_holds : ByteArray := prog_4_method_3_code
def yX2_holds : MethodName := ⟨RX2, "holds", "(II)Z"⟩
abbrev cX2_put : ByteArray := prog_4_method_4_code
def yX2_put : MethodName := ⟨RX2, "put", "(II)I"⟩
abbrev cX2_cut : ByteArray := prog_4_method_5_code
def yX2_cut : MethodName := ⟨RX2, "cut", "(I)I"⟩
def RX3 : String := "MusicBox$Seer"
def TX3 : u_T := fun k => match k with
  | 0 => ("MusicBox$Seer", "now", "LMusicBox$Works;", true)
  | 1 => ("MusicBox$Seer", "trial", "LMusicBox$Works;", true)
  | _ => ("MusicBox$Seer", "cases", "[LMusicBox$Works;", true)
def tyX3 : Nat → FieldType := fun k => match k with
  | 0 => .object "MusicBox$Works"
  | 1 => .object "MusicBox$Works"
  | _ => .array (.object "MusicBox$Works")
abbrev wsX30 : List Cond := u_ws RX3 TX3 3
theorem nmX3 : ∀ a, a < 3 → ∀ b, b < 3 → a ≠ b → (TX3 a).2.1 ≠ (TX3 b).2.1 := by decide +kernel
theorem tyX3_ok : ∀ k, k < 3 → parseFieldDescriptor (TX3 k).2.2.1 = some (tyX3 k) := by decide +kernel
abbrev cX3_init : ByteArray := prog_5_method_1_code
def yX3_init : MethodName := ⟨RX3, "<init>", "(LMusicBox$Works;)V"⟩
abbrev cX3_tryAhead : ByteArray := prog_5_method_2_code
def yX3_tryAhead : MethodName := ⟨RX3, "tryAhead", "(I)V"⟩
abbrev cX3_toothAhead : ByteArray := prog_5_method_3_code
def yX3_toothAhead : MethodName := ⟨RX3, "toothAhead", "(III)I"⟩
abbrev cX3_boxAhead : ByteArray := prog_5_method_4_code
def yX3_boxAhead : MethodName := ⟨RX3, "boxAhead", "(II)I"⟩
abbrev cX3_firstTick : ByteArray := prog_5_method_5_code
def yX3_firstTick : MethodName := ⟨RX3, "firstTick", "(II)I"⟩
abbrev cX3_firstStop : ByteArray := prog_5_method_6_code
def yX3_firstStop : MethodName := ⟨RX3, "firstStop", "()I"⟩
abbrev cX3_loudestPin : ByteArray := prog_5_method_7_code
def yX3_loudestPin : MethodName := ⟨RX3, "loudestPin", "(II)I"⟩
abbrev cX3_loudestColumn : ByteArray := prog_5_method_8_code
def yX3_loudestColumn : MethodName := ⟨RX3, "loudestColumn", "(II)I"⟩
abbrev cX3_leastSpring : ByteArray := prog_5_method_9_code
def yX3_leastSpring : MethodName := ⟨RX3, "leastSpring", "(I)I"⟩
abbrev cX3_columnsOfTune : ByteArray := prog_5_method_10_code
def yX3_columnsOfTune : MethodName := ⟨RX3, "columnsOfTune", "(LMusicBox$Row;II)I"⟩
abbrev cX3_standsFrom : ByteArray := prog_5_method_11_code
def yX3_standsFrom : MethodName := ⟨RX3, "standsFrom", "(ILMusicBox$Row;II)Z"⟩
abbrev cX3_setsThatRing : ByteArray := prog_5_method_12_code
def yX3_setsThatRing : MethodName := ⟨RX3, "setsThatRing", "(II)I"⟩
abbrev cX3_loudOf : ByteArray := prog_5_method_13_code
def yX3_loudOf : MethodName := ⟨RX3, "loudOf", "(I)I"⟩
abbrev cX3_wear : ByteArray := prog_5_method_14_code
def yX3_wear : MethodName := ⟨RX3, "wear", "(I)I"⟩
abbrev cX3_oilFor : ByteArray := prog_5_method_15_code
def yX3_oilFor : MethodName := ⟨RX3, "oilFor", "(II)I"⟩
abbrev cX3_outcomeOfTurns : ByteArray := prog_5_method_16_code
def yX3_outcomeOfTurns : MethodName := ⟨RX3, "outcomeOfTurns", "(II)I"⟩
abbrev cX3_outcome : ByteArray := prog_5_method_17_code
def yX3_outcome : MethodName := ⟨RX3, "outcome", "(IIIIZ)I"⟩
abbrev cX3_loudBehindTurns : ByteArray := prog_5_method_18_code
def yX3_loudBehindTurns : MethodName := ⟨RX3, "loudBehindTurns", "(IIZ)I"⟩
abbrev cX3_whatFits : ByteArray := prog_5_method_19_code
def yX3_whatFits : MethodName := ⟨RX3, "whatFits", "(IILMusicBox$Row;II)I"⟩
abbrev cX3_kindsThatFit : ByteArray := prog_5_method_20_code
def yX3_kindsThatFit : MethodName := ⟨RX3, "kindsThatFit", "(ILMusicBox$Row;II)I"⟩
abbrev cX3_tuningsThatFit : ByteArray := prog_5_method_21_code
def yX3_tuningsThatFit : MethodName := ⟨RX3, "tuningsThatFit", "(ILMusicBox$Row;II)I"⟩
abbrev cX3_columnsThatFit : ByteArray := prog_5_method_22_code
def yX3_columnsThatFit : MethodName := ⟨RX3, "columnsThatFit", "(LMusicBox$Row;II)I"⟩
abbrev cX3_springsThatFit : ByteArray := prog_5_method_23_code
def yX3_springsThatFit : MethodName := ⟨RX3, "springsThatFit", "(ILMusicBox$Row;II)I"⟩
abbrev cX3_trialIsHeardAs : ByteArray := prog_5_method_24_code
def yX3_trialIsHeardAs : MethodName := ⟨RX3, "trialIsHeardAs", "(LMusicBox$Row;II)Z"⟩
abbrev cX3_chanceOfRinging : ByteArray := prog_5_method_25_code
def yX3_chanceOfRinging : MethodName := ⟨RX3, "chanceOfRinging", "(IIII)J"⟩
abbrev cX3_weightOfRinging : ByteArray := prog_5_method_26_code
def yX3_weightOfRinging : MethodName := ⟨RX3, "weightOfRinging", "(IIIII)J"⟩
abbrev cX3_tenToThe : ByteArray := prog_5_method_27_code
def yX3_tenToThe : MethodName := ⟨RX3, "tenToThe", "(I)J"⟩
abbrev cX3_commonDivisor : ByteArray := prog_5_method_28_code
def yX3_commonDivisor : MethodName := ⟨RX3, "commonDivisor", "(JJ)J"⟩
abbrev cX3_days : ByteArray := prog_5_method_29_code
def yX3_days : MethodName := ⟨RX3, "days", "(III)I"⟩
abbrev cX3_draw : ByteArray := prog_5_method_30_code
def yX3_draw : MethodName := ⟨RX3, "draw", "(I)V"⟩
def RX4 : String := "MusicBox$Tape"
def TX4 : u_T := fun k => match k with
  | 0 => ("MusicBox$Tape", "bytes", "[I", true)
  | 1 => ("MusicBox$Tape", "length", "I", false)
  | 2 => ("MusicBox$Tape", "at", "I", false)
  | 3 => ("MusicBox$Tape", "fault", "I", false)
  | _ => ("MusicBox$Tape", "number", "I", false)
def tyX4 : Nat → FieldType := fun k => match k with
  | 0 => .array .int
  | 1 => .int
  | 2 => .int
  | 3 => .int
  | _ => .int
abbrev wsX40 : List Cond := u_ws RX4 TX4 5
theorem nmX4 : ∀ a, a < 5 → ∀ b, b < 5 → a ≠ b → (TX4 a).2.1 ≠ (TX4 b).2.1 := by decide +kernel
theorem tyX4_ok : ∀ k, k < 5 → parseFieldDescriptor (TX4 k).2.2.1 = some (tyX4 k) := by decide +kernel
abbrev cX4_init : ByteArray := prog_6_method_1_code
def yX4_init : MethodName := ⟨RX4, "<init>", "()V"⟩
abbrev cX4_add : ByteArray := prog_6_method_2_code
def yX4_add : MethodName := ⟨RX4, "add", "(I)I"⟩
abbrev cX4_readInto : ByteArray := prog_6_method_3_code
def yX4_readInto : MethodName := ⟨RX4, "readInto", "(LMusicBox$Works;)Z"⟩
abbrev cX4_readLaw : ByteArray := prog_6_method_4_code
def yX4_readLaw : MethodName := ⟨RX4, "readLaw", "(LMusicBox$Works;)Z"⟩
abbrev cX4_readColumns : ByteArray := prog_6_method_5_code
def yX4_readColumns : MethodName := ⟨RX4, "readColumns", "(LMusicBox$Works;)Z"⟩
abbrev cX4_readTeeth : ByteArray := prog_6_method_6_code
def yX4_readTeeth : MethodName := ⟨RX4, "readTeeth", "(LMusicBox$Works;)Z"⟩
abbrev cX4_kindOf : ByteArray := prog_6_method_7_code
def yX4_kindOf : MethodName := ⟨RX4, "kindOf", "(I)I"⟩
abbrev cX4_coming : ByteArray := prog_6_method_8_code
def yX4_coming : MethodName := ⟨RX4, "coming", "()I"⟩
abbrev cX4_take : ByteArray := prog_6_method_9_code
def yX4_take : MethodName := ⟨RX4, "take", "(I)Z"⟩
abbrev cX4_takeNumber : ByteArray := prog_6_method_10_code
def yX4_takeNumber : MethodName := ⟨RX4, "takeNumber", "(II)Z"⟩
abbrev cX4_fail : ByteArray := prog_6_method_11_code
def yX4_fail : MethodName := ⟨RX4, "fail", "(I)Z"⟩
def RX5 : String := "MusicBox$Works"
def TX5 : u_T := fun k => match k with
  | 0 => ("MusicBox$Works", "columns", "I", false)
  | 1 => ("MusicBox$Works", "teeth", "I", false)
  | 2 => ("MusicBox$Works", "spring", "I", false)
  | 3 => ("MusicBox$Works", "column", "I", false)
  | 4 => ("MusicBox$Works", "tick", "I", false)
  | 5 => ("MusicBox$Works", "broken", "I", false)
  | 6 => ("MusicBox$Works", "pinned", "[I", true)
  | 7 => ("MusicBox$Works", "kinds", "[I", true)
  | 8 => ("MusicBox$Works", "tuned", "[I", true)
  | 9 => ("MusicBox$Works", "rings", "[I", true)
  | _ => ("MusicBox$Works", "plucked", "[I", true)
def tyX5 : Nat → FieldType := fun k => match k with
  | 0 => .int
  | 1 => .int
  | 2 => .int
  | 3 => .int
  | 4 => .int
  | 5 => .int
  | 6 => .array .int
  | 7 => .array .int
  | 8 => .array .int
  | 9 => .array .int
  | _ => .array .int
abbrev wsX50 : List Cond := u_ws RX5 TX5 11
theorem nmX5 : ∀ a, a < 11 → ∀ b, b < 11 → a ≠ b → (TX5 a).2.1 ≠ (TX5 b).2.1 := by decide +kernel
theorem tyX5_ok : ∀ k, k < 11 → parseFieldDescriptor (TX5 k).2.2.1 = some (tyX5 k) := by decide +kernel
abbrev cX5_init : ByteArray := prog_7_method_1_code
def yX5_init : MethodName := ⟨RX5, "<init>", "()V"⟩
abbrev cX5_takeFrom : ByteArray := prog_7_method_2_code
def yX5_takeFrom : MethodName := ⟨RX5, "takeFrom", "(LMusicBox$Works;)V"⟩
abbrev cX5_clear : ByteArray := prog_7_method_3_code
def yX5_clear : MethodName := ⟨RX5, "clear", "()V"⟩
abbrev cX5_turn : ByteArray := prog_7_method_4_code
def yX5_turn : MethodName := ⟨RX5, "turn", "()I"⟩
abbrev cX5_faded : ByteArray := prog_7_method_5_code
def yX5_faded : MethodName := ⟨RX5, "faded", "(II)I"⟩
abbrev cX5_pluck : ByteArray := prog_7_method_6_code
def yX5_pluck : MethodName := ⟨RX5, "pluck", "(I)V"⟩
abbrev cX5_stir : ByteArray := prog_7_method_7_code
def yX5_stir : MethodName := ⟨RX5, "stir", "(II)V"⟩
abbrev cX5_columnBehind : ByteArray := prog_7_method_8_code
def yX5_columnBehind : MethodName := ⟨RX5, "columnBehind", "()I"⟩
abbrev cX5_windBy : ByteArray := prog_7_method_9_code
def yX5_windBy : MethodName := ⟨RX5, "windBy", "(I)V"⟩
abbrev cX5_togglePin : ByteArray := prog_7_method_10_code
def yX5_togglePin : MethodName := ⟨RX5, "togglePin", "(II)V"⟩
abbrev cX5_isBroken : ByteArray := prog_7_method_11_code
def yX5_isBroken : MethodName := ⟨RX5, "isBroken", "(I)Z"⟩
abbrev cX5_makeWhole : ByteArray := prog_7_method_12_code
def yX5_makeWhole : MethodName := ⟨RX5, "makeWhole", "(I)V"⟩
abbrev cX5_loud : ByteArray := prog_7_method_13_code
def yX5_loud : MethodName := ⟨RX5, "loud", "()I"⟩
abbrev cX5_ringing : ByteArray := prog_7_method_14_code
def yX5_ringing : MethodName := ⟨RX5, "ringing", "()I"⟩
abbrev cX5_pluckedInAll : ByteArray := prog_7_method_15_code
def yX5_pluckedInAll : MethodName := ⟨RX5, "pluckedInAll", "()I"⟩
abbrev cX5_columnsOf : ByteArray := prog_7_method_16_code
def yX5_columnsOf : MethodName := ⟨RX5, "columnsOf", "(I)I"⟩
abbrev cX5_turnTimes : ByteArray := prog_7_method_17_code
def yX5_turnTimes : MethodName := ⟨RX5, "turnTimes", "(I)V"⟩
abbrev cX5_loudOver : ByteArray := prog_7_method_18_code
def yX5_loudOver : MethodName := ⟨RX5, "loudOver", "(I)I"⟩
abbrev cX5_comesTo : ByteArray := prog_7_method_19_code
def yX5_comesTo : MethodName := ⟨RX5, "comesTo", "(I)Z"⟩
def RX6 : String := "MusicBox"
def TX6 : u_T := fun k => match k with
  | 0 => ("MusicBox", "rows", "[LMusicBox$Row;", true)
  | 1 => ("MusicBox", "images", "[LMusicBox$Works;", true)
  | 2 => ("MusicBox", "now", "LMusicBox$Works;", true)
  | 3 => ("MusicBox", "draft", "LMusicBox$Works;", true)
  | 4 => ("MusicBox", "tape", "LMusicBox$Tape;", true)
  | 5 => ("MusicBox", "past", "LMusicBox$Past;", true)
  | 6 => ("MusicBox", "seer", "LMusicBox$Seer;", true)
  | 7 => ("MusicBox", "asking", "LMusicBox$Asking;", true)
  | 8 => ("MusicBox", "latestFinding", "I", false)
  | _ => ("MusicBox", "latestFault", "I", false)
def tyX6 : Nat → FieldType := fun k => match k with
  | 0 => .array (.object "MusicBox$Row")
  | 1 => .array (.object "MusicBox$Works")
  | 2 => .object "MusicBox$Works"
  | 3 => .object "MusicBox$Works"
  | 4 => .object "MusicBox$Tape"
  | 5 => .object "MusicBox$Past"
  | 6 => .object "MusicBox$Seer"
  | 7 => .object "MusicBox$Asking"
  | 8 => .int
  | _ => .int
abbrev wsX60 : List Cond := u_ws RX6 TX6 10
theorem nmX6 : ∀ a, a < 10 → ∀ b, b < 10 → a ≠ b → (TX6 a).2.1 ≠ (TX6 b).2.1 := by decide +kernel
theorem tyX6_ok : ∀ k, k < 10 → parseFieldDescriptor (TX6 k).2.2.1 = some (tyX6 k) := by decide +kernel
abbrev cX6_init : ByteArray := prog_1_method_1_code
def yX6_init : MethodName := ⟨RX6, "<init>", "()V"⟩
abbrev cX6_row : ByteArray := prog_1_method_2_code
def yX6_row : MethodName := ⟨RX6, "row", "(III)I"⟩
abbrev cX6_set : ByteArray := prog_1_method_3_code
def yX6_set : MethodName := ⟨RX6, "set", "(III)I"⟩
abbrev cX6_copy : ByteArray := prog_1_method_4_code
def yX6_copy : MethodName := ⟨RX6, "copy", "(IIIII)I"⟩
abbrev cX6_drop : ByteArray := prog_1_method_5_code
def yX6_drop : MethodName := ⟨RX6, "drop", "(I)I"⟩
abbrev cX6_feed : ByteArray := prog_1_method_6_code
def yX6_feed : MethodName := ⟨RX6, "feed", "(I)I"⟩
abbrev cX6_box : ByteArray := prog_1_method_7_code
def yX6_box : MethodName := ⟨RX6, "box", "()I"⟩
abbrev cX6_fault : ByteArray := prog_1_method_8_code
def yX6_fault : MethodName := ⟨RX6, "fault", "()I"⟩
abbrev cX6_undo : ByteArray := prog_1_method_9_code
def yX6_undo : MethodName := ⟨RX6, "undo", "()I"⟩
abbrev cX6_ticks : ByteArray := prog_1_method_10_code
def yX6_ticks : MethodName := ⟨RX6, "ticks", "(I)I"⟩
abbrev cX6_wind : ByteArray := prog_1_method_11_code
def yX6_wind : MethodName := ⟨RX6, "wind", "(I)I"⟩
abbrev cX6_pin : ByteArray := prog_1_method_12_code
def yX6_pin : MethodName := ⟨RX6, "pin", "(II)I"⟩
abbrev cX6_drum : ByteArray := prog_1_method_13_code
def yX6_drum : MethodName := ⟨RX6, "drum", "(I)I"⟩
abbrev cX6_mend : ByteArray := prog_1_method_14_code
def yX6_mend : MethodName := ⟨RX6, "mend", "(I)I"⟩
abbrev cX6_tooth : ByteArray := prog_1_method_15_code
def yX6_tooth : MethodName := ⟨RX6, "tooth", "(II)I"⟩
abbrev cX6_pins : ByteArray := prog_1_method_16_code
def yX6_pins : MethodName := ⟨RX6, "pins", "(I)I"⟩
abbrev cX6_stand : ByteArray := prog_1_method_17_code
def yX6_stand : MethodName := ⟨RX6, "stand", "(I)I"⟩
abbrev cX6_ahead : ByteArray := prog_1_method_18_code
def yX6_ahead : MethodName := ⟨RX6, "ahead", "(III)I"⟩
abbrev cX6_heard : ByteArray := prog_1_method_19_code
def yX6_heard : MethodName := ⟨RX6, "heard", "(II)I"⟩
abbrev cX6_when : ByteArray := prog_1_method_20_code
def yX6_when : MethodName := ⟨RX6, "when", "(II)I"⟩
abbrev cX6_stops : ByteArray := prog_1_method_21_code
def yX6_stops : MethodName := ⟨RX6, "stops", "()I"⟩
abbrev cX6_bestPin : ByteArray := prog_1_method_22_code
def yX6_bestPin : MethodName := ⟨RX6, "bestPin", "(II)I"⟩
abbrev cX6_begin : ByteArray := prog_1_method_23_code
def yX6_begin : MethodName := ⟨RX6, "begin", "(II)I"⟩
abbrev cX6_least : ByteArray := prog_1_method_24_code
def yX6_least : MethodName := ⟨RX6, "least", "(I)I"⟩
abbrev cX6_tune : ByteArray := prog_1_method_25_code
def yX6_tune : MethodName := ⟨RX6, "tune", "(III)I"⟩
abbrev cX6_sets : ByteArray := prog_1_method_26_code
def yX6_sets : MethodName := ⟨RX6, "sets", "(II)I"⟩
abbrev cX6_share : ByteArray := prog_1_method_27_code
def yX6_share : MethodName := ⟨RX6, "share", "(II)I"⟩
abbrev cX6_byTurns : ByteArray := prog_1_method_28_code
def yX6_byTurns : MethodName := ⟨RX6, "byTurns", "(II)I"⟩
abbrev cX6_who : ByteArray := prog_1_method_29_code
def yX6_who : MethodName := ⟨RX6, "who", "(IIIII)I"⟩
abbrev cX6_lost : ByteArray := prog_1_method_30_code
def yX6_lost : MethodName := ⟨RX6, "lost", "(IIII)J"⟩
abbrev cX6_drawn : ByteArray := prog_1_method_31_code
def yX6_drawn : MethodName := ⟨RX6, "drawn", "(III)I"⟩
abbrev cX6_image : ByteArray := prog_1_method_32_code
def yX6_image : MethodName := ⟨RX6, "image", "(I)I"⟩
abbrev cX6_restore : ByteArray := prog_1_method_33_code
def yX6_restore : MethodName := ⟨RX6, "restore", "(I)I"⟩
abbrev cX6_kind : ByteArray := prog_1_method_34_code
def yX6_kind : MethodName := ⟨RX6, "kind", "(I)I"⟩
abbrev cX6_as : ByteArray := prog_1_method_35_code
def yX6_as : MethodName := ⟨RX6, "as", "(II)I"⟩
abbrev cX6_ask : ByteArray := prog_1_method_36_code
def yX6_ask : MethodName := ⟨RX6, "ask", "(II)I"⟩
abbrev cX6_trace : ByteArray := prog_1_method_37_code
def yX6_trace : MethodName := ⟨RX6, "trace", "(I)I"⟩
abbrev cX6_count : ByteArray := prog_1_method_38_code
def yX6_count : MethodName := ⟨RX6, "count", "(I)I"⟩
abbrev cX6_status : ByteArray := prog_1_method_39_code
def yX6_status : MethodName := ⟨RX6, "status", "()I"⟩
abbrev cX6_within : ByteArray := prog_1_method_40_code
def yX6_within : MethodName := ⟨RX6, "within", "(III)Z"⟩
abbrev cX6_isRow : ByteArray := prog_1_method_41_code
def yX6_isRow : MethodName := ⟨RX6, "isRow", "(I)Z"⟩
abbrev cX6_isOfKind : ByteArray := prog_1_method_42_code
def yX6_isOfKind : MethodName := ⟨RX6, "isOfKind", "(II)Z"⟩
abbrev cX6_hasBox : ByteArray := prog_1_method_43_code
def yX6_hasBox : MethodName := ⟨RX6, "hasBox", "()Z"⟩
abbrev cX6_hasTooth : ByteArray := prog_1_method_44_code
def yX6_hasTooth : MethodName := ⟨RX6, "hasTooth", "(I)Z"⟩
abbrev cX6_hasColumn : ByteArray := prog_1_method_45_code
def yX6_hasColumn : MethodName := ⟨RX6, "hasColumn", "(I)Z"⟩
abbrev cX6_rowsThere : ByteArray := prog_1_method_46_code
def yX6_rowsThere : MethodName := ⟨RX6, "rowsThere", "()I"⟩
abbrev cX6_findingOf : ByteArray := prog_1_method_47_code
def yX6_findingOf : MethodName := ⟨RX6, "findingOf", "(LMusicBox$Row;II)I"⟩
abbrev cX6_found : ByteArray := prog_1_method_48_code
def yX6_found : MethodName := ⟨RX6, "found", "(I)I"⟩
abbrev cX6_unfound : ByteArray := prog_1_method_49_code
def yX6_unfound : MethodName := ⟨RX6, "unfound", "(I)I"⟩
def RX7 : String := "MusicBoxModel"
def TX7 : u_T := fun k => match k with
  | 0 => ("MusicBoxModel", "w", "[I", true)
  | 1 => ("MusicBoxModel", "undoes", "I", false)
  | 2 => ("MusicBoxModel", "tape", "[I", true)
  | 3 => ("MusicBoxModel", "taped", "I", false)
  | 4 => ("MusicBoxModel", "faulty", "I", false)
  | 5 => ("MusicBoxModel", "status", "I", false)
  | 6 => ("MusicBoxModel", "many", "[I", true)
  | 7 => ("MusicBoxModel", "lane", "[I", true)
  | 8 => ("MusicBoxModel", "items", "[I", true)
  | 9 => ("MusicBoxModel", "held", "[I", true)
  | 10 => ("MusicBoxModel", "at", "I", false)
  | 11 => ("MusicBoxModel", "start", "I", false)
  | 12 => ("MusicBoxModel", "number", "I", false)
  | 13 => ("MusicBoxModel", "value", "[I", true)
  | 14 => ("MusicBoxModel", "hasPin", "[I", true)
  | 15 => ("MusicBoxModel", "isKept", "[Z", true)
  | 16 => ("MusicBoxModel", "trace", "[I", true)
  | _ => ("MusicBoxModel", "traced", "I", false)
def tyX7 : Nat → FieldType := fun k => match k with
  | 0 => .array .int
  | 1 => .int
  | 2 => .array .int
  | 3 => .int
  | 4 => .int
  | 5 => .int
  | 6 => .array .int
  | 7 => .array .int
  | 8 => .array .int
  | 9 => .array .int
  | 10 => .int
  | 11 => .int
  | 12 => .int
  | 13 => .array .int
  | 14 => .array .int
  | 15 => .array .boolean
  | 16 => .array .int
  | _ => .int
abbrev wsX70 : List Cond := u_ws RX7 TX7 18
theorem nmX7 : ∀ a, a < 18 → ∀ b, b < 18 → a ≠ b → (TX7 a).2.1 ≠ (TX7 b).2.1 := by decide +kernel
theorem tyX7_ok : ∀ k, k < 18 → parseFieldDescriptor (TX7 k).2.2.1 = some (tyX7 k) := by decide +kernel
abbrev cX7_init : ByteArray := prog_9_method_1_code
def yX7_init : MethodName := ⟨RX7, "<init>", "()V"⟩
abbrev cX7_in : ByteArray := prog_9_method_3_code
def yX7_in : MethodName := ⟨RX7, "in", "(JJJ)Z"⟩
abbrev cX7_has : ByteArray := prog_9_method_4_code
def yX7_has : MethodName := ⟨RX7, "has", "(II)Z"⟩
abbrev cX7_copyOf : ByteArray := prog_9_method_5_code
def yX7_copyOf : MethodName := ⟨RX7, "copyOf", "(II)V"⟩
abbrev cX7_isTooth : ByteArray := prog_9_method_6_code
def yX7_isTooth : MethodName := ⟨RX7, "isTooth", "(I)Z"⟩
abbrev cX7_isColumn : ByteArray := prog_9_method_7_code
def yX7_isColumn : MethodName := ⟨RX7, "isColumn", "(I)Z"⟩
abbrev cX7_isBox : ByteArray := prog_9_method_8_code
def yX7_isBox : MethodName := ⟨RX7, "isBox", "()Z"⟩
abbrev cX7_isRow : ByteArray := prog_9_method_9_code
def yX7_isRow : MethodName := ⟨RX7, "isRow", "(I)Z"⟩
abbrev cX7_finds : ByteArray := prog_9_method_10_code
def yX7_finds : MethodName := ⟨RX7, "finds", "(I)I"⟩
abbrev cX7_against : ByteArray := prog_9_method_11_code
def yX7_against : MethodName := ⟨RX7, "against", "(III)I"⟩
abbrev cX7_row : ByteArray := prog_9_method_12_code
def yX7_row : MethodName := ⟨RX7, "row", "(III)I"⟩
abbrev cX7_set : ByteArray := prog_9_method_13_code
def yX7_set : MethodName := ⟨RX7, "set", "(III)I"⟩
abbrev cX7_copy : ByteArray := prog_9_method_14_code
def yX7_copy : MethodName := ⟨RX7, "copy", "(IIIII)I"⟩
abbrev cX7_drop : ByteArray := prog_9_method_15_code
def yX7_drop : MethodName := ⟨RX7, "drop", "(I)I"⟩
abbrev cX7_feed : ByteArray := prog_9_method_16_code
def yX7_feed : MethodName := ⟨RX7, "feed", "(I)I"⟩
abbrev cX7_here : ByteArray := prog_9_method_17_code
def yX7_here : MethodName := ⟨RX7, "here", "()I"⟩
abbrev cX7_fails : ByteArray := prog_9_method_18_code
def yX7_fails : MethodName := ⟨RX7, "fails", "(II)Z"⟩
abbrev cX7_takes : ByteArray := prog_9_method_19_code
def yX7_takes : MethodName := ⟨RX7, "takes", "(I)Z"⟩
abbrev cX7_takesNumber : ByteArray := prog_9_method_20_code
def yX7_takesNumber : MethodName := ⟨RX7, "takesNumber", "(II)Z"⟩
abbrev cX7_kindOf : ByteArray := prog_9_method_21_code
def yX7_kindOf : MethodName := ⟨RX7, "kindOf", "(I)I"⟩
abbrev cX7_takesLaw : ByteArray := prog_9_method_22_code
def yX7_takesLaw : MethodName := ⟨RX7, "takesLaw", "()Z"⟩
abbrev cX7_takesColumn : ByteArray := prog_9_method_23_code
def yX7_takesColumn : MethodName := ⟨RX7, "takesColumn", "()Z"⟩
abbrev cX7_takesTooth : ByteArray := prog_9_method_24_code
def yX7_takesTooth : MethodName := ⟨RX7, "takesTooth", "()Z"⟩
abbrev cX7_takesAll : ByteArray := prog_9_method_25_code
def yX7_takesAll : MethodName := ⟨RX7, "takesAll", "()Z"⟩
abbrev cX7_box : ByteArray := prog_9_method_26_code
def yX7_box : MethodName := ⟨RX7, "box", "()I"⟩
abbrev cX7_fault : ByteArray := prog_9_method_27_code
def yX7_fault : MethodName := ⟨RX7, "fault", "()I"⟩
abbrev cX7_fades : ByteArray := prog_9_method_28_code
def yX7_fades : MethodName := ⟨RX7, "fades", "(I)V"⟩
abbrev cX7_plucks : ByteArray := prog_9_method_29_code
def yX7_plucks : MethodName := ⟨RX7, "plucks", "(II)V"⟩
abbrev cX7_passes : ByteArray := prog_9_method_30_code
def yX7_passes : MethodName := ⟨RX7, "passes", "(I)V"⟩
abbrev cX7_loud : ByteArray := prog_9_method_31_code
def yX7_loud : MethodName := ⟨RX7, "loud", "(I)I"⟩
abbrev cX7_ringing : ByteArray := prog_9_method_32_code
def yX7_ringing : MethodName := ⟨RX7, "ringing", "(I)I"⟩
abbrev cX7_mends : ByteArray := prog_9_method_33_code
def yX7_mends : MethodName := ⟨RX7, "mends", "(II)V"⟩
abbrev cX7_minds : ByteArray := prog_9_method_34_code
def yX7_minds : MethodName := ⟨RX7, "minds", "()V"⟩
abbrev cX7_undo : ByteArray := prog_9_method_35_code
def yX7_undo : MethodName := ⟨RX7, "undo", "()I"⟩
abbrev cX7_ticks : ByteArray := prog_9_method_36_code
def yX7_ticks : MethodName := ⟨RX7, "ticks", "(I)I"⟩
abbrev cX7_wind : ByteArray := prog_9_method_37_code
def yX7_wind : MethodName := ⟨RX7, "wind", "(I)I"⟩
abbrev cX7_pin : ByteArray := prog_9_method_38_code
def yX7_pin : MethodName := ⟨RX7, "pin", "(II)I"⟩
abbrev cX7_drum : ByteArray := prog_9_method_39_code
def yX7_drum : MethodName := ⟨RX7, "drum", "(I)I"⟩
abbrev cX7_mend : ByteArray := prog_9_method_40_code
def yX7_mend : MethodName := ⟨RX7, "mend", "(I)I"⟩
abbrev cX7_columnsOf : ByteArray := prog_9_method_41_code
def yX7_columnsOf : MethodName := ⟨RX7, "columnsOf", "(II)I"⟩
abbrev cX7_tooth : ByteArray := prog_9_method_42_code
def yX7_tooth : MethodName := ⟨RX7, "tooth", "(II)I"⟩
abbrev cX7_pins : ByteArray := prog_9_method_43_code
def yX7_pins : MethodName := ⟨RX7, "pins", "(I)I"⟩
abbrev cX7_stand : ByteArray := prog_9_method_44_code
def yX7_stand : MethodName := ⟨RX7, "stand", "(I)I"⟩
abbrev cX7_tries : ByteArray := prog_9_method_45_code
def yX7_tries : MethodName := ⟨RX7, "tries", "()V"⟩
abbrev cX7_goesOn : ByteArray := prog_9_method_46_code
def yX7_goesOn : MethodName := ⟨RX7, "goesOn", "(I)V"⟩
abbrev cX7_sumOf : ByteArray := prog_9_method_47_code
def yX7_sumOf : MethodName := ⟨RX7, "sumOf", "(I)I"⟩
abbrev cX7_ahead : ByteArray := prog_9_method_48_code
def yX7_ahead : MethodName := ⟨RX7, "ahead", "(III)I"⟩
abbrev cX7_heard : ByteArray := prog_9_method_49_code
def yX7_heard : MethodName := ⟨RX7, "heard", "(II)I"⟩
abbrev cX7_when : ByteArray := prog_9_method_50_code
def yX7_when : MethodName := ⟨RX7, "when", "(II)I"⟩
abbrev cX7_stops : ByteArray := prog_9_method_51_code
def yX7_stops : MethodName := ⟨RX7, "stops", "()I"⟩
abbrev cX7_bestPin : ByteArray := prog_9_method_52_code
def yX7_bestPin : MethodName := ⟨RX7, "bestPin", "(II)I"⟩
abbrev cX7_begin : ByteArray := prog_9_method_53_code
def yX7_begin : MethodName := ⟨RX7, "begin", "(II)I"⟩
abbrev cX7_least : ByteArray := prog_9_method_54_code
def yX7_least : MethodName := ⟨RX7, "least", "(I)I"⟩
abbrev cX7_tune : ByteArray := prog_9_method_55_code
def yX7_tune : MethodName := ⟨RX7, "tune", "(III)I"⟩
abbrev cX7_sets : ByteArray := prog_9_method_56_code
def yX7_sets : MethodName := ⟨RX7, "sets", "(II)I"⟩
abbrev cX7_share : ByteArray := prog_9_method_57_code
def yX7_share : MethodName := ⟨RX7, "share", "(II)I"⟩
abbrev cX7_loudBy : ByteArray := prog_9_method_58_code
def yX7_loudBy : MethodName := ⟨RX7, "loudBy", "(III)I"⟩
abbrev cX7_byTurns : ByteArray := prog_9_method_59_code
def yX7_byTurns : MethodName := ⟨RX7, "byTurns", "(II)I"⟩
abbrev cX7_isSo : ByteArray := prog_9_method_60_code
def yX7_isSo : MethodName := ⟨RX7, "isSo", "(II)Z"⟩
abbrev cX7_who : ByteArray := prog_9_method_61_code
def yX7_who : MethodName := ⟨RX7, "who", "(IIIII)I"⟩
abbrev cX7_lost : ByteArray := prog_9_method_62_code
def yX7_lost : MethodName := ⟨RX7, "lost", "(IIII)J"⟩
abbrev cX7_drawn : ByteArray := prog_9_method_63_code
def yX7_drawn : MethodName := ⟨RX7, "drawn", "(III)I"⟩
abbrev cX7_image : ByteArray := prog_9_method_64_code
def yX7_image : MethodName := ⟨RX7, "image", "(I)I"⟩
abbrev cX7_restore : ByteArray := prog_9_method_65_code
def yX7_restore : MethodName := ⟨RX7, "restore", "(I)I"⟩
abbrev cX7_kind : ByteArray := prog_9_method_66_code
def yX7_kind : MethodName := ⟨RX7, "kind", "(I)I"⟩
abbrev cX7_isA : ByteArray := prog_9_method_67_code
def yX7_isA : MethodName := ⟨RX7, "isA", "(II)Z"⟩
abbrev cX7_as : ByteArray := prog_9_method_68_code
def yX7_as : MethodName := ⟨RX7, "as", "(II)I"⟩
abbrev cX7_traces : ByteArray := prog_9_method_69_code
def yX7_traces : MethodName := ⟨RX7, "traces", "(I)V"⟩
abbrev cX7_size10 : ByteArray := prog_9_method_70_code
def yX7_size10 : MethodName := ⟨RX7, "size10", "(I)I"⟩
abbrev cX7_size11 : ByteArray := prog_9_method_71_code
def yX7_size11 : MethodName := ⟨RX7, "size11", "(I)I"⟩
abbrev cX7_size13 : ByteArray := prog_9_method_72_code
def yX7_size13 : MethodName := ⟨RX7, "size13", "(I)I"⟩
abbrev cX7_sizeOf : ByteArray := prog_9_method_73_code
def yX7_sizeOf : MethodName := ⟨RX7, "sizeOf", "(I)I"⟩
abbrev cX7_mark20 : ByteArray := prog_9_method_74_code
def yX7_mark20 : MethodName := ⟨RX7, "mark20", "(I)I"⟩
abbrev cX7_mark21 : ByteArray := prog_9_method_75_code
def yX7_mark21 : MethodName := ⟨RX7, "mark21", "(I)I"⟩
abbrev cX7_markOf : ByteArray := prog_9_method_76_code
def yX7_markOf : MethodName := ⟨RX7, "markOf", "(I)I"⟩
abbrev cX7_mark23 : ByteArray := prog_9_method_77_code
def yX7_mark23 : MethodName := ⟨RX7, "mark23", "(I)I"⟩
abbrev cX7_ask : ByteArray := prog_9_method_78_code
def yX7_ask : MethodName := ⟨RX7, "ask", "(II)I"⟩
abbrev cX7_trace : ByteArray := prog_9_method_79_code
def yX7_trace : MethodName := ⟨RX7, "trace", "(I)I"⟩
abbrev cX7_rowsThere : ByteArray := prog_9_method_80_code
def yX7_rowsThere : MethodName := ⟨RX7, "rowsThere", "()I"⟩
abbrev cX7_pluckedAll : ByteArray := prog_9_method_81_code
def yX7_pluckedAll : MethodName := ⟨RX7, "pluckedAll", "()I"⟩
abbrev cX7_count : ByteArray := prog_9_method_82_code
def yX7_count : MethodName := ⟨RX7, "count", "(I)I"⟩
abbrev cX7_status : ByteArray := prog_9_method_83_code
def yX7_status : MethodName := ⟨RX7, "status", "()I"⟩
def RJ6 : String := "java/lang/Integer"
def TJ6 : u_T := fun k => match k with
  | _ => ("", "", "", false)
def tyJ6 : Nat → FieldType := fun k => match k with
  | _ => .int
abbrev wsJ60 : List Cond := u_ws RJ6 TJ6 0
theorem nmJ6 : ∀ a, a < 0 → ∀ b, b < 0 → a ≠ b → (TJ6 a).2.1 ≠ (TJ6 b).2.1 := by decide +kernel
theorem tyJ6_ok : ∀ k, k < 0 → parseFieldDescriptor (TJ6 k).2.2.1 = some (tyJ6 k) := by decide +kernel
abbrev cJ6_bitCount_0f7a4 : ByteArray := prog_10_method_49_code
def yJ6_bitCount_0f7a4 : MethodName := ⟨RJ6, "bitCount", "(I)I"⟩
def RJ9 : String := "java/lang/Math"
def TJ9 : u_T := fun k => match k with
  | _ => ("", "", "", false)
def tyJ9 : Nat → FieldType := fun k => match k with
  | _ => .int
abbrev wsJ90 : List Cond := u_ws RJ9 TJ9 0
theorem nmJ9 : ∀ a, a < 0 → ∀ b, b < 0 → a ≠ b → (TJ9 a).2.1 ≠ (TJ9 b).2.1 := by decide +kernel
theorem tyJ9_ok : ∀ k, k < 0 → parseFieldDescriptor (TJ9 k).2.2.1 = some (tyJ9 k) := by decide +kernel
abbrev cJ9_max_7cf53 : ByteArray := prog_11_method_65_code
def yJ9_max_7cf53 : MethodName := ⟨RJ9, "max", "(II)I"⟩
abbrev cJ9_min_7cf53 : ByteArray := prog_11_method_69_code
def yJ9_min_7cf53 : MethodName := ⟨RJ9, "min", "(II)I"⟩
def RJ10 : String := "java/lang/System"
def TJ10 : u_T := fun k => match k with
  | _ => ("", "", "", false)
def tyJ10 : Nat → FieldType := fun k => match k with
  | _ => .int
abbrev wsJ100 : List Cond := u_ws RJ10 TJ10 0
theorem nmJ10 : ∀ a, a < 0 → ∀ b, b < 0 → a ≠ b → (TJ10 a).2.1 ≠ (TJ10 b).2.1 := by decide +kernel
theorem tyJ10_ok : ∀ k, k < 0 → parseFieldDescriptor (TJ10 k).2.2.1 = some (tyJ10 k) := by decide +kernel
def RJ7 : String := "java/util/Arrays"
def TJ7 : u_T := fun k => match k with
  | _ => ("", "", "", false)
def tyJ7 : Nat → FieldType := fun k => match k with
  | _ => .int
abbrev wsJ70 : List Cond := u_ws RJ7 TJ7 0
theorem nmJ7 : ∀ a, a < 0 → ∀ b, b < 0 → a ≠ b → (TJ7 a).2.1 ≠ (TJ7 b).2.1 := by decide +kernel
theorem tyJ7_ok : ∀ k, k < 0 → parseFieldDescriptor (TJ7 k).2.2.1 = some (tyJ7 k) := by decide +kernel
abbrev cJ7_fill_53178 : ByteArray := prog_13_method_103_code
def yJ7_fill_53178 : MethodName := ⟨RJ7, "fill", "([II)V"⟩
def RL : String := "MusicBoxLaw"
abbrev cL_law : ByteArray := code
def yL_law : MethodName := ⟨RL, "law", "([I)Z"⟩
abbrev vwCl : List vw_C := [(RX0, TX0, 3), (RX1, TX1, 3), (RX2, TX2, 4), (RX3, TX3, 3), (RX4, TX4, 5), (RX5, TX5, 11), (RX6, TX6, 10), (RX7, TX7, 18)]
end
section
theorem dX0_init_0 : decode cX0_init 0 = .ok (.aload_n 0, 1) := by decide +kernel
theorem dX0_init_1 : decode cX0_init 1 = .ok (.invokespecial 3, 3) := by decide +kernel
theorem dX0_init_4 : decode cX0_init 4 = .ok (.aload_n 0, 1) := by decide +kernel
theorem dX0_init_5 : decode cX0_init 5 = .ok (.bipush 16, 2) := by decide +kernel
theorem dX0_init_7 : decode cX0_init 7 = .ok (.newarray .int, 2) := by decide +kernel
theorem dX0_init_9 : decode cX0_init 9 = .ok (.putfield 9, 3) := by decide +kernel
theorem dX0_init_12 : decode cX0_init 12 = .ok (.aload_n 0, 1) := by decide +kernel
theorem dX0_init_13 : decode cX0_init 13 = .ok (.aload_n 1, 1) := by decide +kernel
theorem dX0_init_14 : decode cX0_init 14 = .ok (.putfield 15, 3) := by decide +kernel
theorem dX0_init_17 : decode cX0_init 17 = .ok (.return_, 1) := by decide +kernel
theorem dX0_start_0 : decode cX0_start 0 = .ok (.aload_n 0, 1) := by decide +kernel
theorem dX0_start_1 : decode cX0_start 1 = .ok (.iconst 0, 1) := by decide +kernel
theorem dX0_start_2 : decode cX0_start 2 = .ok (.putfield 19, 3) := by decide +kernel
theorem dX0_start_5 : decode cX0_start 5 = .ok (.aload_n 0, 1) := by decide +kernel
theorem dX0_start_6 : decode cX0_start 6 = .ok (.iload_n 1, 1) := by decide +kernel
theorem dX0_start_7 : decode cX0_start 7 = .ok (.iload_n 2, 1) := by decide +kernel
theorem dX0_start_8 : decode cX0_start 8 = .ok (.iconst 0, 1) := by decide +kernel
theorem dX0_start_9 : decode cX0_start 9 = .ok (.invokevirtual 23, 3) := by decide +kernel
theorem dX0_start_12 : decode cX0_start 12 = .ok (.ireturn, 1) := by decide +kernel
theorem dX0_answer_0 : decode cX0_answer 0 = .ok (.aload_n 0, 1) := by decide +kernel
theorem dX0_answer_1 : decode cX0_answer 1 = .ok (.getfield 15, 3) := by decide +kernel
theorem dX0_answer_4 : decode cX0_answer 4 = .ok (.getfield 27, 3) := by decide +kernel
theorem dX0_answer_7 : decode cX0_answer 7 = .ok (.iload_n 2, 1) := by decide +kernel
theorem dX0_answer_8 : decode cX0_answer 8 = .ok (.iaload, 1) := by decide +kernel
theorem dX0_answer_9 : decode cX0_answer 9 = .ok (.istore 4, 2) := by decide +kernel
theorem dX0_answer_11 : decode cX0_answer 11 = .ok (.aload_n 0, 1) := by decide +kernel
theorem dX0_answer_12 : decode cX0_answer 12 = .ok (.iload_n 1, 1) := by decide +kernel
theorem dX0_answer_13 : decode cX0_answer 13 = .ok (.ifCond .ne 12, 3) := by decide +kernel
theorem dX0_answer_16 : decode cX0_answer 16 = .ok (.getstatic 32, 3) := by decide +kernel
theorem dX0_answer_19 : decode cX0_answer 19 = .ok (.iload 4, 2) := by decide +kernel
theorem dX0_answer_21 : decode cX0_answer 21 = .ok (.iaload, 1) := by decide +kernel
theorem dX0_answer_22 : decode cX0_answer 22 = .ok (.goto 9, 3) := by decide +kernel
theorem dX0_answer_25 : decode cX0_answer 25 = .ok (.getstatic 35, 3) := by decide +kernel
theorem dX0_answer_28 : decode cX0_answer 28 = .ok (.iload 4, 2) := by decide +kernel
theorem dX0_answer_30 : decode cX0_answer 30 = .ok (.iaload, 1) := by decide +kernel
theorem dX0_answer_31 : decode cX0_answer 31 = .ok (.iload_n 2, 1) := by decide +kernel
theorem dX0_answer_32 : decode cX0_answer 32 = .ok (.iload_n 3, 1) := by decide +kernel
theorem dX0_answer_33 : decode cX0_answer 33 = .ok (.iconst 1, 1) := by decide +kernel
theorem dX0_answer_34 : decode cX0_answer 34 = .ok (.iadd, 1) := by decide +kernel
theorem dX0_answer_35 : decode cX0_answer 35 = .ok (.invokevirtual 38, 3) := by decide +kernel
theorem dX0_answer_38 : decode cX0_answer 38 = .ok (.ireturn, 1) := by decide +kernel
theorem dX0_body_0 : decode cX0_body 0 = .ok (.iload_n 3, 1) := by decide +kernel
theorem dX0_body_1 : decode cX0_body 1 = .ok (.bipush 20, 2) := by decide +kernel
theorem dX0_body_3 : decode cX0_body 3 = .ok (.if_icmp .le 5, 3) := by decide +kernel
theorem dX0_body_6 : decode cX0_body 6 = .ok (.iconst 0, 1) := by decide +kernel
theorem dX0_body_7 : decode cX0_body 7 = .ok (.ireturn, 1) := by decide +kernel
theorem dX0_body_8 : decode cX0_body 8 = .ok (.aload_n 0, 1) := by decide +kernel
theorem dX0_body_9 : decode cX0_body 9 = .ok (.iload_n 1, 1) := by decide +kernel
theorem dX0_body_10 : decode cX0_body 10 = .ok (.invokevirtual 41, 3) := by decide +kernel
theorem dX0_body_13 : decode cX0_body 13 = .ok (.iload_n 1, 1) := by decide +kernel
theorem dX0_body_14 : decode cX0_body 14 = .ok (.tableswitch 216 10 24 #[74, 84, 105, 117, 131, 216, 216, 216, 216, 216, 144, 146, 167, 182, 203], 74) := by decide +kernel
theorem dX0_body_88 : decode cX0_body 88 = .ok (.aload_n 0, 1) := by decide +kernel
theorem dX0_body_89 : decode cX0_body 89 = .ok (.getfield 15, 3) := by decide +kernel
theorem dX0_body_92 : decode cX0_body 92 = .ok (.getfield 45, 3) := by decide +kernel
theorem dX0_body_95 : decode cX0_body 95 = .ok (.iload_n 2, 1) := by decide +kernel
theorem dX0_body_96 : decode cX0_body 96 = .ok (.iaload, 1) := by decide +kernel
theorem dX0_body_97 : decode cX0_body 97 = .ok (.ireturn, 1) := by decide +kernel
theorem dX0_body_98 : decode cX0_body 98 = .ok (.aload_n 0, 1) := by decide +kernel
theorem dX0_body_99 : decode cX0_body 99 = .ok (.bipush 10, 2) := by decide +kernel
theorem dX0_body_101 : decode cX0_body 101 = .ok (.iload_n 2, 1) := by decide +kernel
theorem dX0_body_102 : decode cX0_body 102 = .ok (.iload_n 3, 1) := by decide +kernel
theorem dX0_body_103 : decode cX0_body 103 = .ok (.iconst 1, 1) := by decide +kernel
theorem dX0_body_104 : decode cX0_body 104 = .ok (.iadd, 1) := by decide +kernel
theorem dX0_body_105 : decode cX0_body 105 = .ok (.invokevirtual 38, 3) := by decide +kernel
theorem dX0_body_108 : decode cX0_body 108 = .ok (.aload_n 0, 1) := by decide +kernel
theorem dX0_body_109 : decode cX0_body 109 = .ok (.iconst 1, 1) := by decide +kernel
theorem dX0_body_110 : decode cX0_body 110 = .ok (.iload_n 2, 1) := by decide +kernel
theorem dX0_body_111 : decode cX0_body 111 = .ok (.iload_n 3, 1) := by decide +kernel
theorem dX0_body_112 : decode cX0_body 112 = .ok (.iconst 1, 1) := by decide +kernel
theorem dX0_body_113 : decode cX0_body 113 = .ok (.iadd, 1) := by decide +kernel
theorem dX0_body_114 : decode cX0_body 114 = .ok (.invokevirtual 23, 3) := by decide +kernel
theorem dX0_body_117 : decode cX0_body 117 = .ok (.iadd, 1) := by decide +kernel
theorem dX0_body_118 : decode cX0_body 118 = .ok (.ireturn, 1) := by decide +kernel
theorem dX0_body_119 : decode cX0_body 119 = .ok (.aload_n 0, 1) := by decide +kernel
theorem dX0_body_120 : decode cX0_body 120 = .ok (.bipush 11, 2) := by decide +kernel
theorem dX0_body_122 : decode cX0_body 122 = .ok (.iload_n 2, 1) := by decide +kernel
theorem dX0_body_123 : decode cX0_body 123 = .ok (.iload_n 3, 1) := by decide +kernel
theorem dX0_body_124 : decode cX0_body 124 = .ok (.iconst 1, 1) := by decide +kernel
theorem dX0_body_125 : decode cX0_body 125 = .ok (.iadd, 1) := by decide +kernel
theorem dX0_body_126 : decode cX0_body 126 = .ok (.invokevirtual 38, 3) := by decide +kernel
theorem dX0_body_129 : decode cX0_body 129 = .ok (.ineg, 1) := by decide +kernel
theorem dX0_body_130 : decode cX0_body 130 = .ok (.ireturn, 1) := by decide +kernel
theorem dX0_body_131 : decode cX0_body 131 = .ok (.aload_n 0, 1) := by decide +kernel
theorem dX0_body_132 : decode cX0_body 132 = .ok (.bipush 10, 2) := by decide +kernel
theorem dX0_body_134 : decode cX0_body 134 = .ok (.iload_n 2, 1) := by decide +kernel
theorem dX0_body_135 : decode cX0_body 135 = .ok (.iload_n 3, 1) := by decide +kernel
theorem dX0_body_136 : decode cX0_body 136 = .ok (.iconst 1, 1) := by decide +kernel
theorem dX0_body_137 : decode cX0_body 137 = .ok (.iadd, 1) := by decide +kernel
theorem dX0_body_138 : decode cX0_body 138 = .ok (.invokevirtual 38, 3) := by decide +kernel
theorem dX0_body_141 : decode cX0_body 141 = .ok (.bipush 100, 2) := by decide +kernel
theorem dX0_body_143 : decode cX0_body 143 = .ok (.isub, 1) := by decide +kernel
theorem dX0_body_144 : decode cX0_body 144 = .ok (.ireturn, 1) := by decide +kernel
theorem dX0_body_145 : decode cX0_body 145 = .ok (.iconst 2, 1) := by decide +kernel
theorem dX0_body_146 : decode cX0_body 146 = .ok (.aload_n 0, 1) := by decide +kernel
theorem dX0_body_147 : decode cX0_body 147 = .ok (.bipush 13, 2) := by decide +kernel
theorem dX0_body_149 : decode cX0_body 149 = .ok (.iload_n 2, 1) := by decide +kernel
theorem dX0_body_150 : decode cX0_body 150 = .ok (.iload_n 3, 1) := by decide +kernel
theorem dX0_body_151 : decode cX0_body 151 = .ok (.iconst 1, 1) := by decide +kernel
theorem dX0_body_152 : decode cX0_body 152 = .ok (.iadd, 1) := by decide +kernel
theorem dX0_body_153 : decode cX0_body 153 = .ok (.invokevirtual 38, 3) := by decide +kernel
theorem dX0_body_156 : decode cX0_body 156 = .ok (.imul, 1) := by decide +kernel
theorem dX0_body_157 : decode cX0_body 157 = .ok (.ireturn, 1) := by decide +kernel
theorem dX0_body_158 : decode cX0_body 158 = .ok (.iload_n 2, 1) := by decide +kernel
theorem dX0_body_159 : decode cX0_body 159 = .ok (.ireturn, 1) := by decide +kernel
theorem dX0_body_160 : decode cX0_body 160 = .ok (.aload_n 0, 1) := by decide +kernel
theorem dX0_body_161 : decode cX0_body 161 = .ok (.bipush 20, 2) := by decide +kernel
theorem dX0_body_163 : decode cX0_body 163 = .ok (.iload_n 2, 1) := by decide +kernel
theorem dX0_body_164 : decode cX0_body 164 = .ok (.iload_n 3, 1) := by decide +kernel
theorem dX0_body_165 : decode cX0_body 165 = .ok (.iconst 1, 1) := by decide +kernel
theorem dX0_body_166 : decode cX0_body 166 = .ok (.iadd, 1) := by decide +kernel
theorem dX0_body_167 : decode cX0_body 167 = .ok (.invokevirtual 38, 3) := by decide +kernel
theorem dX0_body_170 : decode cX0_body 170 = .ok (.aload_n 0, 1) := by decide +kernel
theorem dX0_body_171 : decode cX0_body 171 = .ok (.getfield 15, 3) := by decide +kernel
theorem dX0_body_174 : decode cX0_body 174 = .ok (.getfield 48, 3) := by decide +kernel
theorem dX0_body_177 : decode cX0_body 177 = .ok (.iload_n 2, 1) := by decide +kernel
theorem dX0_body_178 : decode cX0_body 178 = .ok (.iaload, 1) := by decide +kernel
theorem dX0_body_179 : decode cX0_body 179 = .ok (.iadd, 1) := by decide +kernel
theorem dX0_body_180 : decode cX0_body 180 = .ok (.ireturn, 1) := by decide +kernel
theorem dX0_body_181 : decode cX0_body 181 = .ok (.aload_n 0, 1) := by decide +kernel
theorem dX0_body_182 : decode cX0_body 182 = .ok (.bipush 21, 2) := by decide +kernel
theorem dX0_body_184 : decode cX0_body 184 = .ok (.iload_n 2, 1) := by decide +kernel
theorem dX0_body_185 : decode cX0_body 185 = .ok (.iload_n 3, 1) := by decide +kernel
theorem dX0_body_186 : decode cX0_body 186 = .ok (.iconst 1, 1) := by decide +kernel
theorem dX0_body_187 : decode cX0_body 187 = .ok (.iadd, 1) := by decide +kernel
theorem dX0_body_188 : decode cX0_body 188 = .ok (.invokevirtual 38, 3) := by decide +kernel
theorem dX0_body_191 : decode cX0_body 191 = .ok (.sipush 1000, 3) := by decide +kernel
theorem dX0_body_194 : decode cX0_body 194 = .ok (.isub, 1) := by decide +kernel
theorem dX0_body_195 : decode cX0_body 195 = .ok (.ireturn, 1) := by decide +kernel
theorem dX0_body_196 : decode cX0_body 196 = .ok (.aload_n 0, 1) := by decide +kernel
theorem dX0_body_197 : decode cX0_body 197 = .ok (.bipush 20, 2) := by decide +kernel
theorem dX0_body_199 : decode cX0_body 199 = .ok (.iload_n 2, 1) := by decide +kernel
theorem dX0_body_200 : decode cX0_body 200 = .ok (.iload_n 3, 1) := by decide +kernel
theorem dX0_body_201 : decode cX0_body 201 = .ok (.iconst 1, 1) := by decide +kernel
theorem dX0_body_202 : decode cX0_body 202 = .ok (.iadd, 1) := by decide +kernel
theorem dX0_body_203 : decode cX0_body 203 = .ok (.invokevirtual 38, 3) := by decide +kernel
theorem dX0_body_206 : decode cX0_body 206 = .ok (.aload_n 0, 1) := by decide +kernel
theorem dX0_body_207 : decode cX0_body 207 = .ok (.iconst 0, 1) := by decide +kernel
theorem dX0_body_208 : decode cX0_body 208 = .ok (.iload_n 2, 1) := by decide +kernel
theorem dX0_body_209 : decode cX0_body 209 = .ok (.iload_n 3, 1) := by decide +kernel
theorem dX0_body_210 : decode cX0_body 210 = .ok (.iconst 1, 1) := by decide +kernel
theorem dX0_body_211 : decode cX0_body 211 = .ok (.iadd, 1) := by decide +kernel
theorem dX0_body_212 : decode cX0_body 212 = .ok (.invokevirtual 23, 3) := by decide +kernel
theorem dX0_body_215 : decode cX0_body 215 = .ok (.isub, 1) := by decide +kernel
theorem dX0_body_216 : decode cX0_body 216 = .ok (.ireturn, 1) := by decide +kernel
theorem dX0_body_217 : decode cX0_body 217 = .ok (.iconst 2, 1) := by decide +kernel
theorem dX0_body_218 : decode cX0_body 218 = .ok (.aload_n 0, 1) := by decide +kernel
theorem dX0_body_219 : decode cX0_body 219 = .ok (.bipush 21, 2) := by decide +kernel
theorem dX0_body_221 : decode cX0_body 221 = .ok (.iload_n 2, 1) := by decide +kernel
theorem dX0_body_222 : decode cX0_body 222 = .ok (.iload_n 3, 1) := by decide +kernel
theorem dX0_body_223 : decode cX0_body 223 = .ok (.iconst 1, 1) := by decide +kernel
theorem dX0_body_224 : decode cX0_body 224 = .ok (.iadd, 1) := by decide +kernel
theorem dX0_body_225 : decode cX0_body 225 = .ok (.invokevirtual 38, 3) := by decide +kernel
theorem dX0_body_228 : decode cX0_body 228 = .ok (.imul, 1) := by decide +kernel
theorem dX0_body_229 : decode cX0_body 229 = .ok (.ireturn, 1) := by decide +kernel
theorem dX0_body_230 : decode cX0_body 230 = .ok (.iconst 0, 1) := by decide +kernel
theorem dX0_body_231 : decode cX0_body 231 = .ok (.ireturn, 1) := by decide +kernel
theorem dX0_leave_0 : decode cX0_leave 0 = .ok (.aload_n 0, 1) := by decide +kernel
theorem dX0_leave_1 : decode cX0_leave 1 = .ok (.getfield 19, 3) := by decide +kernel
theorem dX0_leave_4 : decode cX0_leave 4 = .ok (.bipush 16, 2) := by decide +kernel
theorem dX0_leave_6 : decode cX0_leave 6 = .ok (.if_icmp .ge 23, 3) := by decide +kernel
theorem dX0_leave_9 : decode cX0_leave 9 = .ok (.aload_n 0, 1) := by decide +kernel
theorem dX0_leave_10 : decode cX0_leave 10 = .ok (.getfield 9, 3) := by decide +kernel
theorem dX0_leave_13 : decode cX0_leave 13 = .ok (.aload_n 0, 1) := by decide +kernel
theorem dX0_leave_14 : decode cX0_leave 14 = .ok (.getfield 19, 3) := by decide +kernel
theorem dX0_leave_17 : decode cX0_leave 17 = .ok (.iload_n 1, 1) := by decide +kernel
theorem dX0_leave_18 : decode cX0_leave 18 = .ok (.iastore, 1) := by decide +kernel
theorem dX0_leave_19 : decode cX0_leave 19 = .ok (.aload_n 0, 1) := by decide +kernel
theorem dX0_leave_20 : decode cX0_leave 20 = .ok (.dup, 1) := by decide +kernel
theorem dX0_leave_21 : decode cX0_leave 21 = .ok (.getfield 19, 3) := by decide +kernel
theorem dX0_leave_24 : decode cX0_leave 24 = .ok (.iconst 1, 1) := by decide +kernel
theorem dX0_leave_25 : decode cX0_leave 25 = .ok (.iadd, 1) := by decide +kernel
theorem dX0_leave_26 : decode cX0_leave 26 = .ok (.putfield 19, 3) := by decide +kernel
theorem dX0_leave_29 : decode cX0_leave 29 = .ok (.return_, 1) := by decide +kernel
theorem dX1_init_0 : decode cX1_init 0 = .ok (.aload_n 0, 1) := by decide +kernel
theorem dX1_init_1 : decode cX1_init 1 = .ok (.invokespecial 3, 3) := by decide +kernel
theorem dX1_init_4 : decode cX1_init 4 = .ok (.aload_n 0, 1) := by decide +kernel
theorem dX1_init_5 : decode cX1_init 5 = .ok (.bipush 24, 2) := by decide +kernel
theorem dX1_init_7 : decode cX1_init 7 = .ok (.anewarray 9, 3) := by decide +kernel
theorem dX1_init_10 : decode cX1_init 10 = .ok (.putfield 11, 3) := by decide +kernel
theorem dX1_init_13 : decode cX1_init 13 = .ok (.iconst 0, 1) := by decide +kernel
theorem dX1_init_14 : decode cX1_init 14 = .ok (.istore_n 1, 1) := by decide +kernel
theorem dX1_init_15 : decode cX1_init 15 = .ok (.iload_n 1, 1) := by decide +kernel
theorem dX1_init_16 : decode cX1_init 16 = .ok (.bipush 24, 2) := by decide +kernel
theorem dX1_init_18 : decode cX1_init 18 = .ok (.if_icmp .ge 22, 3) := by decide +kernel
theorem dX1_init_21 : decode cX1_init 21 = .ok (.aload_n 0, 1) := by decide +kernel
theorem dX1_init_22 : decode cX1_init 22 = .ok (.getfield 11, 3) := by decide +kernel
theorem dX1_init_25 : decode cX1_init 25 = .ok (.iload_n 1, 1) := by decide +kernel
theorem dX1_init_26 : decode cX1_init 26 = .ok (.new 9, 3) := by decide +kernel
theorem dX1_init_29 : decode cX1_init 29 = .ok (.dup, 1) := by decide +kernel
theorem dX1_init_30 : decode cX1_init 30 = .ok (.invokespecial 17, 3) := by decide +kernel
theorem dX1_init_33 : decode cX1_init 33 = .ok (.aastore, 1) := by decide +kernel
theorem dX1_init_34 : decode cX1_init 34 = .ok (.iinc 1 1, 3) := by decide +kernel
theorem dX1_init_37 : decode cX1_init 37 = .ok (.goto (-22), 3) := by decide +kernel
theorem dX1_init_40 : decode cX1_init 40 = .ok (.return_, 1) := by decide +kernel
theorem dX1_keep_0 : decode cX1_keep 0 = .ok (.aload_n 0, 1) := by decide +kernel
theorem dX1_keep_1 : decode cX1_keep 1 = .ok (.getfield 11, 3) := by decide +kernel
theorem dX1_keep_4 : decode cX1_keep 4 = .ok (.aload_n 0, 1) := by decide +kernel
theorem dX1_keep_5 : decode cX1_keep 5 = .ok (.getfield 18, 3) := by decide +kernel
theorem dX1_keep_8 : decode cX1_keep 8 = .ok (.aaload, 1) := by decide +kernel
theorem dX1_keep_9 : decode cX1_keep 9 = .ok (.aload_n 1, 1) := by decide +kernel
theorem dX1_keep_10 : decode cX1_keep 10 = .ok (.invokevirtual 22, 3) := by decide +kernel
theorem dX1_keep_13 : decode cX1_keep 13 = .ok (.aload_n 0, 1) := by decide +kernel
theorem dX1_keep_14 : decode cX1_keep 14 = .ok (.aload_n 0, 1) := by decide +kernel
theorem dX1_keep_15 : decode cX1_keep 15 = .ok (.getfield 18, 3) := by decide +kernel
theorem dX1_keep_18 : decode cX1_keep 18 = .ok (.iconst 1, 1) := by decide +kernel
theorem dX1_keep_19 : decode cX1_keep 19 = .ok (.iadd, 1) := by decide +kernel
theorem dX1_keep_20 : decode cX1_keep 20 = .ok (.bipush 24, 2) := by decide +kernel
theorem dX1_keep_22 : decode cX1_keep 22 = .ok (.if_icmp .ge 12, 3) := by decide +kernel
theorem dX1_keep_25 : decode cX1_keep 25 = .ok (.aload_n 0, 1) := by decide +kernel
theorem dX1_keep_26 : decode cX1_keep 26 = .ok (.getfield 18, 3) := by decide +kernel
theorem dX1_keep_29 : decode cX1_keep 29 = .ok (.iconst 1, 1) := by decide +kernel
theorem dX1_keep_30 : decode cX1_keep 30 = .ok (.iadd, 1) := by decide +kernel
theorem dX1_keep_31 : decode cX1_keep 31 = .ok (.goto 4, 3) := by decide +kernel
theorem dX1_keep_34 : decode cX1_keep 34 = .ok (.iconst 0, 1) := by decide +kernel
theorem dX1_keep_35 : decode cX1_keep 35 = .ok (.putfield 18, 3) := by decide +kernel
theorem dX1_keep_38 : decode cX1_keep 38 = .ok (.aload_n 0, 1) := by decide +kernel
theorem dX1_keep_39 : decode cX1_keep 39 = .ok (.bipush 24, 2) := by decide +kernel
theorem dX1_keep_41 : decode cX1_keep 41 = .ok (.aload_n 0, 1) := by decide +kernel
theorem dX1_keep_42 : decode cX1_keep 42 = .ok (.getfield 26, 3) := by decide +kernel
theorem dX1_keep_45 : decode cX1_keep 45 = .ok (.iconst 1, 1) := by decide +kernel
theorem dX1_keep_46 : decode cX1_keep 46 = .ok (.iadd, 1) := by decide +kernel
theorem dX1_keep_47 : decode cX1_keep 47 = .ok (.invokestatic 29, 3) := by decide +kernel
theorem dX1_keep_50 : decode cX1_keep 50 = .ok (.putfield 26, 3) := by decide +kernel
theorem dX1_keep_53 : decode cX1_keep 53 = .ok (.return_, 1) := by decide +kernel
theorem dX1_bringBack_0 : decode cX1_bringBack 0 = .ok (.aload_n 0, 1) := by decide +kernel
theorem dX1_bringBack_1 : decode cX1_bringBack 1 = .ok (.aload_n 0, 1) := by decide +kernel
theorem dX1_bringBack_2 : decode cX1_bringBack 2 = .ok (.getfield 18, 3) := by decide +kernel
theorem dX1_bringBack_5 : decode cX1_bringBack 5 = .ok (.ifCond .le 12, 3) := by decide +kernel
theorem dX1_bringBack_8 : decode cX1_bringBack 8 = .ok (.aload_n 0, 1) := by decide +kernel
theorem dX1_bringBack_9 : decode cX1_bringBack 9 = .ok (.getfield 18, 3) := by decide +kernel
theorem dX1_bringBack_12 : decode cX1_bringBack 12 = .ok (.iconst 1, 1) := by decide +kernel
theorem dX1_bringBack_13 : decode cX1_bringBack 13 = .ok (.isub, 1) := by decide +kernel
theorem dX1_bringBack_14 : decode cX1_bringBack 14 = .ok (.goto 5, 3) := by decide +kernel
theorem dX1_bringBack_17 : decode cX1_bringBack 17 = .ok (.bipush 23, 2) := by decide +kernel
theorem dX1_bringBack_19 : decode cX1_bringBack 19 = .ok (.putfield 18, 3) := by decide +kernel
theorem dX1_bringBack_22 : decode cX1_bringBack 22 = .ok (.aload_n 1, 1) := by decide +kernel
theorem dX1_bringBack_23 : decode cX1_bringBack 23 = .ok (.aload_n 0, 1) := by decide +kernel
theorem dX1_bringBack_24 : decode cX1_bringBack 24 = .ok (.getfield 11, 3) := by decide +kernel
theorem dX1_bringBack_27 : decode cX1_bringBack 27 = .ok (.aload_n 0, 1) := by decide +kernel
theorem dX1_bringBack_28 : decode cX1_bringBack 28 = .ok (.getfield 18, 3) := by decide +kernel
theorem dX1_bringBack_31 : decode cX1_bringBack 31 = .ok (.aaload, 1) := by decide +kernel
theorem dX1_bringBack_32 : decode cX1_bringBack 32 = .ok (.invokevirtual 22, 3) := by decide +kernel
theorem dX1_bringBack_35 : decode cX1_bringBack 35 = .ok (.aload_n 0, 1) := by decide +kernel
theorem dX1_bringBack_36 : decode cX1_bringBack 36 = .ok (.dup, 1) := by decide +kernel
theorem dX1_bringBack_37 : decode cX1_bringBack 37 = .ok (.getfield 26, 3) := by decide +kernel
theorem dX1_bringBack_40 : decode cX1_bringBack 40 = .ok (.iconst 1, 1) := by decide +kernel
theorem dX1_bringBack_41 : decode cX1_bringBack 41 = .ok (.isub, 1) := by decide +kernel
theorem dX1_bringBack_42 : decode cX1_bringBack 42 = .ok (.putfield 26, 3) := by decide +kernel
theorem dX1_bringBack_45 : decode cX1_bringBack 45 = .ok (.return_, 1) := by decide +kernel
theorem dX1_forget_0 : decode cX1_forget 0 = .ok (.aload_n 0, 1) := by decide +kernel
theorem dX1_forget_1 : decode cX1_forget 1 = .ok (.iconst 0, 1) := by decide +kernel
theorem dX1_forget_2 : decode cX1_forget 2 = .ok (.putfield 26, 3) := by decide +kernel
theorem dX1_forget_5 : decode cX1_forget 5 = .ok (.return_, 1) := by decide +kernel
theorem dX2_init_0 : decode cX2_init 0 = .ok (.aload_n 0, 1) := by decide +kernel
theorem dX2_init_1 : decode cX2_init 1 = .ok (.invokespecial 3, 3) := by decide +kernel
theorem dX2_init_4 : decode cX2_init 4 = .ok (.aload_n 0, 1) := by decide +kernel
theorem dX2_init_5 : decode cX2_init 5 = .ok (.bipush 40, 2) := by decide +kernel
theorem dX2_init_7 : decode cX2_init 7 = .ok (.newarray .int, 2) := by decide +kernel
theorem dX2_init_9 : decode cX2_init 9 = .ok (.putfield 9, 3) := by decide +kernel
theorem dX2_init_12 : decode cX2_init 12 = .ok (.return_, 1) := by decide +kernel
theorem dX2_startOver_0 : decode cX2_startOver 0 = .ok (.aload_n 0, 1) := by decide +kernel
theorem dX2_startOver_1 : decode cX2_startOver 1 = .ok (.iconst 1, 1) := by decide +kernel
theorem dX2_startOver_2 : decode cX2_startOver 2 = .ok (.putfield 15, 3) := by decide +kernel
theorem dX2_startOver_5 : decode cX2_startOver 5 = .ok (.aload_n 0, 1) := by decide +kernel
theorem dX2_startOver_6 : decode cX2_startOver 6 = .ok (.iload_n 1, 1) := by decide +kernel
theorem dX2_startOver_7 : decode cX2_startOver 7 = .ok (.putfield 19, 3) := by decide +kernel
theorem dX2_startOver_10 : decode cX2_startOver 10 = .ok (.aload_n 0, 1) := by decide +kernel
theorem dX2_startOver_11 : decode cX2_startOver 11 = .ok (.iload_n 2, 1) := by decide +kernel
theorem dX2_startOver_12 : decode cX2_startOver 12 = .ok (.putfield 23, 3) := by decide +kernel
theorem dX2_startOver_15 : decode cX2_startOver 15 = .ok (.aload_n 0, 1) := by decide +kernel
theorem dX2_startOver_16 : decode cX2_startOver 16 = .ok (.getfield 9, 3) := by decide +kernel
theorem dX2_startOver_19 : decode cX2_startOver 19 = .ok (.iconst 0, 1) := by decide +kernel
theorem dX2_startOver_20 : decode cX2_startOver 20 = .ok (.invokestatic 26, 3) := by decide +kernel
theorem dX2_startOver_23 : decode cX2_startOver 23 = .ok (.return_, 1) := by decide +kernel
theorem dX2_holds_0 : decode cX2_holds 0 = .ok (.iload_n 1, 1) := by decide +kernel
theorem dX2_holds_1 : decode cX2_holds 1 = .ok (.ifCond .lt 29, 3) := by decide +kernel
theorem dX2_holds_4 : decode cX2_holds 4 = .ok (.iload_n 2, 1) := by decide +kernel
theorem dX2_holds_5 : decode cX2_holds 5 = .ok (.ifCond .lt 25, 3) := by decide +kernel
theorem dX2_holds_8 : decode cX2_holds 8 = .ok (.iload_n 1, 1) := by decide +kernel
theorem dX2_holds_9 : decode cX2_holds 9 = .ok (.aload_n 0, 1) := by decide +kernel
theorem dX2_holds_10 : decode cX2_holds 10 = .ok (.getfield 23, 3) := by decide +kernel
theorem dX2_holds_13 : decode cX2_holds 13 = .ok (.if_icmp .gt 17, 3) := by decide +kernel
theorem dX2_holds_16 : decode cX2_holds 16 = .ok (.iload_n 2, 1) := by decide +kernel
theorem dX2_holds_17 : decode cX2_holds 17 = .ok (.aload_n 0, 1) := by decide +kernel
theorem dX2_holds_18 : decode cX2_holds 18 = .ok (.getfield 23, 3) := by decide +kernel
theorem dX2_holds_21 : decode cX2_holds 21 = .ok (.iload_n 1, 1) := by decide +kernel
theorem dX2_holds_22 : decode cX2_holds 22 = .ok (.isub, 1) := by decide +kernel
theorem dX2_holds_23 : decode cX2_holds 23 = .ok (.if_icmp .gt 7, 3) := by decide +kernel
theorem dX2_holds_26 : decode cX2_holds 26 = .ok (.iconst 1, 1) := by decide +kernel
theorem dX2_holds_27 : decode cX2_holds 27 = .ok (.goto 4, 3) := by decide +kernel
theorem dX2_holds_30 : decode cX2_holds 30 = .ok (.iconst 0, 1) := by decide +kernel
theorem dX2_holds_31 : decode cX2_holds 31 = .ok (.ireturn, 1) := by decide +kernel
theorem dX2_put_0 : decode cX2_put 0 = .ok (.aload_n 0, 1) := by decide +kernel
theorem dX2_put_1 : decode cX2_put 1 = .ok (.getfield 9, 3) := by decide +kernel
theorem dX2_put_4 : decode cX2_put 4 = .ok (.iload_n 1, 1) := by decide +kernel
theorem dX2_put_5 : decode cX2_put 5 = .ok (.aload_n 0, 1) := by decide +kernel
theorem dX2_put_6 : decode cX2_put 6 = .ok (.iload_n 2, 1) := by decide +kernel
theorem dX2_put_7 : decode cX2_put 7 = .ok (.invokevirtual 32, 3) := by decide +kernel
theorem dX2_put_10 : decode cX2_put 10 = .ok (.iastore, 1) := by decide +kernel
theorem dX2_put_11 : decode cX2_put 11 = .ok (.aload_n 0, 1) := by decide +kernel
theorem dX2_put_12 : decode cX2_put 12 = .ok (.getfield 9, 3) := by decide +kernel
theorem dX2_put_15 : decode cX2_put 15 = .ok (.iload_n 1, 1) := by decide +kernel
theorem dX2_put_16 : decode cX2_put 16 = .ok (.iaload, 1) := by decide +kernel
theorem dX2_put_17 : decode cX2_put 17 = .ok (.ireturn, 1) := by decide +kernel
theorem dX2_cut_0 : decode cX2_cut 0 = .ok (.aload_n 0, 1) := by decide +kernel
theorem dX2_cut_1 : decode cX2_cut 1 = .ok (.getfield 19, 3) := by decide +kernel
theorem dX2_cut_4 : decode cX2_cut 4 = .ok (.lookupswitch 34 #[(0, 28), (1, 31)], 28) := by decide +kernel
theorem dX2_cut_32 : decode cX2_cut 32 = .ok (.iload_n 1, 1) := by decide +kernel
theorem dX2_cut_33 : decode cX2_cut 33 = .ok (.i2b, 1) := by decide +kernel
theorem dX2_cut_34 : decode cX2_cut 34 = .ok (.ireturn, 1) := by decide +kernel
theorem dX2_cut_35 : decode cX2_cut 35 = .ok (.iload_n 1, 1) := by decide +kernel
theorem dX2_cut_36 : decode cX2_cut 36 = .ok (.i2s, 1) := by decide +kernel
theorem dX2_cut_37 : decode cX2_cut 37 = .ok (.ireturn, 1) := by decide +kernel
theorem dX2_cut_38 : decode cX2_cut 38 = .ok (.iload_n 1, 1) := by decide +kernel
theorem dX2_cut_39 : decode cX2_cut 39 = .ok (.ireturn, 1) := by decide +kernel
theorem dX3_init_0 : decode cX3_init 0 = .ok (.aload_n 0, 1) := by decide +kernel
theorem dX3_init_1 : decode cX3_init 1 = .ok (.invokespecial 3, 3) := by decide +kernel
theorem dX3_init_4 : decode cX3_init 4 = .ok (.aload_n 0, 1) := by decide +kernel
theorem dX3_init_5 : decode cX3_init 5 = .ok (.new 9, 3) := by decide +kernel
theorem dX3_init_8 : decode cX3_init 8 = .ok (.dup, 1) := by decide +kernel
theorem dX3_init_9 : decode cX3_init 9 = .ok (.invokespecial 11, 3) := by decide +kernel
theorem dX3_init_12 : decode cX3_init 12 = .ok (.putfield 12, 3) := by decide +kernel
theorem dX3_init_15 : decode cX3_init 15 = .ok (.aload_n 0, 1) := by decide +kernel
theorem dX3_init_16 : decode cX3_init 16 = .ok (.bipush 13, 2) := by decide +kernel
theorem dX3_init_18 : decode cX3_init 18 = .ok (.anewarray 9, 3) := by decide +kernel
theorem dX3_init_21 : decode cX3_init 21 = .ok (.putfield 18, 3) := by decide +kernel
theorem dX3_init_24 : decode cX3_init 24 = .ok (.aload_n 0, 1) := by decide +kernel
theorem dX3_init_25 : decode cX3_init 25 = .ok (.aload_n 1, 1) := by decide +kernel
theorem dX3_init_26 : decode cX3_init 26 = .ok (.putfield 22, 3) := by decide +kernel
theorem dX3_init_29 : decode cX3_init 29 = .ok (.iconst 0, 1) := by decide +kernel
theorem dX3_init_30 : decode cX3_init 30 = .ok (.istore_n 2, 1) := by decide +kernel
theorem dX3_init_31 : decode cX3_init 31 = .ok (.iload_n 2, 1) := by decide +kernel
theorem dX3_init_32 : decode cX3_init 32 = .ok (.bipush 12, 2) := by decide +kernel
theorem dX3_init_34 : decode cX3_init 34 = .ok (.if_icmp .gt 22, 3) := by decide +kernel
theorem dX3_init_37 : decode cX3_init 37 = .ok (.aload_n 0, 1) := by decide +kernel
theorem dX3_init_38 : decode cX3_init 38 = .ok (.getfield 18, 3) := by decide +kernel
theorem dX3_init_41 : decode cX3_init 41 = .ok (.iload_n 2, 1) := by decide +kernel
theorem dX3_init_42 : decode cX3_init 42 = .ok (.new 9, 3) := by decide +kernel
theorem dX3_init_45 : decode cX3_init 45 = .ok (.dup, 1) := by decide +kernel
theorem dX3_init_46 : decode cX3_init 46 = .ok (.invokespecial 11, 3) := by decide +kernel
theorem dX3_init_49 : decode cX3_init 49 = .ok (.aastore, 1) := by decide +kernel
theorem dX3_init_50 : decode cX3_init 50 = .ok (.iinc 2 1, 3) := by decide +kernel
theorem dX3_init_53 : decode cX3_init 53 = .ok (.goto (-22), 3) := by decide +kernel
theorem dX3_init_56 : decode cX3_init 56 = .ok (.return_, 1) := by decide +kernel
theorem dX3_tryAhead_0 : decode cX3_tryAhead 0 = .ok (.aload_n 0, 1) := by decide +kernel
theorem dX3_tryAhead_1 : decode cX3_tryAhead 1 = .ok (.getfield 12, 3) := by decide +kernel
theorem dX3_tryAhead_4 : decode cX3_tryAhead 4 = .ok (.aload_n 0, 1) := by decide +kernel
theorem dX3_tryAhead_5 : decode cX3_tryAhead 5 = .ok (.getfield 22, 3) := by decide +kernel
theorem dX3_tryAhead_8 : decode cX3_tryAhead 8 = .ok (.invokevirtual 25, 3) := by decide +kernel
theorem dX3_tryAhead_11 : decode cX3_tryAhead 11 = .ok (.aload_n 0, 1) := by decide +kernel
theorem dX3_tryAhead_12 : decode cX3_tryAhead 12 = .ok (.getfield 12, 3) := by decide +kernel
theorem dX3_tryAhead_15 : decode cX3_tryAhead 15 = .ok (.iload_n 1, 1) := by decide +kernel
theorem dX3_tryAhead_16 : decode cX3_tryAhead 16 = .ok (.invokevirtual 29, 3) := by decide +kernel
theorem dX3_tryAhead_19 : decode cX3_tryAhead 19 = .ok (.return_, 1) := by decide +kernel
theorem dX3_toothAhead_0 : decode cX3_toothAhead 0 = .ok (.aload_n 0, 1) := by decide +kernel
theorem dX3_toothAhead_1 : decode cX3_toothAhead 1 = .ok (.iload_n 2, 1) := by decide +kernel
theorem dX3_toothAhead_2 : decode cX3_toothAhead 2 = .ok (.invokevirtual 33, 3) := by decide +kernel
theorem dX3_toothAhead_5 : decode cX3_toothAhead 5 = .ok (.iload_n 3, 1) := by decide +kernel
theorem dX3_toothAhead_6 : decode cX3_toothAhead 6 = .ok (.lookupswitch 46 #[(0, 26), (1, 36)], 26) := by decide +kernel
theorem dX3_toothAhead_32 : decode cX3_toothAhead 32 = .ok (.aload_n 0, 1) := by decide +kernel
theorem dX3_toothAhead_33 : decode cX3_toothAhead 33 = .ok (.getfield 12, 3) := by decide +kernel
theorem dX3_toothAhead_36 : decode cX3_toothAhead 36 = .ok (.getfield 36, 3) := by decide +kernel
theorem dX3_toothAhead_39 : decode cX3_toothAhead 39 = .ok (.iload_n 1, 1) := by decide +kernel
theorem dX3_toothAhead_40 : decode cX3_toothAhead 40 = .ok (.iaload, 1) := by decide +kernel
theorem dX3_toothAhead_41 : decode cX3_toothAhead 41 = .ok (.ireturn, 1) := by decide +kernel
theorem dX3_toothAhead_42 : decode cX3_toothAhead 42 = .ok (.aload_n 0, 1) := by decide +kernel
theorem dX3_toothAhead_43 : decode cX3_toothAhead 43 = .ok (.getfield 12, 3) := by decide +kernel
theorem dX3_toothAhead_46 : decode cX3_toothAhead 46 = .ok (.getfield 40, 3) := by decide +kernel
theorem dX3_toothAhead_49 : decode cX3_toothAhead 49 = .ok (.iload_n 1, 1) := by decide +kernel
theorem dX3_toothAhead_50 : decode cX3_toothAhead 50 = .ok (.iaload, 1) := by decide +kernel
theorem dX3_toothAhead_51 : decode cX3_toothAhead 51 = .ok (.ireturn, 1) := by decide +kernel
theorem dX3_toothAhead_52 : decode cX3_toothAhead 52 = .ok (.aload_n 0, 1) := by decide +kernel
theorem dX3_toothAhead_53 : decode cX3_toothAhead 53 = .ok (.getfield 12, 3) := by decide +kernel
theorem dX3_toothAhead_56 : decode cX3_toothAhead 56 = .ok (.iload_n 1, 1) := by decide +kernel
theorem dX3_toothAhead_57 : decode cX3_toothAhead 57 = .ok (.invokevirtual 43, 3) := by decide +kernel
theorem dX3_toothAhead_60 : decode cX3_toothAhead 60 = .ok (.ifCond .eq 7, 3) := by decide +kernel
theorem dX3_toothAhead_63 : decode cX3_toothAhead 63 = .ok (.iconst 1, 1) := by decide +kernel
theorem dX3_toothAhead_64 : decode cX3_toothAhead 64 = .ok (.goto 4, 3) := by decide +kernel
theorem dX3_toothAhead_67 : decode cX3_toothAhead 67 = .ok (.iconst 0, 1) := by decide +kernel
theorem dX3_toothAhead_68 : decode cX3_toothAhead 68 = .ok (.ireturn, 1) := by decide +kernel
theorem dX3_boxAhead_0 : decode cX3_boxAhead 0 = .ok (.aload_n 0, 1) := by decide +kernel
theorem dX3_boxAhead_1 : decode cX3_boxAhead 1 = .ok (.iload_n 1, 1) := by decide +kernel
theorem dX3_boxAhead_2 : decode cX3_boxAhead 2 = .ok (.invokevirtual 33, 3) := by decide +kernel
theorem dX3_boxAhead_5 : decode cX3_boxAhead 5 = .ok (.iload_n 2, 1) := by decide +kernel
theorem dX3_boxAhead_6 : decode cX3_boxAhead 6 = .ok (.tableswitch 50 0 2 #[26, 34, 42], 26) := by decide +kernel
theorem dX3_boxAhead_32 : decode cX3_boxAhead 32 = .ok (.aload_n 0, 1) := by decide +kernel
theorem dX3_boxAhead_33 : decode cX3_boxAhead 33 = .ok (.getfield 12, 3) := by decide +kernel
theorem dX3_boxAhead_36 : decode cX3_boxAhead 36 = .ok (.invokevirtual 47, 3) := by decide +kernel
theorem dX3_boxAhead_39 : decode cX3_boxAhead 39 = .ok (.ireturn, 1) := by decide +kernel
theorem dX3_boxAhead_40 : decode cX3_boxAhead 40 = .ok (.aload_n 0, 1) := by decide +kernel
theorem dX3_boxAhead_41 : decode cX3_boxAhead 41 = .ok (.getfield 12, 3) := by decide +kernel
theorem dX3_boxAhead_44 : decode cX3_boxAhead 44 = .ok (.invokevirtual 51, 3) := by decide +kernel
theorem dX3_boxAhead_47 : decode cX3_boxAhead 47 = .ok (.ireturn, 1) := by decide +kernel
theorem dX3_boxAhead_48 : decode cX3_boxAhead 48 = .ok (.aload_n 0, 1) := by decide +kernel
theorem dX3_boxAhead_49 : decode cX3_boxAhead 49 = .ok (.getfield 12, 3) := by decide +kernel
theorem dX3_boxAhead_52 : decode cX3_boxAhead 52 = .ok (.getfield 54, 3) := by decide +kernel
theorem dX3_boxAhead_55 : decode cX3_boxAhead 55 = .ok (.ireturn, 1) := by decide +kernel
theorem dX3_boxAhead_56 : decode cX3_boxAhead 56 = .ok (.aload_n 0, 1) := by decide +kernel
theorem dX3_boxAhead_57 : decode cX3_boxAhead 57 = .ok (.getfield 12, 3) := by decide +kernel
theorem dX3_boxAhead_60 : decode cX3_boxAhead 60 = .ok (.getfield 58, 3) := by decide +kernel
theorem dX3_boxAhead_63 : decode cX3_boxAhead 63 = .ok (.ireturn, 1) := by decide +kernel
theorem dX3_firstTick_0 : decode cX3_firstTick 0 = .ok (.aload_n 0, 1) := by decide +kernel
theorem dX3_firstTick_1 : decode cX3_firstTick 1 = .ok (.getfield 12, 3) := by decide +kernel
theorem dX3_firstTick_4 : decode cX3_firstTick 4 = .ok (.aload_n 0, 1) := by decide +kernel
theorem dX3_firstTick_5 : decode cX3_firstTick 5 = .ok (.getfield 22, 3) := by decide +kernel
theorem dX3_firstTick_8 : decode cX3_firstTick 8 = .ok (.invokevirtual 25, 3) := by decide +kernel
theorem dX3_firstTick_11 : decode cX3_firstTick 11 = .ok (.iconst 0, 1) := by decide +kernel
theorem dX3_firstTick_12 : decode cX3_firstTick 12 = .ok (.istore_n 3, 1) := by decide +kernel
theorem dX3_firstTick_13 : decode cX3_firstTick 13 = .ok (.iload_n 3, 1) := by decide +kernel
theorem dX3_firstTick_14 : decode cX3_firstTick 14 = .ok (.bipush 60, 2) := by decide +kernel
theorem dX3_firstTick_16 : decode cX3_firstTick 16 = .ok (.if_icmp .gt 58, 3) := by decide +kernel
theorem dX3_firstTick_19 : decode cX3_firstTick 19 = .ok (.iload_n 2, 1) := by decide +kernel
theorem dX3_firstTick_20 : decode cX3_firstTick 20 = .ok (.ifCond .ne 23, 3) := by decide +kernel
theorem dX3_firstTick_23 : decode cX3_firstTick 23 = .ok (.aload_n 0, 1) := by decide +kernel
theorem dX3_firstTick_24 : decode cX3_firstTick 24 = .ok (.getfield 12, 3) := by decide +kernel
theorem dX3_firstTick_27 : decode cX3_firstTick 27 = .ok (.getfield 36, 3) := by decide +kernel
theorem dX3_firstTick_30 : decode cX3_firstTick 30 = .ok (.iload_n 1, 1) := by decide +kernel
theorem dX3_firstTick_31 : decode cX3_firstTick 31 = .ok (.iaload, 1) := by decide +kernel
theorem dX3_firstTick_32 : decode cX3_firstTick 32 = .ok (.ifCond .le 7, 3) := by decide +kernel
theorem dX3_firstTick_35 : decode cX3_firstTick 35 = .ok (.iconst 1, 1) := by decide +kernel
theorem dX3_firstTick_36 : decode cX3_firstTick 36 = .ok (.goto 15, 3) := by decide +kernel
theorem dX3_firstTick_39 : decode cX3_firstTick 39 = .ok (.iconst 0, 1) := by decide +kernel
theorem dX3_firstTick_40 : decode cX3_firstTick 40 = .ok (.goto 11, 3) := by decide +kernel
theorem dX3_firstTick_43 : decode cX3_firstTick 43 = .ok (.aload_n 0, 1) := by decide +kernel
theorem dX3_firstTick_44 : decode cX3_firstTick 44 = .ok (.getfield 12, 3) := by decide +kernel
theorem dX3_firstTick_47 : decode cX3_firstTick 47 = .ok (.iload_n 1, 1) := by decide +kernel
theorem dX3_firstTick_48 : decode cX3_firstTick 48 = .ok (.invokevirtual 43, 3) := by decide +kernel
theorem dX3_firstTick_51 : decode cX3_firstTick 51 = .ok (.istore 4, 2) := by decide +kernel
theorem dX3_firstTick_53 : decode cX3_firstTick 53 = .ok (.iload 4, 2) := by decide +kernel
theorem dX3_firstTick_55 : decode cX3_firstTick 55 = .ok (.ifCond .eq 5, 3) := by decide +kernel
theorem dX3_firstTick_58 : decode cX3_firstTick 58 = .ok (.iload_n 3, 1) := by decide +kernel
theorem dX3_firstTick_59 : decode cX3_firstTick 59 = .ok (.ireturn, 1) := by decide +kernel
theorem dX3_firstTick_60 : decode cX3_firstTick 60 = .ok (.aload_n 0, 1) := by decide +kernel
theorem dX3_firstTick_61 : decode cX3_firstTick 61 = .ok (.getfield 12, 3) := by decide +kernel
theorem dX3_firstTick_64 : decode cX3_firstTick 64 = .ok (.invokevirtual 61, 3) := by decide +kernel
theorem dX3_firstTick_67 : decode cX3_firstTick 67 = .ok (.pop, 1) := by decide +kernel
theorem dX3_firstTick_68 : decode cX3_firstTick 68 = .ok (.iinc 3 1, 3) := by decide +kernel
theorem dX3_firstTick_71 : decode cX3_firstTick 71 = .ok (.goto (-58), 3) := by decide +kernel
theorem dX3_firstTick_74 : decode cX3_firstTick 74 = .ok (.ldc 64, 2) := by decide +kernel
theorem dX3_firstTick_76 : decode cX3_firstTick 76 = .ok (.ireturn, 1) := by decide +kernel
theorem dX3_firstStop_0 : decode cX3_firstStop 0 = .ok (.aload_n 0, 1) := by decide +kernel
theorem dX3_firstStop_1 : decode cX3_firstStop 1 = .ok (.getfield 12, 3) := by decide +kernel
theorem dX3_firstStop_4 : decode cX3_firstStop 4 = .ok (.aload_n 0, 1) := by decide +kernel
theorem dX3_firstStop_5 : decode cX3_firstStop 5 = .ok (.getfield 22, 3) := by decide +kernel
theorem dX3_firstStop_8 : decode cX3_firstStop 8 = .ok (.invokevirtual 25, 3) := by decide +kernel
theorem dX3_firstStop_11 : decode cX3_firstStop 11 = .ok (.iconst 0, 1) := by decide +kernel
theorem dX3_firstStop_12 : decode cX3_firstStop 12 = .ok (.istore_n 1, 1) := by decide +kernel
theorem dX3_firstStop_13 : decode cX3_firstStop 13 = .ok (.iload_n 1, 1) := by decide +kernel
theorem dX3_firstStop_14 : decode cX3_firstStop 14 = .ok (.bipush 60, 2) := by decide +kernel
theorem dX3_firstStop_16 : decode cX3_firstStop 16 = .ok (.if_icmp .gt 29, 3) := by decide +kernel
theorem dX3_firstStop_19 : decode cX3_firstStop 19 = .ok (.aload_n 0, 1) := by decide +kernel
theorem dX3_firstStop_20 : decode cX3_firstStop 20 = .ok (.getfield 12, 3) := by decide +kernel
theorem dX3_firstStop_23 : decode cX3_firstStop 23 = .ok (.getfield 58, 3) := by decide +kernel
theorem dX3_firstStop_26 : decode cX3_firstStop 26 = .ok (.ifCond .ne 5, 3) := by decide +kernel
theorem dX3_firstStop_29 : decode cX3_firstStop 29 = .ok (.iload_n 1, 1) := by decide +kernel
theorem dX3_firstStop_30 : decode cX3_firstStop 30 = .ok (.ireturn, 1) := by decide +kernel
theorem dX3_firstStop_31 : decode cX3_firstStop 31 = .ok (.aload_n 0, 1) := by decide +kernel
theorem dX3_firstStop_32 : decode cX3_firstStop 32 = .ok (.getfield 12, 3) := by decide +kernel
theorem dX3_firstStop_35 : decode cX3_firstStop 35 = .ok (.invokevirtual 61, 3) := by decide +kernel
theorem dX3_firstStop_38 : decode cX3_firstStop 38 = .ok (.pop, 1) := by decide +kernel
theorem dX3_firstStop_39 : decode cX3_firstStop 39 = .ok (.iinc 1 1, 3) := by decide +kernel
theorem dX3_firstStop_42 : decode cX3_firstStop 42 = .ok (.goto (-29), 3) := by decide +kernel
theorem dX3_firstStop_45 : decode cX3_firstStop 45 = .ok (.ldc 64, 2) := by decide +kernel
theorem dX3_firstStop_47 : decode cX3_firstStop 47 = .ok (.ireturn, 1) := by decide +kernel
theorem dX3_loudestPin_0 : decode cX3_loudestPin 0 = .ok (.iconst 0, 1) := by decide +kernel
theorem dX3_loudestPin_1 : decode cX3_loudestPin 1 = .ok (.istore_n 3, 1) := by decide +kernel
theorem dX3_loudestPin_2 : decode cX3_loudestPin 2 = .ok (.iconst (-1), 1) := by decide +kernel
theorem dX3_loudestPin_3 : decode cX3_loudestPin 3 = .ok (.istore 4, 2) := by decide +kernel
theorem dX3_loudestPin_5 : decode cX3_loudestPin 5 = .ok (.iconst 0, 1) := by decide +kernel
theorem dX3_loudestPin_6 : decode cX3_loudestPin 6 = .ok (.istore 5, 2) := by decide +kernel
theorem dX3_loudestPin_8 : decode cX3_loudestPin 8 = .ok (.iload 5, 2) := by decide +kernel
theorem dX3_loudestPin_10 : decode cX3_loudestPin 10 = .ok (.aload_n 0, 1) := by decide +kernel
theorem dX3_loudestPin_11 : decode cX3_loudestPin 11 = .ok (.getfield 22, 3) := by decide +kernel
theorem dX3_loudestPin_14 : decode cX3_loudestPin 14 = .ok (.getfield 65, 3) := by decide +kernel
theorem dX3_loudestPin_17 : decode cX3_loudestPin 17 = .ok (.if_icmp .ge 82, 3) := by decide +kernel
theorem dX3_loudestPin_20 : decode cX3_loudestPin 20 = .ok (.iconst 0, 1) := by decide +kernel
theorem dX3_loudestPin_21 : decode cX3_loudestPin 21 = .ok (.istore 6, 2) := by decide +kernel
theorem dX3_loudestPin_23 : decode cX3_loudestPin 23 = .ok (.iload 6, 2) := by decide +kernel
theorem dX3_loudestPin_25 : decode cX3_loudestPin 25 = .ok (.aload_n 0, 1) := by decide +kernel
theorem dX3_loudestPin_26 : decode cX3_loudestPin 26 = .ok (.getfield 22, 3) := by decide +kernel
theorem dX3_loudestPin_29 : decode cX3_loudestPin 29 = .ok (.getfield 68, 3) := by decide +kernel
theorem dX3_loudestPin_32 : decode cX3_loudestPin 32 = .ok (.if_icmp .ge 61, 3) := by decide +kernel
theorem dX3_loudestPin_35 : decode cX3_loudestPin 35 = .ok (.aload_n 0, 1) := by decide +kernel
theorem dX3_loudestPin_36 : decode cX3_loudestPin 36 = .ok (.getfield 12, 3) := by decide +kernel
theorem dX3_loudestPin_39 : decode cX3_loudestPin 39 = .ok (.aload_n 0, 1) := by decide +kernel
theorem dX3_loudestPin_40 : decode cX3_loudestPin 40 = .ok (.getfield 22, 3) := by decide +kernel
theorem dX3_loudestPin_43 : decode cX3_loudestPin 43 = .ok (.invokevirtual 25, 3) := by decide +kernel
theorem dX3_loudestPin_46 : decode cX3_loudestPin 46 = .ok (.aload_n 0, 1) := by decide +kernel
theorem dX3_loudestPin_47 : decode cX3_loudestPin 47 = .ok (.getfield 12, 3) := by decide +kernel
theorem dX3_loudestPin_50 : decode cX3_loudestPin 50 = .ok (.iload 5, 2) := by decide +kernel
theorem dX3_loudestPin_52 : decode cX3_loudestPin 52 = .ok (.iload 6, 2) := by decide +kernel
theorem dX3_loudestPin_54 : decode cX3_loudestPin 54 = .ok (.invokevirtual 71, 3) := by decide +kernel
theorem dX3_loudestPin_57 : decode cX3_loudestPin 57 = .ok (.aload_n 0, 1) := by decide +kernel
theorem dX3_loudestPin_58 : decode cX3_loudestPin 58 = .ok (.getfield 12, 3) := by decide +kernel
theorem dX3_loudestPin_61 : decode cX3_loudestPin 61 = .ok (.iload_n 1, 1) := by decide +kernel
theorem dX3_loudestPin_62 : decode cX3_loudestPin 62 = .ok (.invokevirtual 75, 3) := by decide +kernel
theorem dX3_loudestPin_65 : decode cX3_loudestPin 65 = .ok (.istore 7, 2) := by decide +kernel
theorem dX3_loudestPin_67 : decode cX3_loudestPin 67 = .ok (.iload 7, 2) := by decide +kernel
theorem dX3_loudestPin_69 : decode cX3_loudestPin 69 = .ok (.iload 4, 2) := by decide +kernel
theorem dX3_loudestPin_71 : decode cX3_loudestPin 71 = .ok (.if_icmp .le 16, 3) := by decide +kernel
theorem dX3_loudestPin_74 : decode cX3_loudestPin 74 = .ok (.iload 7, 2) := by decide +kernel
theorem dX3_loudestPin_76 : decode cX3_loudestPin 76 = .ok (.istore 4, 2) := by decide +kernel
theorem dX3_loudestPin_78 : decode cX3_loudestPin 78 = .ok (.bipush 10, 2) := by decide +kernel
theorem dX3_loudestPin_80 : decode cX3_loudestPin 80 = .ok (.iload 5, 2) := by decide +kernel
theorem dX3_loudestPin_82 : decode cX3_loudestPin 82 = .ok (.imul, 1) := by decide +kernel
theorem dX3_loudestPin_83 : decode cX3_loudestPin 83 = .ok (.iload 6, 2) := by decide +kernel
theorem dX3_loudestPin_85 : decode cX3_loudestPin 85 = .ok (.iadd, 1) := by decide +kernel
theorem dX3_loudestPin_86 : decode cX3_loudestPin 86 = .ok (.istore_n 3, 1) := by decide +kernel
theorem dX3_loudestPin_87 : decode cX3_loudestPin 87 = .ok (.iinc 6 1, 3) := by decide +kernel
theorem dX3_loudestPin_90 : decode cX3_loudestPin 90 = .ok (.goto (-67), 3) := by decide +kernel
theorem dX3_loudestPin_93 : decode cX3_loudestPin 93 = .ok (.iinc 5 1, 3) := by decide +kernel
theorem dX3_loudestPin_96 : decode cX3_loudestPin 96 = .ok (.goto (-88), 3) := by decide +kernel
theorem dX3_loudestPin_99 : decode cX3_loudestPin 99 = .ok (.iload_n 2, 1) := by decide +kernel
theorem dX3_loudestPin_100 : decode cX3_loudestPin 100 = .ok (.ifCond .ne 7, 3) := by decide +kernel
theorem dX3_loudestPin_103 : decode cX3_loudestPin 103 = .ok (.iload_n 3, 1) := by decide +kernel
theorem dX3_loudestPin_104 : decode cX3_loudestPin 104 = .ok (.goto 5, 3) := by decide +kernel
theorem dX3_loudestPin_107 : decode cX3_loudestPin 107 = .ok (.iload 4, 2) := by decide +kernel
theorem dX3_loudestPin_109 : decode cX3_loudestPin 109 = .ok (.ireturn, 1) := by decide +kernel
theorem dX3_loudestColumn_0 : decode cX3_loudestColumn 0 = .ok (.iconst 0, 1) := by decide +kernel
theorem dX3_loudestColumn_1 : decode cX3_loudestColumn 1 = .ok (.istore_n 3, 1) := by decide +kernel
theorem dX3_loudestColumn_2 : decode cX3_loudestColumn 2 = .ok (.iconst (-1), 1) := by decide +kernel
theorem dX3_loudestColumn_3 : decode cX3_loudestColumn 3 = .ok (.istore 4, 2) := by decide +kernel
theorem dX3_loudestColumn_5 : decode cX3_loudestColumn 5 = .ok (.iconst 0, 1) := by decide +kernel
theorem dX3_loudestColumn_6 : decode cX3_loudestColumn 6 = .ok (.istore 5, 2) := by decide +kernel
theorem dX3_loudestColumn_8 : decode cX3_loudestColumn 8 = .ok (.iload 5, 2) := by decide +kernel
theorem dX3_loudestColumn_10 : decode cX3_loudestColumn 10 = .ok (.aload_n 0, 1) := by decide +kernel
theorem dX3_loudestColumn_11 : decode cX3_loudestColumn 11 = .ok (.getfield 22, 3) := by decide +kernel
theorem dX3_loudestColumn_14 : decode cX3_loudestColumn 14 = .ok (.getfield 65, 3) := by decide +kernel
theorem dX3_loudestColumn_17 : decode cX3_loudestColumn 17 = .ok (.if_icmp .ge 53, 3) := by decide +kernel
theorem dX3_loudestColumn_20 : decode cX3_loudestColumn 20 = .ok (.aload_n 0, 1) := by decide +kernel
theorem dX3_loudestColumn_21 : decode cX3_loudestColumn 21 = .ok (.getfield 12, 3) := by decide +kernel
theorem dX3_loudestColumn_24 : decode cX3_loudestColumn 24 = .ok (.aload_n 0, 1) := by decide +kernel
theorem dX3_loudestColumn_25 : decode cX3_loudestColumn 25 = .ok (.getfield 22, 3) := by decide +kernel
theorem dX3_loudestColumn_28 : decode cX3_loudestColumn 28 = .ok (.invokevirtual 25, 3) := by decide +kernel
theorem dX3_loudestColumn_31 : decode cX3_loudestColumn 31 = .ok (.aload_n 0, 1) := by decide +kernel
theorem dX3_loudestColumn_32 : decode cX3_loudestColumn 32 = .ok (.getfield 12, 3) := by decide +kernel
theorem dX3_loudestColumn_35 : decode cX3_loudestColumn 35 = .ok (.iload 5, 2) := by decide +kernel
theorem dX3_loudestColumn_37 : decode cX3_loudestColumn 37 = .ok (.putfield 54, 3) := by decide +kernel
theorem dX3_loudestColumn_40 : decode cX3_loudestColumn 40 = .ok (.aload_n 0, 1) := by decide +kernel
theorem dX3_loudestColumn_41 : decode cX3_loudestColumn 41 = .ok (.getfield 12, 3) := by decide +kernel
theorem dX3_loudestColumn_44 : decode cX3_loudestColumn 44 = .ok (.iload_n 1, 1) := by decide +kernel
theorem dX3_loudestColumn_45 : decode cX3_loudestColumn 45 = .ok (.invokevirtual 75, 3) := by decide +kernel
theorem dX3_loudestColumn_48 : decode cX3_loudestColumn 48 = .ok (.istore 6, 2) := by decide +kernel
theorem dX3_loudestColumn_50 : decode cX3_loudestColumn 50 = .ok (.iload 6, 2) := by decide +kernel
theorem dX3_loudestColumn_52 : decode cX3_loudestColumn 52 = .ok (.iload 4, 2) := by decide +kernel
theorem dX3_loudestColumn_54 : decode cX3_loudestColumn 54 = .ok (.if_icmp .le 10, 3) := by decide +kernel
theorem dX3_loudestColumn_57 : decode cX3_loudestColumn 57 = .ok (.iload 6, 2) := by decide +kernel
theorem dX3_loudestColumn_59 : decode cX3_loudestColumn 59 = .ok (.istore 4, 2) := by decide +kernel
theorem dX3_loudestColumn_61 : decode cX3_loudestColumn 61 = .ok (.iload 5, 2) := by decide +kernel
theorem dX3_loudestColumn_63 : decode cX3_loudestColumn 63 = .ok (.istore_n 3, 1) := by decide +kernel
theorem dX3_loudestColumn_64 : decode cX3_loudestColumn 64 = .ok (.iinc 5 1, 3) := by decide +kernel
theorem dX3_loudestColumn_67 : decode cX3_loudestColumn 67 = .ok (.goto (-59), 3) := by decide +kernel
theorem dX3_loudestColumn_70 : decode cX3_loudestColumn 70 = .ok (.iload_n 2, 1) := by decide +kernel
theorem dX3_loudestColumn_71 : decode cX3_loudestColumn 71 = .ok (.ifCond .ne 7, 3) := by decide +kernel
theorem dX3_loudestColumn_74 : decode cX3_loudestColumn 74 = .ok (.iload_n 3, 1) := by decide +kernel
theorem dX3_loudestColumn_75 : decode cX3_loudestColumn 75 = .ok (.goto 5, 3) := by decide +kernel
theorem dX3_loudestColumn_78 : decode cX3_loudestColumn 78 = .ok (.iload 4, 2) := by decide +kernel
theorem dX3_loudestColumn_80 : decode cX3_loudestColumn 80 = .ok (.ireturn, 1) := by decide +kernel
theorem dX3_leastSpring_0 : decode cX3_leastSpring 0 = .ok (.iconst 0, 1) := by decide +kernel
theorem dX3_leastSpring_1 : decode cX3_leastSpring 1 = .ok (.istore_n 2, 1) := by decide +kernel
theorem dX3_leastSpring_2 : decode cX3_leastSpring 2 = .ok (.iload_n 2, 1) := by decide +kernel
theorem dX3_leastSpring_3 : decode cX3_leastSpring 3 = .ok (.bipush 99, 2) := by decide +kernel
theorem dX3_leastSpring_5 : decode cX3_leastSpring 5 = .ok (.if_icmp .gt 71, 3) := by decide +kernel
theorem dX3_leastSpring_8 : decode cX3_leastSpring 8 = .ok (.aload_n 0, 1) := by decide +kernel
theorem dX3_leastSpring_9 : decode cX3_leastSpring 9 = .ok (.getfield 12, 3) := by decide +kernel
theorem dX3_leastSpring_12 : decode cX3_leastSpring 12 = .ok (.aload_n 0, 1) := by decide +kernel
theorem dX3_leastSpring_13 : decode cX3_leastSpring 13 = .ok (.getfield 22, 3) := by decide +kernel
theorem dX3_leastSpring_16 : decode cX3_leastSpring 16 = .ok (.invokevirtual 25, 3) := by decide +kernel
theorem dX3_leastSpring_19 : decode cX3_leastSpring 19 = .ok (.aload_n 0, 1) := by decide +kernel
theorem dX3_leastSpring_20 : decode cX3_leastSpring 20 = .ok (.getfield 12, 3) := by decide +kernel
theorem dX3_leastSpring_23 : decode cX3_leastSpring 23 = .ok (.iload_n 2, 1) := by decide +kernel
theorem dX3_leastSpring_24 : decode cX3_leastSpring 24 = .ok (.putfield 58, 3) := by decide +kernel
theorem dX3_leastSpring_27 : decode cX3_leastSpring 27 = .ok (.iconst 0, 1) := by decide +kernel
theorem dX3_leastSpring_28 : decode cX3_leastSpring 28 = .ok (.istore_n 3, 1) := by decide +kernel
theorem dX3_leastSpring_29 : decode cX3_leastSpring 29 = .ok (.iload_n 3, 1) := by decide +kernel
theorem dX3_leastSpring_30 : decode cX3_leastSpring 30 = .ok (.iload_n 1, 1) := by decide +kernel
theorem dX3_leastSpring_31 : decode cX3_leastSpring 31 = .ok (.if_icmp .ge 27, 3) := by decide +kernel
theorem dX3_leastSpring_34 : decode cX3_leastSpring 34 = .ok (.aload_n 0, 1) := by decide +kernel
theorem dX3_leastSpring_35 : decode cX3_leastSpring 35 = .ok (.getfield 12, 3) := by decide +kernel
theorem dX3_leastSpring_38 : decode cX3_leastSpring 38 = .ok (.getfield 58, 3) := by decide +kernel
theorem dX3_leastSpring_41 : decode cX3_leastSpring 41 = .ok (.ifCond .le 17, 3) := by decide +kernel
theorem dX3_leastSpring_44 : decode cX3_leastSpring 44 = .ok (.aload_n 0, 1) := by decide +kernel
theorem dX3_leastSpring_45 : decode cX3_leastSpring 45 = .ok (.getfield 12, 3) := by decide +kernel
theorem dX3_leastSpring_48 : decode cX3_leastSpring 48 = .ok (.invokevirtual 61, 3) := by decide +kernel
theorem dX3_leastSpring_51 : decode cX3_leastSpring 51 = .ok (.pop, 1) := by decide +kernel
theorem dX3_leastSpring_52 : decode cX3_leastSpring 52 = .ok (.iinc 3 1, 3) := by decide +kernel
theorem dX3_leastSpring_55 : decode cX3_leastSpring 55 = .ok (.goto (-26), 3) := by decide +kernel
theorem dX3_leastSpring_58 : decode cX3_leastSpring 58 = .ok (.aload_n 0, 1) := by decide +kernel
theorem dX3_leastSpring_59 : decode cX3_leastSpring 59 = .ok (.getfield 12, 3) := by decide +kernel
theorem dX3_leastSpring_62 : decode cX3_leastSpring 62 = .ok (.getfield 58, 3) := by decide +kernel
theorem dX3_leastSpring_65 : decode cX3_leastSpring 65 = .ok (.ifCond .le 5, 3) := by decide +kernel
theorem dX3_leastSpring_68 : decode cX3_leastSpring 68 = .ok (.iload_n 2, 1) := by decide +kernel
theorem dX3_leastSpring_69 : decode cX3_leastSpring 69 = .ok (.ireturn, 1) := by decide +kernel
theorem dX3_leastSpring_70 : decode cX3_leastSpring 70 = .ok (.iinc 2 1, 3) := by decide +kernel
theorem dX3_leastSpring_73 : decode cX3_leastSpring 73 = .ok (.goto (-71), 3) := by decide +kernel
theorem dX3_leastSpring_76 : decode cX3_leastSpring 76 = .ok (.ldc 64, 2) := by decide +kernel
theorem dX3_leastSpring_78 : decode cX3_leastSpring 78 = .ok (.ireturn, 1) := by decide +kernel
theorem dX3_columnsOfTune_0 : decode cX3_columnsOfTune 0 = .ok (.iconst 0, 1) := by decide +kernel
theorem dX3_columnsOfTune_1 : decode cX3_columnsOfTune 1 = .ok (.istore 4, 2) := by decide +kernel
theorem dX3_columnsOfTune_3 : decode cX3_columnsOfTune 3 = .ok (.iconst 0, 1) := by decide +kernel
theorem dX3_columnsOfTune_4 : decode cX3_columnsOfTune 4 = .ok (.istore 5, 2) := by decide +kernel
theorem dX3_columnsOfTune_6 : decode cX3_columnsOfTune 6 = .ok (.iload 5, 2) := by decide +kernel
theorem dX3_columnsOfTune_8 : decode cX3_columnsOfTune 8 = .ok (.aload_n 0, 1) := by decide +kernel
theorem dX3_columnsOfTune_9 : decode cX3_columnsOfTune 9 = .ok (.getfield 22, 3) := by decide +kernel
theorem dX3_columnsOfTune_12 : decode cX3_columnsOfTune 12 = .ok (.getfield 65, 3) := by decide +kernel
theorem dX3_columnsOfTune_15 : decode cX3_columnsOfTune 15 = .ok (.if_icmp .ge 30, 3) := by decide +kernel
theorem dX3_columnsOfTune_18 : decode cX3_columnsOfTune 18 = .ok (.aload_n 0, 1) := by decide +kernel
theorem dX3_columnsOfTune_19 : decode cX3_columnsOfTune 19 = .ok (.iload 5, 2) := by decide +kernel
theorem dX3_columnsOfTune_21 : decode cX3_columnsOfTune 21 = .ok (.aload_n 1, 1) := by decide +kernel
theorem dX3_columnsOfTune_22 : decode cX3_columnsOfTune 22 = .ok (.iload_n 2, 1) := by decide +kernel
theorem dX3_columnsOfTune_23 : decode cX3_columnsOfTune 23 = .ok (.iload_n 3, 1) := by decide +kernel
theorem dX3_columnsOfTune_24 : decode cX3_columnsOfTune 24 = .ok (.invokevirtual 79, 3) := by decide +kernel
theorem dX3_columnsOfTune_27 : decode cX3_columnsOfTune 27 = .ok (.ifCond .eq 12, 3) := by decide +kernel
theorem dX3_columnsOfTune_30 : decode cX3_columnsOfTune 30 = .ok (.iload 4, 2) := by decide +kernel
theorem dX3_columnsOfTune_32 : decode cX3_columnsOfTune 32 = .ok (.iconst 1, 1) := by decide +kernel
theorem dX3_columnsOfTune_33 : decode cX3_columnsOfTune 33 = .ok (.iload 5, 2) := by decide +kernel
theorem dX3_columnsOfTune_35 : decode cX3_columnsOfTune 35 = .ok (.ishl, 1) := by decide +kernel
theorem dX3_columnsOfTune_36 : decode cX3_columnsOfTune 36 = .ok (.ior, 1) := by decide +kernel
theorem dX3_columnsOfTune_37 : decode cX3_columnsOfTune 37 = .ok (.istore 4, 2) := by decide +kernel
theorem dX3_columnsOfTune_39 : decode cX3_columnsOfTune 39 = .ok (.iinc 5 1, 3) := by decide +kernel
theorem dX3_columnsOfTune_42 : decode cX3_columnsOfTune 42 = .ok (.goto (-36), 3) := by decide +kernel
theorem dX3_columnsOfTune_45 : decode cX3_columnsOfTune 45 = .ok (.iload 4, 2) := by decide +kernel
theorem dX3_columnsOfTune_47 : decode cX3_columnsOfTune 47 = .ok (.ireturn, 1) := by decide +kernel
theorem dX3_standsFrom_0 : decode cX3_standsFrom 0 = .ok (.iconst 1, 1) := by decide +kernel
theorem dX3_standsFrom_1 : decode cX3_standsFrom 1 = .ok (.aload_n 0, 1) := by decide +kernel
theorem dX3_standsFrom_2 : decode cX3_standsFrom 2 = .ok (.getfield 22, 3) := by decide +kernel
theorem dX3_standsFrom_5 : decode cX3_standsFrom 5 = .ok (.getfield 68, 3) := by decide +kernel
theorem dX3_standsFrom_8 : decode cX3_standsFrom 8 = .ok (.ishl, 1) := by decide +kernel
theorem dX3_standsFrom_9 : decode cX3_standsFrom 9 = .ok (.iconst 1, 1) := by decide +kernel
theorem dX3_standsFrom_10 : decode cX3_standsFrom 10 = .ok (.isub, 1) := by decide +kernel
theorem dX3_standsFrom_11 : decode cX3_standsFrom 11 = .ok (.istore 5, 2) := by decide +kernel
theorem dX3_standsFrom_13 : decode cX3_standsFrom 13 = .ok (.iload_n 1, 1) := by decide +kernel
theorem dX3_standsFrom_14 : decode cX3_standsFrom 14 = .ok (.istore 6, 2) := by decide +kernel
theorem dX3_standsFrom_16 : decode cX3_standsFrom 16 = .ok (.iload_n 3, 1) := by decide +kernel
theorem dX3_standsFrom_17 : decode cX3_standsFrom 17 = .ok (.istore 7, 2) := by decide +kernel
theorem dX3_standsFrom_19 : decode cX3_standsFrom 19 = .ok (.iload 7, 2) := by decide +kernel
theorem dX3_standsFrom_21 : decode cX3_standsFrom 21 = .ok (.iload_n 3, 1) := by decide +kernel
theorem dX3_standsFrom_22 : decode cX3_standsFrom 22 = .ok (.iload 4, 2) := by decide +kernel
theorem dX3_standsFrom_24 : decode cX3_standsFrom 24 = .ok (.iadd, 1) := by decide +kernel
theorem dX3_standsFrom_25 : decode cX3_standsFrom 25 = .ok (.if_icmp .ge 58, 3) := by decide +kernel
theorem dX3_standsFrom_28 : decode cX3_standsFrom 28 = .ok (.aload_n 0, 1) := by decide +kernel
theorem dX3_standsFrom_29 : decode cX3_standsFrom 29 = .ok (.getfield 22, 3) := by decide +kernel
theorem dX3_standsFrom_32 : decode cX3_standsFrom 32 = .ok (.getfield 83, 3) := by decide +kernel
theorem dX3_standsFrom_35 : decode cX3_standsFrom 35 = .ok (.iload 6, 2) := by decide +kernel
theorem dX3_standsFrom_37 : decode cX3_standsFrom 37 = .ok (.iaload, 1) := by decide +kernel
theorem dX3_standsFrom_38 : decode cX3_standsFrom 38 = .ok (.iload 5, 2) := by decide +kernel
theorem dX3_standsFrom_40 : decode cX3_standsFrom 40 = .ok (.iand, 1) := by decide +kernel
theorem dX3_standsFrom_41 : decode cX3_standsFrom 41 = .ok (.aload_n 2, 1) := by decide +kernel
theorem dX3_standsFrom_42 : decode cX3_standsFrom 42 = .ok (.getfield 86, 3) := by decide +kernel
theorem dX3_standsFrom_45 : decode cX3_standsFrom 45 = .ok (.iload 7, 2) := by decide +kernel
theorem dX3_standsFrom_47 : decode cX3_standsFrom 47 = .ok (.iaload, 1) := by decide +kernel
theorem dX3_standsFrom_48 : decode cX3_standsFrom 48 = .ok (.if_icmp .eq 5, 3) := by decide +kernel
theorem dX3_standsFrom_51 : decode cX3_standsFrom 51 = .ok (.iconst 0, 1) := by decide +kernel
theorem dX3_standsFrom_52 : decode cX3_standsFrom 52 = .ok (.ireturn, 1) := by decide +kernel
theorem dX3_standsFrom_53 : decode cX3_standsFrom 53 = .ok (.iload 6, 2) := by decide +kernel
theorem dX3_standsFrom_55 : decode cX3_standsFrom 55 = .ok (.iconst 1, 1) := by decide +kernel
theorem dX3_standsFrom_56 : decode cX3_standsFrom 56 = .ok (.iadd, 1) := by decide +kernel
theorem dX3_standsFrom_57 : decode cX3_standsFrom 57 = .ok (.aload_n 0, 1) := by decide +kernel
theorem dX3_standsFrom_58 : decode cX3_standsFrom 58 = .ok (.getfield 22, 3) := by decide +kernel
theorem dX3_standsFrom_61 : decode cX3_standsFrom 61 = .ok (.getfield 65, 3) := by decide +kernel
theorem dX3_standsFrom_64 : decode cX3_standsFrom 64 = .ok (.if_icmp .ge 10, 3) := by decide +kernel
theorem dX3_standsFrom_67 : decode cX3_standsFrom 67 = .ok (.iload 6, 2) := by decide +kernel
theorem dX3_standsFrom_69 : decode cX3_standsFrom 69 = .ok (.iconst 1, 1) := by decide +kernel
theorem dX3_standsFrom_70 : decode cX3_standsFrom 70 = .ok (.iadd, 1) := by decide +kernel
theorem dX3_standsFrom_71 : decode cX3_standsFrom 71 = .ok (.goto 4, 3) := by decide +kernel
theorem dX3_standsFrom_74 : decode cX3_standsFrom 74 = .ok (.iconst 0, 1) := by decide +kernel
theorem dX3_standsFrom_75 : decode cX3_standsFrom 75 = .ok (.istore 6, 2) := by decide +kernel
theorem dX3_standsFrom_77 : decode cX3_standsFrom 77 = .ok (.iinc 7 1, 3) := by decide +kernel
theorem dX3_standsFrom_80 : decode cX3_standsFrom 80 = .ok (.goto (-61), 3) := by decide +kernel
theorem dX3_standsFrom_83 : decode cX3_standsFrom 83 = .ok (.iconst 1, 1) := by decide +kernel
theorem dX3_standsFrom_84 : decode cX3_standsFrom 84 = .ok (.ireturn, 1) := by decide +kernel
theorem dX3_setsThatRing_0 : decode cX3_setsThatRing 0 = .ok (.aload_n 0, 1) := by decide +kernel
theorem dX3_setsThatRing_1 : decode cX3_setsThatRing 1 = .ok (.getfield 22, 3) := by decide +kernel
theorem dX3_setsThatRing_4 : decode cX3_setsThatRing 4 = .ok (.invokevirtual 51, 3) := by decide +kernel
theorem dX3_setsThatRing_7 : decode cX3_setsThatRing 7 = .ok (.istore_n 3, 1) := by decide +kernel
theorem dX3_setsThatRing_8 : decode cX3_setsThatRing 8 = .ok (.iconst 0, 1) := by decide +kernel
theorem dX3_setsThatRing_9 : decode cX3_setsThatRing 9 = .ok (.istore 4, 2) := by decide +kernel
theorem dX3_setsThatRing_11 : decode cX3_setsThatRing 11 = .ok (.iload_n 3, 1) := by decide +kernel
theorem dX3_setsThatRing_12 : decode cX3_setsThatRing 12 = .ok (.istore 5, 2) := by decide +kernel
theorem dX3_setsThatRing_14 : decode cX3_setsThatRing 14 = .ok (.iconst 0, 1) := by decide +kernel
theorem dX3_setsThatRing_15 : decode cX3_setsThatRing 15 = .ok (.istore 6, 2) := by decide +kernel
theorem dX3_setsThatRing_17 : decode cX3_setsThatRing 17 = .ok (.iconst 0, 1) := by decide +kernel
theorem dX3_setsThatRing_18 : decode cX3_setsThatRing 18 = .ok (.istore 7, 2) := by decide +kernel
theorem dX3_setsThatRing_20 : decode cX3_setsThatRing 20 = .ok (.iload 7, 2) := by decide +kernel
theorem dX3_setsThatRing_22 : decode cX3_setsThatRing 22 = .ok (.iconst 1, 1) := by decide +kernel
theorem dX3_setsThatRing_23 : decode cX3_setsThatRing 23 = .ok (.aload_n 0, 1) := by decide +kernel
theorem dX3_setsThatRing_24 : decode cX3_setsThatRing 24 = .ok (.getfield 22, 3) := by decide +kernel
theorem dX3_setsThatRing_27 : decode cX3_setsThatRing 27 = .ok (.getfield 68, 3) := by decide +kernel
theorem dX3_setsThatRing_30 : decode cX3_setsThatRing 30 = .ok (.ishl, 1) := by decide +kernel
theorem dX3_setsThatRing_31 : decode cX3_setsThatRing 31 = .ok (.if_icmp .ge 45, 3) := by decide +kernel
theorem dX3_setsThatRing_34 : decode cX3_setsThatRing 34 = .ok (.iload 7, 2) := by decide +kernel
theorem dX3_setsThatRing_36 : decode cX3_setsThatRing 36 = .ok (.iload_n 3, 1) := by decide +kernel
theorem dX3_setsThatRing_37 : decode cX3_setsThatRing 37 = .ok (.iconst (-1), 1) := by decide +kernel
theorem dX3_setsThatRing_38 : decode cX3_setsThatRing 38 = .ok (.ixor, 1) := by decide +kernel
theorem dX3_setsThatRing_39 : decode cX3_setsThatRing 39 = .ok (.iand, 1) := by decide +kernel
theorem dX3_setsThatRing_40 : decode cX3_setsThatRing 40 = .ok (.ifCond .ne 30, 3) := by decide +kernel
theorem dX3_setsThatRing_43 : decode cX3_setsThatRing 43 = .ok (.aload_n 0, 1) := by decide +kernel
theorem dX3_setsThatRing_44 : decode cX3_setsThatRing 44 = .ok (.iload 7, 2) := by decide +kernel
theorem dX3_setsThatRing_46 : decode cX3_setsThatRing 46 = .ok (.invokevirtual 91, 3) := by decide +kernel
theorem dX3_setsThatRing_49 : decode cX3_setsThatRing 49 = .ok (.iload_n 1, 1) := by decide +kernel
theorem dX3_setsThatRing_50 : decode cX3_setsThatRing 50 = .ok (.if_icmp .ne 20, 3) := by decide +kernel
theorem dX3_setsThatRing_53 : decode cX3_setsThatRing 53 = .ok (.iinc 4 1, 3) := by decide +kernel
theorem dX3_setsThatRing_56 : decode cX3_setsThatRing 56 = .ok (.iload 5, 2) := by decide +kernel
theorem dX3_setsThatRing_58 : decode cX3_setsThatRing 58 = .ok (.iload 7, 2) := by decide +kernel
theorem dX3_setsThatRing_60 : decode cX3_setsThatRing 60 = .ok (.iand, 1) := by decide +kernel
theorem dX3_setsThatRing_61 : decode cX3_setsThatRing 61 = .ok (.istore 5, 2) := by decide +kernel
theorem dX3_setsThatRing_63 : decode cX3_setsThatRing 63 = .ok (.iload 6, 2) := by decide +kernel
theorem dX3_setsThatRing_65 : decode cX3_setsThatRing 65 = .ok (.iload 7, 2) := by decide +kernel
theorem dX3_setsThatRing_67 : decode cX3_setsThatRing 67 = .ok (.ior, 1) := by decide +kernel
theorem dX3_setsThatRing_68 : decode cX3_setsThatRing 68 = .ok (.istore 6, 2) := by decide +kernel
theorem dX3_setsThatRing_70 : decode cX3_setsThatRing 70 = .ok (.iinc 7 1, 3) := by decide +kernel
theorem dX3_setsThatRing_73 : decode cX3_setsThatRing 73 = .ok (.goto (-53), 3) := by decide +kernel
theorem dX3_setsThatRing_76 : decode cX3_setsThatRing 76 = .ok (.iload_n 2, 1) := by decide +kernel
theorem dX3_setsThatRing_77 : decode cX3_setsThatRing 77 = .ok (.lookupswitch 42 #[(0, 27), (1, 30)], 27) := by decide +kernel
theorem dX3_setsThatRing_104 : decode cX3_setsThatRing 104 = .ok (.iload 4, 2) := by decide +kernel
theorem dX3_setsThatRing_106 : decode cX3_setsThatRing 106 = .ok (.ireturn, 1) := by decide +kernel
theorem dX3_setsThatRing_107 : decode cX3_setsThatRing 107 = .ok (.iload 4, 2) := by decide +kernel
theorem dX3_setsThatRing_109 : decode cX3_setsThatRing 109 = .ok (.ifCond .ne 7, 3) := by decide +kernel
theorem dX3_setsThatRing_112 : decode cX3_setsThatRing 112 = .ok (.iconst 0, 1) := by decide +kernel
theorem dX3_setsThatRing_113 : decode cX3_setsThatRing 113 = .ok (.goto 5, 3) := by decide +kernel
theorem dX3_setsThatRing_116 : decode cX3_setsThatRing 116 = .ok (.iload 5, 2) := by decide +kernel
theorem dX3_setsThatRing_118 : decode cX3_setsThatRing 118 = .ok (.ireturn, 1) := by decide +kernel
theorem dX3_setsThatRing_119 : decode cX3_setsThatRing 119 = .ok (.iload 6, 2) := by decide +kernel
theorem dX3_setsThatRing_121 : decode cX3_setsThatRing 121 = .ok (.ireturn, 1) := by decide +kernel
theorem dX3_loudOf_0 : decode cX3_loudOf 0 = .ok (.iconst 0, 1) := by decide +kernel
theorem dX3_loudOf_1 : decode cX3_loudOf 1 = .ok (.istore_n 2, 1) := by decide +kernel
theorem dX3_loudOf_2 : decode cX3_loudOf 2 = .ok (.iconst 0, 1) := by decide +kernel
theorem dX3_loudOf_3 : decode cX3_loudOf 3 = .ok (.istore_n 3, 1) := by decide +kernel
theorem dX3_loudOf_4 : decode cX3_loudOf 4 = .ok (.iload_n 3, 1) := by decide +kernel
theorem dX3_loudOf_5 : decode cX3_loudOf 5 = .ok (.aload_n 0, 1) := by decide +kernel
theorem dX3_loudOf_6 : decode cX3_loudOf 6 = .ok (.getfield 22, 3) := by decide +kernel
theorem dX3_loudOf_9 : decode cX3_loudOf 9 = .ok (.getfield 68, 3) := by decide +kernel
theorem dX3_loudOf_12 : decode cX3_loudOf 12 = .ok (.if_icmp .ge 30, 3) := by decide +kernel
theorem dX3_loudOf_15 : decode cX3_loudOf 15 = .ok (.iload_n 1, 1) := by decide +kernel
theorem dX3_loudOf_16 : decode cX3_loudOf 16 = .ok (.iload_n 3, 1) := by decide +kernel
theorem dX3_loudOf_17 : decode cX3_loudOf 17 = .ok (.ishr, 1) := by decide +kernel
theorem dX3_loudOf_18 : decode cX3_loudOf 18 = .ok (.iconst 1, 1) := by decide +kernel
theorem dX3_loudOf_19 : decode cX3_loudOf 19 = .ok (.iand, 1) := by decide +kernel
theorem dX3_loudOf_20 : decode cX3_loudOf 20 = .ok (.iconst 1, 1) := by decide +kernel
theorem dX3_loudOf_21 : decode cX3_loudOf 21 = .ok (.if_icmp .ne 15, 3) := by decide +kernel
theorem dX3_loudOf_24 : decode cX3_loudOf 24 = .ok (.iload_n 2, 1) := by decide +kernel
theorem dX3_loudOf_25 : decode cX3_loudOf 25 = .ok (.aload_n 0, 1) := by decide +kernel
theorem dX3_loudOf_26 : decode cX3_loudOf 26 = .ok (.getfield 22, 3) := by decide +kernel
theorem dX3_loudOf_29 : decode cX3_loudOf 29 = .ok (.getfield 36, 3) := by decide +kernel
theorem dX3_loudOf_32 : decode cX3_loudOf 32 = .ok (.iload_n 3, 1) := by decide +kernel
theorem dX3_loudOf_33 : decode cX3_loudOf 33 = .ok (.iaload, 1) := by decide +kernel
theorem dX3_loudOf_34 : decode cX3_loudOf 34 = .ok (.iadd, 1) := by decide +kernel
theorem dX3_loudOf_35 : decode cX3_loudOf 35 = .ok (.istore_n 2, 1) := by decide +kernel
theorem dX3_loudOf_36 : decode cX3_loudOf 36 = .ok (.iinc 3 1, 3) := by decide +kernel
theorem dX3_loudOf_39 : decode cX3_loudOf 39 = .ok (.goto (-35), 3) := by decide +kernel
theorem dX3_loudOf_42 : decode cX3_loudOf 42 = .ok (.iload_n 2, 1) := by decide +kernel
theorem dX3_loudOf_43 : decode cX3_loudOf 43 = .ok (.ireturn, 1) := by decide +kernel
theorem dX3_wear_0 : decode cX3_wear 0 = .ok (.aload_n 0, 1) := by decide +kernel
theorem dX3_wear_1 : decode cX3_wear 1 = .ok (.getfield 22, 3) := by decide +kernel
theorem dX3_wear_4 : decode cX3_wear 4 = .ok (.iload_n 1, 1) := by decide +kernel
theorem dX3_wear_5 : decode cX3_wear 5 = .ok (.invokevirtual 43, 3) := by decide +kernel
theorem dX3_wear_8 : decode cX3_wear 8 = .ok (.ifCond .eq 7, 3) := by decide +kernel
theorem dX3_wear_11 : decode cX3_wear 11 = .ok (.iconst 0, 1) := by decide +kernel
theorem dX3_wear_12 : decode cX3_wear 12 = .ok (.goto 12, 3) := by decide +kernel
theorem dX3_wear_15 : decode cX3_wear 15 = .ok (.aload_n 0, 1) := by decide +kernel
theorem dX3_wear_16 : decode cX3_wear 16 = .ok (.getfield 22, 3) := by decide +kernel
theorem dX3_wear_19 : decode cX3_wear 19 = .ok (.getfield 40, 3) := by decide +kernel
theorem dX3_wear_22 : decode cX3_wear 22 = .ok (.iload_n 1, 1) := by decide +kernel
theorem dX3_wear_23 : decode cX3_wear 23 = .ok (.iaload, 1) := by decide +kernel
theorem dX3_wear_24 : decode cX3_wear 24 = .ok (.ireturn, 1) := by decide +kernel
theorem dX3_oilFor_0 : decode cX3_oilFor 0 = .ok (.iconst 0, 1) := by decide +kernel
theorem dX3_oilFor_1 : decode cX3_oilFor 1 = .ok (.istore_n 3, 1) := by decide +kernel
theorem dX3_oilFor_2 : decode cX3_oilFor 2 = .ok (.iconst 0, 1) := by decide +kernel
theorem dX3_oilFor_3 : decode cX3_oilFor 3 = .ok (.istore 4, 2) := by decide +kernel
theorem dX3_oilFor_5 : decode cX3_oilFor 5 = .ok (.iload 4, 2) := by decide +kernel
theorem dX3_oilFor_7 : decode cX3_oilFor 7 = .ok (.aload_n 0, 1) := by decide +kernel
theorem dX3_oilFor_8 : decode cX3_oilFor 8 = .ok (.getfield 22, 3) := by decide +kernel
theorem dX3_oilFor_11 : decode cX3_oilFor 11 = .ok (.getfield 68, 3) := by decide +kernel
theorem dX3_oilFor_14 : decode cX3_oilFor 14 = .ok (.if_icmp .ge 18, 3) := by decide +kernel
theorem dX3_oilFor_17 : decode cX3_oilFor 17 = .ok (.iload_n 3, 1) := by decide +kernel
theorem dX3_oilFor_18 : decode cX3_oilFor 18 = .ok (.aload_n 0, 1) := by decide +kernel
theorem dX3_oilFor_19 : decode cX3_oilFor 19 = .ok (.iload 4, 2) := by decide +kernel
theorem dX3_oilFor_21 : decode cX3_oilFor 21 = .ok (.invokevirtual 94, 3) := by decide +kernel
theorem dX3_oilFor_24 : decode cX3_oilFor 24 = .ok (.iadd, 1) := by decide +kernel
theorem dX3_oilFor_25 : decode cX3_oilFor 25 = .ok (.istore_n 3, 1) := by decide +kernel
theorem dX3_oilFor_26 : decode cX3_oilFor 26 = .ok (.iinc 4 1, 3) := by decide +kernel
theorem dX3_oilFor_29 : decode cX3_oilFor 29 = .ok (.goto (-24), 3) := by decide +kernel
theorem dX3_oilFor_32 : decode cX3_oilFor 32 = .ok (.iload_n 3, 1) := by decide +kernel
theorem dX3_oilFor_33 : decode cX3_oilFor 33 = .ok (.ifCond .eq 11, 3) := by decide +kernel
theorem dX3_oilFor_36 : decode cX3_oilFor 36 = .ok (.aload_n 0, 1) := by decide +kernel
theorem dX3_oilFor_37 : decode cX3_oilFor 37 = .ok (.iload_n 1, 1) := by decide +kernel
theorem dX3_oilFor_38 : decode cX3_oilFor 38 = .ok (.invokevirtual 94, 3) := by decide +kernel
theorem dX3_oilFor_41 : decode cX3_oilFor 41 = .ok (.ifCond .ne 5, 3) := by decide +kernel
theorem dX3_oilFor_44 : decode cX3_oilFor 44 = .ok (.iconst 0, 1) := by decide +kernel
theorem dX3_oilFor_45 : decode cX3_oilFor 45 = .ok (.ireturn, 1) := by decide +kernel
theorem dX3_oilFor_46 : decode cX3_oilFor 46 = .ok (.iload_n 2, 1) := by decide +kernel
theorem dX3_oilFor_47 : decode cX3_oilFor 47 = .ok (.istore 4, 2) := by decide +kernel
theorem dX3_oilFor_49 : decode cX3_oilFor 49 = .ok (.iconst 0, 1) := by decide +kernel
theorem dX3_oilFor_50 : decode cX3_oilFor 50 = .ok (.istore 5, 2) := by decide +kernel
theorem dX3_oilFor_52 : decode cX3_oilFor 52 = .ok (.iconst 0, 1) := by decide +kernel
theorem dX3_oilFor_53 : decode cX3_oilFor 53 = .ok (.istore 6, 2) := by decide +kernel
theorem dX3_oilFor_55 : decode cX3_oilFor 55 = .ok (.iload 6, 2) := by decide +kernel
theorem dX3_oilFor_57 : decode cX3_oilFor 57 = .ok (.aload_n 0, 1) := by decide +kernel
theorem dX3_oilFor_58 : decode cX3_oilFor 58 = .ok (.getfield 22, 3) := by decide +kernel
theorem dX3_oilFor_61 : decode cX3_oilFor 61 = .ok (.getfield 68, 3) := by decide +kernel
theorem dX3_oilFor_64 : decode cX3_oilFor 64 = .ok (.if_icmp .ge 42, 3) := by decide +kernel
theorem dX3_oilFor_67 : decode cX3_oilFor 67 = .ok (.iload 4, 2) := by decide +kernel
theorem dX3_oilFor_69 : decode cX3_oilFor 69 = .ok (.iload_n 2, 1) := by decide +kernel
theorem dX3_oilFor_70 : decode cX3_oilFor 70 = .ok (.aload_n 0, 1) := by decide +kernel
theorem dX3_oilFor_71 : decode cX3_oilFor 71 = .ok (.iload 6, 2) := by decide +kernel
theorem dX3_oilFor_73 : decode cX3_oilFor 73 = .ok (.invokevirtual 94, 3) := by decide +kernel
theorem dX3_oilFor_76 : decode cX3_oilFor 76 = .ok (.imul, 1) := by decide +kernel
theorem dX3_oilFor_77 : decode cX3_oilFor 77 = .ok (.iload_n 3, 1) := by decide +kernel
theorem dX3_oilFor_78 : decode cX3_oilFor 78 = .ok (.idiv, 1) := by decide +kernel
theorem dX3_oilFor_79 : decode cX3_oilFor 79 = .ok (.isub, 1) := by decide +kernel
theorem dX3_oilFor_80 : decode cX3_oilFor 80 = .ok (.istore 4, 2) := by decide +kernel
theorem dX3_oilFor_82 : decode cX3_oilFor 82 = .ok (.iload 6, 2) := by decide +kernel
theorem dX3_oilFor_84 : decode cX3_oilFor 84 = .ok (.iload_n 1, 1) := by decide +kernel
theorem dX3_oilFor_85 : decode cX3_oilFor 85 = .ok (.if_icmp .ge 15, 3) := by decide +kernel
theorem dX3_oilFor_88 : decode cX3_oilFor 88 = .ok (.aload_n 0, 1) := by decide +kernel
theorem dX3_oilFor_89 : decode cX3_oilFor 89 = .ok (.iload 6, 2) := by decide +kernel
theorem dX3_oilFor_91 : decode cX3_oilFor 91 = .ok (.invokevirtual 94, 3) := by decide +kernel
theorem dX3_oilFor_94 : decode cX3_oilFor 94 = .ok (.ifCond .le 6, 3) := by decide +kernel
theorem dX3_oilFor_97 : decode cX3_oilFor 97 = .ok (.iinc 5 1, 3) := by decide +kernel
theorem dX3_oilFor_100 : decode cX3_oilFor 100 = .ok (.iinc 6 1, 3) := by decide +kernel
theorem dX3_oilFor_103 : decode cX3_oilFor 103 = .ok (.goto (-48), 3) := by decide +kernel
theorem dX3_oilFor_106 : decode cX3_oilFor 106 = .ok (.iload_n 2, 1) := by decide +kernel
theorem dX3_oilFor_107 : decode cX3_oilFor 107 = .ok (.aload_n 0, 1) := by decide +kernel
theorem dX3_oilFor_108 : decode cX3_oilFor 108 = .ok (.iload_n 1, 1) := by decide +kernel
theorem dX3_oilFor_109 : decode cX3_oilFor 109 = .ok (.invokevirtual 94, 3) := by decide +kernel
theorem dX3_oilFor_112 : decode cX3_oilFor 112 = .ok (.imul, 1) := by decide +kernel
theorem dX3_oilFor_113 : decode cX3_oilFor 113 = .ok (.iload_n 3, 1) := by decide +kernel
theorem dX3_oilFor_114 : decode cX3_oilFor 114 = .ok (.idiv, 1) := by decide +kernel
theorem dX3_oilFor_115 : decode cX3_oilFor 115 = .ok (.iload 5, 2) := by decide +kernel
theorem dX3_oilFor_117 : decode cX3_oilFor 117 = .ok (.iload 4, 2) := by decide +kernel
theorem dX3_oilFor_119 : decode cX3_oilFor 119 = .ok (.if_icmp .ge 7, 3) := by decide +kernel
theorem dX3_oilFor_122 : decode cX3_oilFor 122 = .ok (.iconst 1, 1) := by decide +kernel
theorem dX3_oilFor_123 : decode cX3_oilFor 123 = .ok (.goto 4, 3) := by decide +kernel
theorem dX3_oilFor_126 : decode cX3_oilFor 126 = .ok (.iconst 0, 1) := by decide +kernel
theorem dX3_oilFor_127 : decode cX3_oilFor 127 = .ok (.iadd, 1) := by decide +kernel
theorem dX3_oilFor_128 : decode cX3_oilFor 128 = .ok (.ireturn, 1) := by decide +kernel
theorem dX3_outcomeOfTurns_0 : decode cX3_outcomeOfTurns 0 = .ok (.aload_n 0, 1) := by decide +kernel
theorem dX3_outcomeOfTurns_1 : decode cX3_outcomeOfTurns 1 = .ok (.iconst 0, 1) := by decide +kernel
theorem dX3_outcomeOfTurns_2 : decode cX3_outcomeOfTurns 2 = .ok (.iload_n 1, 1) := by decide +kernel
theorem dX3_outcomeOfTurns_3 : decode cX3_outcomeOfTurns 3 = .ok (.iload_n 2, 1) := by decide +kernel
theorem dX3_outcomeOfTurns_4 : decode cX3_outcomeOfTurns 4 = .ok (.iconst 0, 1) := by decide +kernel
theorem dX3_outcomeOfTurns_5 : decode cX3_outcomeOfTurns 5 = .ok (.iconst 0, 1) := by decide +kernel
theorem dX3_outcomeOfTurns_6 : decode cX3_outcomeOfTurns 6 = .ok (.invokevirtual 97, 3) := by decide +kernel
theorem dX3_outcomeOfTurns_9 : decode cX3_outcomeOfTurns 9 = .ok (.ireturn, 1) := by decide +kernel
theorem dX3_outcome_0 : decode cX3_outcome 0 = .ok (.iload_n 1, 1) := by decide +kernel
theorem dX3_outcome_1 : decode cX3_outcome 1 = .ok (.iload_n 2, 1) := by decide +kernel
theorem dX3_outcome_2 : decode cX3_outcome 2 = .ok (.if_icmp .lt 13, 3) := by decide +kernel
theorem dX3_outcome_5 : decode cX3_outcome 5 = .ok (.aload_n 0, 1) := by decide +kernel
theorem dX3_outcome_6 : decode cX3_outcome 6 = .ok (.iload_n 3, 1) := by decide +kernel
theorem dX3_outcome_7 : decode cX3_outcome 7 = .ok (.iload 4, 2) := by decide +kernel
theorem dX3_outcome_9 : decode cX3_outcome 9 = .ok (.iload 5, 2) := by decide +kernel
theorem dX3_outcome_11 : decode cX3_outcome 11 = .ok (.invokevirtual 101, 3) := by decide +kernel
theorem dX3_outcome_14 : decode cX3_outcome 14 = .ok (.ireturn, 1) := by decide +kernel
theorem dX3_outcome_15 : decode cX3_outcome 15 = .ok (.aload_n 0, 1) := by decide +kernel
theorem dX3_outcome_16 : decode cX3_outcome 16 = .ok (.iload_n 1, 1) := by decide +kernel
theorem dX3_outcome_17 : decode cX3_outcome 17 = .ok (.iconst 1, 1) := by decide +kernel
theorem dX3_outcome_18 : decode cX3_outcome 18 = .ok (.iadd, 1) := by decide +kernel
theorem dX3_outcome_19 : decode cX3_outcome 19 = .ok (.iload_n 2, 1) := by decide +kernel
theorem dX3_outcome_20 : decode cX3_outcome 20 = .ok (.iload_n 3, 1) := by decide +kernel
theorem dX3_outcome_21 : decode cX3_outcome 21 = .ok (.iload 4, 2) := by decide +kernel
theorem dX3_outcome_23 : decode cX3_outcome 23 = .ok (.iload 5, 2) := by decide +kernel
theorem dX3_outcome_25 : decode cX3_outcome 25 = .ok (.invokevirtual 97, 3) := by decide +kernel
theorem dX3_outcome_28 : decode cX3_outcome 28 = .ok (.istore 6, 2) := by decide +kernel
theorem dX3_outcome_30 : decode cX3_outcome 30 = .ok (.iload_n 1, 1) := by decide +kernel
theorem dX3_outcome_31 : decode cX3_outcome 31 = .ok (.iconst 2, 1) := by decide +kernel
theorem dX3_outcome_32 : decode cX3_outcome 32 = .ok (.irem, 1) := by decide +kernel
theorem dX3_outcome_33 : decode cX3_outcome 33 = .ok (.ifCond .ne 30, 3) := by decide +kernel
theorem dX3_outcome_36 : decode cX3_outcome 36 = .ok (.iload 6, 2) := by decide +kernel
theorem dX3_outcome_38 : decode cX3_outcome 38 = .ok (.aload_n 0, 1) := by decide +kernel
theorem dX3_outcome_39 : decode cX3_outcome 39 = .ok (.iload_n 1, 1) := by decide +kernel
theorem dX3_outcome_40 : decode cX3_outcome 40 = .ok (.iconst 1, 1) := by decide +kernel
theorem dX3_outcome_41 : decode cX3_outcome 41 = .ok (.iadd, 1) := by decide +kernel
theorem dX3_outcome_42 : decode cX3_outcome 42 = .ok (.iload_n 2, 1) := by decide +kernel
theorem dX3_outcome_43 : decode cX3_outcome 43 = .ok (.iload_n 3, 1) := by decide +kernel
theorem dX3_outcome_44 : decode cX3_outcome 44 = .ok (.iload 4, 2) := by decide +kernel
theorem dX3_outcome_46 : decode cX3_outcome 46 = .ok (.iload 5, 2) := by decide +kernel
theorem dX3_outcome_48 : decode cX3_outcome 48 = .ok (.ifCond .ne 7, 3) := by decide +kernel
theorem dX3_outcome_51 : decode cX3_outcome 51 = .ok (.iconst 1, 1) := by decide +kernel
theorem dX3_outcome_52 : decode cX3_outcome 52 = .ok (.goto 4, 3) := by decide +kernel
theorem dX3_outcome_55 : decode cX3_outcome 55 = .ok (.iconst 0, 1) := by decide +kernel
theorem dX3_outcome_56 : decode cX3_outcome 56 = .ok (.invokevirtual 97, 3) := by decide +kernel
theorem dX3_outcome_59 : decode cX3_outcome 59 = .ok (.invokestatic 105, 3) := by decide +kernel
theorem dX3_outcome_62 : decode cX3_outcome 62 = .ok (.ireturn, 1) := by decide +kernel
theorem dX3_outcome_63 : decode cX3_outcome 63 = .ok (.iload 6, 2) := by decide +kernel
theorem dX3_outcome_65 : decode cX3_outcome 65 = .ok (.aload_n 0, 1) := by decide +kernel
theorem dX3_outcome_66 : decode cX3_outcome 66 = .ok (.iload_n 1, 1) := by decide +kernel
theorem dX3_outcome_67 : decode cX3_outcome 67 = .ok (.iconst 1, 1) := by decide +kernel
theorem dX3_outcome_68 : decode cX3_outcome 68 = .ok (.iadd, 1) := by decide +kernel
theorem dX3_outcome_69 : decode cX3_outcome 69 = .ok (.iload_n 2, 1) := by decide +kernel
theorem dX3_outcome_70 : decode cX3_outcome 70 = .ok (.iload_n 3, 1) := by decide +kernel
theorem dX3_outcome_71 : decode cX3_outcome 71 = .ok (.iload 4, 2) := by decide +kernel
theorem dX3_outcome_73 : decode cX3_outcome 73 = .ok (.iconst 2, 1) := by decide +kernel
theorem dX3_outcome_74 : decode cX3_outcome 74 = .ok (.iadd, 1) := by decide +kernel
theorem dX3_outcome_75 : decode cX3_outcome 75 = .ok (.iload 5, 2) := by decide +kernel
theorem dX3_outcome_77 : decode cX3_outcome 77 = .ok (.invokevirtual 97, 3) := by decide +kernel
theorem dX3_outcome_80 : decode cX3_outcome 80 = .ok (.invokestatic 111, 3) := by decide +kernel
theorem dX3_outcome_83 : decode cX3_outcome 83 = .ok (.ireturn, 1) := by decide +kernel
theorem dX3_loudBehindTurns_0 : decode cX3_loudBehindTurns 0 = .ok (.aload_n 0, 1) := by decide +kernel
theorem dX3_loudBehindTurns_1 : decode cX3_loudBehindTurns 1 = .ok (.getfield 12, 3) := by decide +kernel
theorem dX3_loudBehindTurns_4 : decode cX3_loudBehindTurns 4 = .ok (.aload_n 0, 1) := by decide +kernel
theorem dX3_loudBehindTurns_5 : decode cX3_loudBehindTurns 5 = .ok (.getfield 22, 3) := by decide +kernel
theorem dX3_loudBehindTurns_8 : decode cX3_loudBehindTurns 8 = .ok (.invokevirtual 25, 3) := by decide +kernel
theorem dX3_loudBehindTurns_11 : decode cX3_loudBehindTurns 11 = .ok (.aload_n 0, 1) := by decide +kernel
theorem dX3_loudBehindTurns_12 : decode cX3_loudBehindTurns 12 = .ok (.getfield 12, 3) := by decide +kernel
theorem dX3_loudBehindTurns_15 : decode cX3_loudBehindTurns 15 = .ok (.iload_n 2, 1) := by decide +kernel
theorem dX3_loudBehindTurns_16 : decode cX3_loudBehindTurns 16 = .ok (.invokevirtual 114, 3) := by decide +kernel
theorem dX3_loudBehindTurns_19 : decode cX3_loudBehindTurns 19 = .ok (.iload_n 3, 1) := by decide +kernel
theorem dX3_loudBehindTurns_20 : decode cX3_loudBehindTurns 20 = .ok (.ifCond .eq 18, 3) := by decide +kernel
theorem dX3_loudBehindTurns_23 : decode cX3_loudBehindTurns 23 = .ok (.aload_n 0, 1) := by decide +kernel
theorem dX3_loudBehindTurns_24 : decode cX3_loudBehindTurns 24 = .ok (.getfield 12, 3) := by decide +kernel
theorem dX3_loudBehindTurns_27 : decode cX3_loudBehindTurns 27 = .ok (.aload_n 0, 1) := by decide +kernel
theorem dX3_loudBehindTurns_28 : decode cX3_loudBehindTurns 28 = .ok (.getfield 12, 3) := by decide +kernel
theorem dX3_loudBehindTurns_31 : decode cX3_loudBehindTurns 31 = .ok (.invokevirtual 117, 3) := by decide +kernel
theorem dX3_loudBehindTurns_34 : decode cX3_loudBehindTurns 34 = .ok (.iconst 0, 1) := by decide +kernel
theorem dX3_loudBehindTurns_35 : decode cX3_loudBehindTurns 35 = .ok (.invokevirtual 71, 3) := by decide +kernel
theorem dX3_loudBehindTurns_38 : decode cX3_loudBehindTurns 38 = .ok (.aload_n 0, 1) := by decide +kernel
theorem dX3_loudBehindTurns_39 : decode cX3_loudBehindTurns 39 = .ok (.getfield 12, 3) := by decide +kernel
theorem dX3_loudBehindTurns_42 : decode cX3_loudBehindTurns 42 = .ok (.iload_n 1, 1) := by decide +kernel
theorem dX3_loudBehindTurns_43 : decode cX3_loudBehindTurns 43 = .ok (.invokevirtual 29, 3) := by decide +kernel
theorem dX3_loudBehindTurns_46 : decode cX3_loudBehindTurns 46 = .ok (.aload_n 0, 1) := by decide +kernel
theorem dX3_loudBehindTurns_47 : decode cX3_loudBehindTurns 47 = .ok (.getfield 12, 3) := by decide +kernel
theorem dX3_loudBehindTurns_50 : decode cX3_loudBehindTurns 50 = .ok (.invokevirtual 47, 3) := by decide +kernel
theorem dX3_loudBehindTurns_53 : decode cX3_loudBehindTurns 53 = .ok (.ireturn, 1) := by decide +kernel
theorem dX3_whatFits_0 : decode cX3_whatFits 0 = .ok (.iload_n 2, 1) := by decide +kernel
theorem dX3_whatFits_1 : decode cX3_whatFits 1 = .ok (.tableswitch 59 0 2 #[27, 38, 49], 27) := by decide +kernel
theorem dX3_whatFits_28 : decode cX3_whatFits 28 = .ok (.aload_n 0, 1) := by decide +kernel
theorem dX3_whatFits_29 : decode cX3_whatFits 29 = .ok (.iload_n 1, 1) := by decide +kernel
theorem dX3_whatFits_30 : decode cX3_whatFits 30 = .ok (.aload_n 3, 1) := by decide +kernel
theorem dX3_whatFits_31 : decode cX3_whatFits 31 = .ok (.iload 4, 2) := by decide +kernel
theorem dX3_whatFits_33 : decode cX3_whatFits 33 = .ok (.iload 5, 2) := by decide +kernel
theorem dX3_whatFits_35 : decode cX3_whatFits 35 = .ok (.invokevirtual 120, 3) := by decide +kernel
theorem dX3_whatFits_38 : decode cX3_whatFits 38 = .ok (.ireturn, 1) := by decide +kernel
theorem dX3_whatFits_39 : decode cX3_whatFits 39 = .ok (.aload_n 0, 1) := by decide +kernel
theorem dX3_whatFits_40 : decode cX3_whatFits 40 = .ok (.iload_n 1, 1) := by decide +kernel
theorem dX3_whatFits_41 : decode cX3_whatFits 41 = .ok (.aload_n 3, 1) := by decide +kernel
theorem dX3_whatFits_42 : decode cX3_whatFits 42 = .ok (.iload 4, 2) := by decide +kernel
theorem dX3_whatFits_44 : decode cX3_whatFits 44 = .ok (.iload 5, 2) := by decide +kernel
theorem dX3_whatFits_46 : decode cX3_whatFits 46 = .ok (.invokevirtual 124, 3) := by decide +kernel
theorem dX3_whatFits_49 : decode cX3_whatFits 49 = .ok (.ireturn, 1) := by decide +kernel
theorem dX3_whatFits_50 : decode cX3_whatFits 50 = .ok (.aload_n 0, 1) := by decide +kernel
theorem dX3_whatFits_51 : decode cX3_whatFits 51 = .ok (.aload_n 3, 1) := by decide +kernel
theorem dX3_whatFits_52 : decode cX3_whatFits 52 = .ok (.iload 4, 2) := by decide +kernel
theorem dX3_whatFits_54 : decode cX3_whatFits 54 = .ok (.iload 5, 2) := by decide +kernel
theorem dX3_whatFits_56 : decode cX3_whatFits 56 = .ok (.invokevirtual 127, 3) := by decide +kernel
theorem dX3_whatFits_59 : decode cX3_whatFits 59 = .ok (.ireturn, 1) := by decide +kernel
theorem dX3_whatFits_60 : decode cX3_whatFits 60 = .ok (.aload_n 0, 1) := by decide +kernel
theorem dX3_whatFits_61 : decode cX3_whatFits 61 = .ok (.iload_n 2, 1) := by decide +kernel
theorem dX3_whatFits_62 : decode cX3_whatFits 62 = .ok (.aload_n 3, 1) := by decide +kernel
theorem dX3_whatFits_63 : decode cX3_whatFits 63 = .ok (.iload 4, 2) := by decide +kernel
theorem dX3_whatFits_65 : decode cX3_whatFits 65 = .ok (.iload 5, 2) := by decide +kernel
theorem dX3_whatFits_67 : decode cX3_whatFits 67 = .ok (.invokevirtual 131, 3) := by decide +kernel
theorem dX3_whatFits_70 : decode cX3_whatFits 70 = .ok (.ireturn, 1) := by decide +kernel
theorem dX3_kindsThatFit_0 : decode cX3_kindsThatFit 0 = .ok (.iconst 0, 1) := by decide +kernel
theorem dX3_kindsThatFit_1 : decode cX3_kindsThatFit 1 = .ok (.istore 5, 2) := by decide +kernel
theorem dX3_kindsThatFit_3 : decode cX3_kindsThatFit 3 = .ok (.iconst 1, 1) := by decide +kernel
theorem dX3_kindsThatFit_4 : decode cX3_kindsThatFit 4 = .ok (.istore 6, 2) := by decide +kernel
theorem dX3_kindsThatFit_6 : decode cX3_kindsThatFit 6 = .ok (.iload 6, 2) := by decide +kernel
theorem dX3_kindsThatFit_8 : decode cX3_kindsThatFit 8 = .ok (.iconst 5, 1) := by decide +kernel
theorem dX3_kindsThatFit_9 : decode cX3_kindsThatFit 9 = .ok (.if_icmp .gt 51, 3) := by decide +kernel
theorem dX3_kindsThatFit_12 : decode cX3_kindsThatFit 12 = .ok (.aload_n 0, 1) := by decide +kernel
theorem dX3_kindsThatFit_13 : decode cX3_kindsThatFit 13 = .ok (.getfield 12, 3) := by decide +kernel
theorem dX3_kindsThatFit_16 : decode cX3_kindsThatFit 16 = .ok (.aload_n 0, 1) := by decide +kernel
theorem dX3_kindsThatFit_17 : decode cX3_kindsThatFit 17 = .ok (.getfield 22, 3) := by decide +kernel
theorem dX3_kindsThatFit_20 : decode cX3_kindsThatFit 20 = .ok (.invokevirtual 25, 3) := by decide +kernel
theorem dX3_kindsThatFit_23 : decode cX3_kindsThatFit 23 = .ok (.aload_n 0, 1) := by decide +kernel
theorem dX3_kindsThatFit_24 : decode cX3_kindsThatFit 24 = .ok (.getfield 12, 3) := by decide +kernel
theorem dX3_kindsThatFit_27 : decode cX3_kindsThatFit 27 = .ok (.getfield 134, 3) := by decide +kernel
theorem dX3_kindsThatFit_30 : decode cX3_kindsThatFit 30 = .ok (.iload_n 1, 1) := by decide +kernel
theorem dX3_kindsThatFit_31 : decode cX3_kindsThatFit 31 = .ok (.iload 6, 2) := by decide +kernel
theorem dX3_kindsThatFit_33 : decode cX3_kindsThatFit 33 = .ok (.iastore, 1) := by decide +kernel
theorem dX3_kindsThatFit_34 : decode cX3_kindsThatFit 34 = .ok (.aload_n 0, 1) := by decide +kernel
theorem dX3_kindsThatFit_35 : decode cX3_kindsThatFit 35 = .ok (.aload_n 2, 1) := by decide +kernel
theorem dX3_kindsThatFit_36 : decode cX3_kindsThatFit 36 = .ok (.iload_n 3, 1) := by decide +kernel
theorem dX3_kindsThatFit_37 : decode cX3_kindsThatFit 37 = .ok (.iload 4, 2) := by decide +kernel
theorem dX3_kindsThatFit_39 : decode cX3_kindsThatFit 39 = .ok (.invokevirtual 137, 3) := by decide +kernel
theorem dX3_kindsThatFit_42 : decode cX3_kindsThatFit 42 = .ok (.ifCond .eq 12, 3) := by decide +kernel
theorem dX3_kindsThatFit_45 : decode cX3_kindsThatFit 45 = .ok (.iload 5, 2) := by decide +kernel
theorem dX3_kindsThatFit_47 : decode cX3_kindsThatFit 47 = .ok (.iconst 1, 1) := by decide +kernel
theorem dX3_kindsThatFit_48 : decode cX3_kindsThatFit 48 = .ok (.iload 6, 2) := by decide +kernel
theorem dX3_kindsThatFit_50 : decode cX3_kindsThatFit 50 = .ok (.ishl, 1) := by decide +kernel
theorem dX3_kindsThatFit_51 : decode cX3_kindsThatFit 51 = .ok (.ior, 1) := by decide +kernel
theorem dX3_kindsThatFit_52 : decode cX3_kindsThatFit 52 = .ok (.istore 5, 2) := by decide +kernel
theorem dX3_kindsThatFit_54 : decode cX3_kindsThatFit 54 = .ok (.iinc 6 1, 3) := by decide +kernel
theorem dX3_kindsThatFit_57 : decode cX3_kindsThatFit 57 = .ok (.goto (-51), 3) := by decide +kernel
theorem dX3_kindsThatFit_60 : decode cX3_kindsThatFit 60 = .ok (.iload 5, 2) := by decide +kernel
theorem dX3_kindsThatFit_62 : decode cX3_kindsThatFit 62 = .ok (.ireturn, 1) := by decide +kernel
theorem dX3_tuningsThatFit_0 : decode cX3_tuningsThatFit 0 = .ok (.iconst 0, 1) := by decide +kernel
theorem dX3_tuningsThatFit_1 : decode cX3_tuningsThatFit 1 = .ok (.istore 5, 2) := by decide +kernel
theorem dX3_tuningsThatFit_3 : decode cX3_tuningsThatFit 3 = .ok (.iconst 1, 1) := by decide +kernel
theorem dX3_tuningsThatFit_4 : decode cX3_tuningsThatFit 4 = .ok (.istore 6, 2) := by decide +kernel
theorem dX3_tuningsThatFit_6 : decode cX3_tuningsThatFit 6 = .ok (.iload 6, 2) := by decide +kernel
theorem dX3_tuningsThatFit_8 : decode cX3_tuningsThatFit 8 = .ok (.bipush 9, 2) := by decide +kernel
theorem dX3_tuningsThatFit_10 : decode cX3_tuningsThatFit 10 = .ok (.if_icmp .gt 51, 3) := by decide +kernel
theorem dX3_tuningsThatFit_13 : decode cX3_tuningsThatFit 13 = .ok (.aload_n 0, 1) := by decide +kernel
theorem dX3_tuningsThatFit_14 : decode cX3_tuningsThatFit 14 = .ok (.getfield 12, 3) := by decide +kernel
theorem dX3_tuningsThatFit_17 : decode cX3_tuningsThatFit 17 = .ok (.aload_n 0, 1) := by decide +kernel
theorem dX3_tuningsThatFit_18 : decode cX3_tuningsThatFit 18 = .ok (.getfield 22, 3) := by decide +kernel
theorem dX3_tuningsThatFit_21 : decode cX3_tuningsThatFit 21 = .ok (.invokevirtual 25, 3) := by decide +kernel
theorem dX3_tuningsThatFit_24 : decode cX3_tuningsThatFit 24 = .ok (.aload_n 0, 1) := by decide +kernel
theorem dX3_tuningsThatFit_25 : decode cX3_tuningsThatFit 25 = .ok (.getfield 12, 3) := by decide +kernel
theorem dX3_tuningsThatFit_28 : decode cX3_tuningsThatFit 28 = .ok (.getfield 141, 3) := by decide +kernel
theorem dX3_tuningsThatFit_31 : decode cX3_tuningsThatFit 31 = .ok (.iload_n 1, 1) := by decide +kernel
theorem dX3_tuningsThatFit_32 : decode cX3_tuningsThatFit 32 = .ok (.iload 6, 2) := by decide +kernel
theorem dX3_tuningsThatFit_34 : decode cX3_tuningsThatFit 34 = .ok (.iastore, 1) := by decide +kernel
theorem dX3_tuningsThatFit_35 : decode cX3_tuningsThatFit 35 = .ok (.aload_n 0, 1) := by decide +kernel
theorem dX3_tuningsThatFit_36 : decode cX3_tuningsThatFit 36 = .ok (.aload_n 2, 1) := by decide +kernel
theorem dX3_tuningsThatFit_37 : decode cX3_tuningsThatFit 37 = .ok (.iload_n 3, 1) := by decide +kernel
theorem dX3_tuningsThatFit_38 : decode cX3_tuningsThatFit 38 = .ok (.iload 4, 2) := by decide +kernel
theorem dX3_tuningsThatFit_40 : decode cX3_tuningsThatFit 40 = .ok (.invokevirtual 137, 3) := by decide +kernel
theorem dX3_tuningsThatFit_43 : decode cX3_tuningsThatFit 43 = .ok (.ifCond .eq 12, 3) := by decide +kernel
theorem dX3_tuningsThatFit_46 : decode cX3_tuningsThatFit 46 = .ok (.iload 5, 2) := by decide +kernel
theorem dX3_tuningsThatFit_48 : decode cX3_tuningsThatFit 48 = .ok (.iconst 1, 1) := by decide +kernel
theorem dX3_tuningsThatFit_49 : decode cX3_tuningsThatFit 49 = .ok (.iload 6, 2) := by decide +kernel
theorem dX3_tuningsThatFit_51 : decode cX3_tuningsThatFit 51 = .ok (.ishl, 1) := by decide +kernel
theorem dX3_tuningsThatFit_52 : decode cX3_tuningsThatFit 52 = .ok (.ior, 1) := by decide +kernel
theorem dX3_tuningsThatFit_53 : decode cX3_tuningsThatFit 53 = .ok (.istore 5, 2) := by decide +kernel
theorem dX3_tuningsThatFit_55 : decode cX3_tuningsThatFit 55 = .ok (.iinc 6 1, 3) := by decide +kernel
theorem dX3_tuningsThatFit_58 : decode cX3_tuningsThatFit 58 = .ok (.goto (-52), 3) := by decide +kernel
theorem dX3_tuningsThatFit_61 : decode cX3_tuningsThatFit 61 = .ok (.iload 5, 2) := by decide +kernel
theorem dX3_tuningsThatFit_63 : decode cX3_tuningsThatFit 63 = .ok (.ireturn, 1) := by decide +kernel
theorem dX3_columnsThatFit_0 : decode cX3_columnsThatFit 0 = .ok (.iconst 0, 1) := by decide +kernel
theorem dX3_columnsThatFit_1 : decode cX3_columnsThatFit 1 = .ok (.istore 4, 2) := by decide +kernel
theorem dX3_columnsThatFit_3 : decode cX3_columnsThatFit 3 = .ok (.iconst 0, 1) := by decide +kernel
theorem dX3_columnsThatFit_4 : decode cX3_columnsThatFit 4 = .ok (.istore 5, 2) := by decide +kernel
theorem dX3_columnsThatFit_6 : decode cX3_columnsThatFit 6 = .ok (.iload 5, 2) := by decide +kernel
theorem dX3_columnsThatFit_8 : decode cX3_columnsThatFit 8 = .ok (.aload_n 0, 1) := by decide +kernel
theorem dX3_columnsThatFit_9 : decode cX3_columnsThatFit 9 = .ok (.getfield 22, 3) := by decide +kernel
theorem dX3_columnsThatFit_12 : decode cX3_columnsThatFit 12 = .ok (.getfield 65, 3) := by decide +kernel
theorem dX3_columnsThatFit_15 : decode cX3_columnsThatFit 15 = .ok (.if_icmp .ge 48, 3) := by decide +kernel
theorem dX3_columnsThatFit_18 : decode cX3_columnsThatFit 18 = .ok (.aload_n 0, 1) := by decide +kernel
theorem dX3_columnsThatFit_19 : decode cX3_columnsThatFit 19 = .ok (.getfield 12, 3) := by decide +kernel
theorem dX3_columnsThatFit_22 : decode cX3_columnsThatFit 22 = .ok (.aload_n 0, 1) := by decide +kernel
theorem dX3_columnsThatFit_23 : decode cX3_columnsThatFit 23 = .ok (.getfield 22, 3) := by decide +kernel
theorem dX3_columnsThatFit_26 : decode cX3_columnsThatFit 26 = .ok (.invokevirtual 25, 3) := by decide +kernel
theorem dX3_columnsThatFit_29 : decode cX3_columnsThatFit 29 = .ok (.aload_n 0, 1) := by decide +kernel
theorem dX3_columnsThatFit_30 : decode cX3_columnsThatFit 30 = .ok (.getfield 12, 3) := by decide +kernel
theorem dX3_columnsThatFit_33 : decode cX3_columnsThatFit 33 = .ok (.iload 5, 2) := by decide +kernel
theorem dX3_columnsThatFit_35 : decode cX3_columnsThatFit 35 = .ok (.putfield 54, 3) := by decide +kernel
theorem dX3_columnsThatFit_38 : decode cX3_columnsThatFit 38 = .ok (.aload_n 0, 1) := by decide +kernel
theorem dX3_columnsThatFit_39 : decode cX3_columnsThatFit 39 = .ok (.aload_n 1, 1) := by decide +kernel
theorem dX3_columnsThatFit_40 : decode cX3_columnsThatFit 40 = .ok (.iload_n 2, 1) := by decide +kernel
theorem dX3_columnsThatFit_41 : decode cX3_columnsThatFit 41 = .ok (.iload_n 3, 1) := by decide +kernel
theorem dX3_columnsThatFit_42 : decode cX3_columnsThatFit 42 = .ok (.invokevirtual 137, 3) := by decide +kernel
theorem dX3_columnsThatFit_45 : decode cX3_columnsThatFit 45 = .ok (.ifCond .eq 12, 3) := by decide +kernel
theorem dX3_columnsThatFit_48 : decode cX3_columnsThatFit 48 = .ok (.iload 4, 2) := by decide +kernel
theorem dX3_columnsThatFit_50 : decode cX3_columnsThatFit 50 = .ok (.iconst 1, 1) := by decide +kernel
theorem dX3_columnsThatFit_51 : decode cX3_columnsThatFit 51 = .ok (.iload 5, 2) := by decide +kernel
theorem dX3_columnsThatFit_53 : decode cX3_columnsThatFit 53 = .ok (.ishl, 1) := by decide +kernel
theorem dX3_columnsThatFit_54 : decode cX3_columnsThatFit 54 = .ok (.ior, 1) := by decide +kernel
theorem dX3_columnsThatFit_55 : decode cX3_columnsThatFit 55 = .ok (.istore 4, 2) := by decide +kernel
theorem dX3_columnsThatFit_57 : decode cX3_columnsThatFit 57 = .ok (.iinc 5 1, 3) := by decide +kernel
theorem dX3_columnsThatFit_60 : decode cX3_columnsThatFit 60 = .ok (.goto (-54), 3) := by decide +kernel
theorem dX3_columnsThatFit_63 : decode cX3_columnsThatFit 63 = .ok (.iload 4, 2) := by decide +kernel
theorem dX3_columnsThatFit_65 : decode cX3_columnsThatFit 65 = .ok (.ireturn, 1) := by decide +kernel
theorem dX3_springsThatFit_0 : decode cX3_springsThatFit 0 = .ok (.iconst 0, 1) := by decide +kernel
theorem dX3_springsThatFit_1 : decode cX3_springsThatFit 1 = .ok (.istore 5, 2) := by decide +kernel
theorem dX3_springsThatFit_3 : decode cX3_springsThatFit 3 = .ok (.ldc 64, 2) := by decide +kernel
theorem dX3_springsThatFit_5 : decode cX3_springsThatFit 5 = .ok (.istore 6, 2) := by decide +kernel
theorem dX3_springsThatFit_7 : decode cX3_springsThatFit 7 = .ok (.iconst 0, 1) := by decide +kernel
theorem dX3_springsThatFit_8 : decode cX3_springsThatFit 8 = .ok (.istore 7, 2) := by decide +kernel
theorem dX3_springsThatFit_10 : decode cX3_springsThatFit 10 = .ok (.iload 7, 2) := by decide +kernel
theorem dX3_springsThatFit_12 : decode cX3_springsThatFit 12 = .ok (.bipush 99, 2) := by decide +kernel
theorem dX3_springsThatFit_14 : decode cX3_springsThatFit 14 = .ok (.if_icmp .gt 57, 3) := by decide +kernel
theorem dX3_springsThatFit_17 : decode cX3_springsThatFit 17 = .ok (.aload_n 0, 1) := by decide +kernel
theorem dX3_springsThatFit_18 : decode cX3_springsThatFit 18 = .ok (.getfield 12, 3) := by decide +kernel
theorem dX3_springsThatFit_21 : decode cX3_springsThatFit 21 = .ok (.aload_n 0, 1) := by decide +kernel
theorem dX3_springsThatFit_22 : decode cX3_springsThatFit 22 = .ok (.getfield 22, 3) := by decide +kernel
theorem dX3_springsThatFit_25 : decode cX3_springsThatFit 25 = .ok (.invokevirtual 25, 3) := by decide +kernel
theorem dX3_springsThatFit_28 : decode cX3_springsThatFit 28 = .ok (.aload_n 0, 1) := by decide +kernel
theorem dX3_springsThatFit_29 : decode cX3_springsThatFit 29 = .ok (.getfield 12, 3) := by decide +kernel
theorem dX3_springsThatFit_32 : decode cX3_springsThatFit 32 = .ok (.iload 7, 2) := by decide +kernel
theorem dX3_springsThatFit_34 : decode cX3_springsThatFit 34 = .ok (.putfield 58, 3) := by decide +kernel
theorem dX3_springsThatFit_37 : decode cX3_springsThatFit 37 = .ok (.aload_n 0, 1) := by decide +kernel
theorem dX3_springsThatFit_38 : decode cX3_springsThatFit 38 = .ok (.aload_n 2, 1) := by decide +kernel
theorem dX3_springsThatFit_39 : decode cX3_springsThatFit 39 = .ok (.iload_n 3, 1) := by decide +kernel
theorem dX3_springsThatFit_40 : decode cX3_springsThatFit 40 = .ok (.iload 4, 2) := by decide +kernel
theorem dX3_springsThatFit_42 : decode cX3_springsThatFit 42 = .ok (.invokevirtual 137, 3) := by decide +kernel
theorem dX3_springsThatFit_45 : decode cX3_springsThatFit 45 = .ok (.ifCond .eq 20, 3) := by decide +kernel
theorem dX3_springsThatFit_48 : decode cX3_springsThatFit 48 = .ok (.iload 5, 2) := by decide +kernel
theorem dX3_springsThatFit_50 : decode cX3_springsThatFit 50 = .ok (.ifCond .ne 8, 3) := by decide +kernel
theorem dX3_springsThatFit_53 : decode cX3_springsThatFit 53 = .ok (.iload 7, 2) := by decide +kernel
theorem dX3_springsThatFit_55 : decode cX3_springsThatFit 55 = .ok (.goto 5, 3) := by decide +kernel
theorem dX3_springsThatFit_58 : decode cX3_springsThatFit 58 = .ok (.iload 6, 2) := by decide +kernel
theorem dX3_springsThatFit_60 : decode cX3_springsThatFit 60 = .ok (.istore 6, 2) := by decide +kernel
theorem dX3_springsThatFit_62 : decode cX3_springsThatFit 62 = .ok (.iinc 5 1, 3) := by decide +kernel
theorem dX3_springsThatFit_65 : decode cX3_springsThatFit 65 = .ok (.iinc 7 1, 3) := by decide +kernel
theorem dX3_springsThatFit_68 : decode cX3_springsThatFit 68 = .ok (.goto (-58), 3) := by decide +kernel
theorem dX3_springsThatFit_71 : decode cX3_springsThatFit 71 = .ok (.iload_n 1, 1) := by decide +kernel
theorem dX3_springsThatFit_72 : decode cX3_springsThatFit 72 = .ok (.iconst 3, 1) := by decide +kernel
theorem dX3_springsThatFit_73 : decode cX3_springsThatFit 73 = .ok (.if_icmp .ne 8, 3) := by decide +kernel
theorem dX3_springsThatFit_76 : decode cX3_springsThatFit 76 = .ok (.iload 5, 2) := by decide +kernel
theorem dX3_springsThatFit_78 : decode cX3_springsThatFit 78 = .ok (.goto 5, 3) := by decide +kernel
theorem dX3_springsThatFit_81 : decode cX3_springsThatFit 81 = .ok (.iload 6, 2) := by decide +kernel
theorem dX3_springsThatFit_83 : decode cX3_springsThatFit 83 = .ok (.ireturn, 1) := by decide +kernel
theorem dX3_trialIsHeardAs_0 : decode cX3_trialIsHeardAs 0 = .ok (.iload_n 2, 1) := by decide +kernel
theorem dX3_trialIsHeardAs_1 : decode cX3_trialIsHeardAs 1 = .ok (.istore 4, 2) := by decide +kernel
theorem dX3_trialIsHeardAs_3 : decode cX3_trialIsHeardAs 3 = .ok (.iload 4, 2) := by decide +kernel
theorem dX3_trialIsHeardAs_5 : decode cX3_trialIsHeardAs 5 = .ok (.iload_n 2, 1) := by decide +kernel
theorem dX3_trialIsHeardAs_6 : decode cX3_trialIsHeardAs 6 = .ok (.iload_n 3, 1) := by decide +kernel
theorem dX3_trialIsHeardAs_7 : decode cX3_trialIsHeardAs 7 = .ok (.iadd, 1) := by decide +kernel
theorem dX3_trialIsHeardAs_8 : decode cX3_trialIsHeardAs 8 = .ok (.if_icmp .ge 36, 3) := by decide +kernel
theorem dX3_trialIsHeardAs_11 : decode cX3_trialIsHeardAs 11 = .ok (.aload_n 0, 1) := by decide +kernel
theorem dX3_trialIsHeardAs_12 : decode cX3_trialIsHeardAs 12 = .ok (.getfield 12, 3) := by decide +kernel
theorem dX3_trialIsHeardAs_15 : decode cX3_trialIsHeardAs 15 = .ok (.invokevirtual 61, 3) := by decide +kernel
theorem dX3_trialIsHeardAs_18 : decode cX3_trialIsHeardAs 18 = .ok (.pop, 1) := by decide +kernel
theorem dX3_trialIsHeardAs_19 : decode cX3_trialIsHeardAs 19 = .ok (.aload_n 0, 1) := by decide +kernel
theorem dX3_trialIsHeardAs_20 : decode cX3_trialIsHeardAs 20 = .ok (.getfield 12, 3) := by decide +kernel
theorem dX3_trialIsHeardAs_23 : decode cX3_trialIsHeardAs 23 = .ok (.invokevirtual 47, 3) := by decide +kernel
theorem dX3_trialIsHeardAs_26 : decode cX3_trialIsHeardAs 26 = .ok (.aload_n 1, 1) := by decide +kernel
theorem dX3_trialIsHeardAs_27 : decode cX3_trialIsHeardAs 27 = .ok (.getfield 86, 3) := by decide +kernel
theorem dX3_trialIsHeardAs_30 : decode cX3_trialIsHeardAs 30 = .ok (.iload 4, 2) := by decide +kernel
theorem dX3_trialIsHeardAs_32 : decode cX3_trialIsHeardAs 32 = .ok (.iaload, 1) := by decide +kernel
theorem dX3_trialIsHeardAs_33 : decode cX3_trialIsHeardAs 33 = .ok (.if_icmp .eq 5, 3) := by decide +kernel
theorem dX3_trialIsHeardAs_36 : decode cX3_trialIsHeardAs 36 = .ok (.iconst 0, 1) := by decide +kernel
theorem dX3_trialIsHeardAs_37 : decode cX3_trialIsHeardAs 37 = .ok (.ireturn, 1) := by decide +kernel
theorem dX3_trialIsHeardAs_38 : decode cX3_trialIsHeardAs 38 = .ok (.iinc 4 1, 3) := by decide +kernel
theorem dX3_trialIsHeardAs_41 : decode cX3_trialIsHeardAs 41 = .ok (.goto (-38), 3) := by decide +kernel
theorem dX3_trialIsHeardAs_44 : decode cX3_trialIsHeardAs 44 = .ok (.iconst 1, 1) := by decide +kernel
theorem dX3_trialIsHeardAs_45 : decode cX3_trialIsHeardAs 45 = .ok (.ireturn, 1) := by decide +kernel
theorem dX3_chanceOfRinging_0 : decode cX3_chanceOfRinging 0 = .ok (.aload_n 0, 1) := by decide +kernel
theorem dX3_chanceOfRinging_1 : decode cX3_chanceOfRinging 1 = .ok (.getfield 22, 3) := by decide +kernel
theorem dX3_chanceOfRinging_4 : decode cX3_chanceOfRinging 4 = .ok (.iload_n 1, 1) := by decide +kernel
theorem dX3_chanceOfRinging_5 : decode cX3_chanceOfRinging 5 = .ok (.invokevirtual 144, 3) := by decide +kernel
theorem dX3_chanceOfRinging_8 : decode cX3_chanceOfRinging 8 = .ok (.istore 5, 2) := by decide +kernel
theorem dX3_chanceOfRinging_10 : decode cX3_chanceOfRinging 10 = .ok (.aload_n 0, 1) := by decide +kernel
theorem dX3_chanceOfRinging_11 : decode cX3_chanceOfRinging 11 = .ok (.getfield 18, 3) := by decide +kernel
theorem dX3_chanceOfRinging_14 : decode cX3_chanceOfRinging 14 = .ok (.iconst 0, 1) := by decide +kernel
theorem dX3_chanceOfRinging_15 : decode cX3_chanceOfRinging 15 = .ok (.aaload, 1) := by decide +kernel
theorem dX3_chanceOfRinging_16 : decode cX3_chanceOfRinging 16 = .ok (.aload_n 0, 1) := by decide +kernel
theorem dX3_chanceOfRinging_17 : decode cX3_chanceOfRinging 17 = .ok (.getfield 22, 3) := by decide +kernel
theorem dX3_chanceOfRinging_20 : decode cX3_chanceOfRinging 20 = .ok (.invokevirtual 25, 3) := by decide +kernel
theorem dX3_chanceOfRinging_23 : decode cX3_chanceOfRinging 23 = .ok (.aload_n 0, 1) := by decide +kernel
theorem dX3_chanceOfRinging_24 : decode cX3_chanceOfRinging 24 = .ok (.iconst 0, 1) := by decide +kernel
theorem dX3_chanceOfRinging_25 : decode cX3_chanceOfRinging 25 = .ok (.iload_n 2, 1) := by decide +kernel
theorem dX3_chanceOfRinging_26 : decode cX3_chanceOfRinging 26 = .ok (.iload 5, 2) := by decide +kernel
theorem dX3_chanceOfRinging_28 : decode cX3_chanceOfRinging 28 = .ok (.iload_n 1, 1) := by decide +kernel
theorem dX3_chanceOfRinging_29 : decode cX3_chanceOfRinging 29 = .ok (.iload_n 3, 1) := by decide +kernel
theorem dX3_chanceOfRinging_30 : decode cX3_chanceOfRinging 30 = .ok (.invokevirtual 147, 3) := by decide +kernel
theorem dX3_chanceOfRinging_33 : decode cX3_chanceOfRinging 33 = .ok (.lstore 6, 2) := by decide +kernel
theorem dX3_chanceOfRinging_35 : decode cX3_chanceOfRinging 35 = .ok (.iload 5, 2) := by decide +kernel
theorem dX3_chanceOfRinging_37 : decode cX3_chanceOfRinging 37 = .ok (.invokestatic 151, 3) := by decide +kernel
theorem dX3_chanceOfRinging_40 : decode cX3_chanceOfRinging 40 = .ok (.invokestatic 156, 3) := by decide +kernel
theorem dX3_chanceOfRinging_43 : decode cX3_chanceOfRinging 43 = .ok (.lstore 8, 2) := by decide +kernel
theorem dX3_chanceOfRinging_45 : decode cX3_chanceOfRinging 45 = .ok (.lload 6, 2) := by decide +kernel
theorem dX3_chanceOfRinging_47 : decode cX3_chanceOfRinging 47 = .ok (.lload 8, 2) := by decide +kernel
theorem dX3_chanceOfRinging_49 : decode cX3_chanceOfRinging 49 = .ok (.invokestatic 160, 3) := by decide +kernel
theorem dX3_chanceOfRinging_52 : decode cX3_chanceOfRinging 52 = .ok (.lstore 10, 2) := by decide +kernel
theorem dX3_chanceOfRinging_54 : decode cX3_chanceOfRinging 54 = .ok (.lload 10, 2) := by decide +kernel
theorem dX3_chanceOfRinging_56 : decode cX3_chanceOfRinging 56 = .ok (.lconst 0, 1) := by decide +kernel
theorem dX3_chanceOfRinging_57 : decode cX3_chanceOfRinging 57 = .ok (.lcmp, 1) := by decide +kernel
theorem dX3_chanceOfRinging_58 : decode cX3_chanceOfRinging 58 = .ok (.ifCond .ne 5, 3) := by decide +kernel
theorem dX3_chanceOfRinging_61 : decode cX3_chanceOfRinging 61 = .ok (.lconst 0, 1) := by decide +kernel
theorem dX3_chanceOfRinging_62 : decode cX3_chanceOfRinging 62 = .ok (.lreturn, 1) := by decide +kernel
theorem dX3_chanceOfRinging_63 : decode cX3_chanceOfRinging 63 = .ok (.iload 4, 2) := by decide +kernel
theorem dX3_chanceOfRinging_65 : decode cX3_chanceOfRinging 65 = .ok (.ifCond .ne 11, 3) := by decide +kernel
theorem dX3_chanceOfRinging_68 : decode cX3_chanceOfRinging 68 = .ok (.lload 6, 2) := by decide +kernel
theorem dX3_chanceOfRinging_70 : decode cX3_chanceOfRinging 70 = .ok (.lload 10, 2) := by decide +kernel
theorem dX3_chanceOfRinging_72 : decode cX3_chanceOfRinging 72 = .ok (.ldiv, 1) := by decide +kernel
theorem dX3_chanceOfRinging_73 : decode cX3_chanceOfRinging 73 = .ok (.goto 8, 3) := by decide +kernel
theorem dX3_chanceOfRinging_76 : decode cX3_chanceOfRinging 76 = .ok (.lload 8, 2) := by decide +kernel
theorem dX3_chanceOfRinging_78 : decode cX3_chanceOfRinging 78 = .ok (.lload 10, 2) := by decide +kernel
theorem dX3_chanceOfRinging_80 : decode cX3_chanceOfRinging 80 = .ok (.ldiv, 1) := by decide +kernel
theorem dX3_chanceOfRinging_81 : decode cX3_chanceOfRinging 81 = .ok (.lreturn, 1) := by decide +kernel
theorem dX3_weightOfRinging_0 : decode cX3_weightOfRinging 0 = .ok (.aload_n 0, 1) := by decide +kernel
theorem dX3_weightOfRinging_1 : decode cX3_weightOfRinging 1 = .ok (.getfield 18, 3) := by decide +kernel
theorem dX3_weightOfRinging_4 : decode cX3_weightOfRinging 4 = .ok (.iload_n 1, 1) := by decide +kernel
theorem dX3_weightOfRinging_5 : decode cX3_weightOfRinging 5 = .ok (.aaload, 1) := by decide +kernel
theorem dX3_weightOfRinging_6 : decode cX3_weightOfRinging 6 = .ok (.astore 6, 2) := by decide +kernel
theorem dX3_weightOfRinging_8 : decode cX3_weightOfRinging 8 = .ok (.iload_n 2, 1) := by decide +kernel
theorem dX3_weightOfRinging_9 : decode cX3_weightOfRinging 9 = .ok (.istore 7, 2) := by decide +kernel
theorem dX3_weightOfRinging_11 : decode cX3_weightOfRinging 11 = .ok (.iload 7, 2) := by decide +kernel
theorem dX3_weightOfRinging_13 : decode cX3_weightOfRinging 13 = .ok (.ifCond .le 24, 3) := by decide +kernel
theorem dX3_weightOfRinging_16 : decode cX3_weightOfRinging 16 = .ok (.aload 6, 2) := by decide +kernel
theorem dX3_weightOfRinging_18 : decode cX3_weightOfRinging 18 = .ok (.iload_n 3, 1) := by decide +kernel
theorem dX3_weightOfRinging_19 : decode cX3_weightOfRinging 19 = .ok (.invokevirtual 164, 3) := by decide +kernel
theorem dX3_weightOfRinging_22 : decode cX3_weightOfRinging 22 = .ok (.ifCond .ne 15, 3) := by decide +kernel
theorem dX3_weightOfRinging_25 : decode cX3_weightOfRinging 25 = .ok (.aload 6, 2) := by decide +kernel
theorem dX3_weightOfRinging_27 : decode cX3_weightOfRinging 27 = .ok (.invokevirtual 61, 3) := by decide +kernel
theorem dX3_weightOfRinging_30 : decode cX3_weightOfRinging 30 = .ok (.pop, 1) := by decide +kernel
theorem dX3_weightOfRinging_31 : decode cX3_weightOfRinging 31 = .ok (.iinc 7 (-1), 3) := by decide +kernel
theorem dX3_weightOfRinging_34 : decode cX3_weightOfRinging 34 = .ok (.goto (-23), 3) := by decide +kernel
theorem dX3_weightOfRinging_37 : decode cX3_weightOfRinging 37 = .ok (.iload 7, 2) := by decide +kernel
theorem dX3_weightOfRinging_39 : decode cX3_weightOfRinging 39 = .ok (.ifCond .eq 9, 3) := by decide +kernel
theorem dX3_weightOfRinging_42 : decode cX3_weightOfRinging 42 = .ok (.iload_n 1, 1) := by decide +kernel
theorem dX3_weightOfRinging_43 : decode cX3_weightOfRinging 43 = .ok (.bipush 12, 2) := by decide +kernel
theorem dX3_weightOfRinging_45 : decode cX3_weightOfRinging 45 = .ok (.if_icmp .lt 26, 3) := by decide +kernel
theorem dX3_weightOfRinging_48 : decode cX3_weightOfRinging 48 = .ok (.aload 6, 2) := by decide +kernel
theorem dX3_weightOfRinging_50 : decode cX3_weightOfRinging 50 = .ok (.getfield 36, 3) := by decide +kernel
theorem dX3_weightOfRinging_53 : decode cX3_weightOfRinging 53 = .ok (.iload 4, 2) := by decide +kernel
theorem dX3_weightOfRinging_55 : decode cX3_weightOfRinging 55 = .ok (.iaload, 1) := by decide +kernel
theorem dX3_weightOfRinging_56 : decode cX3_weightOfRinging 56 = .ok (.ifCond .le 13, 3) := by decide +kernel
theorem dX3_weightOfRinging_59 : decode cX3_weightOfRinging 59 = .ok (.iload_n 3, 1) := by decide +kernel
theorem dX3_weightOfRinging_60 : decode cX3_weightOfRinging 60 = .ok (.invokestatic 151, 3) := by decide +kernel
theorem dX3_weightOfRinging_63 : decode cX3_weightOfRinging 63 = .ok (.invokestatic 156, 3) := by decide +kernel
theorem dX3_weightOfRinging_66 : decode cX3_weightOfRinging 66 = .ok (.goto 4, 3) := by decide +kernel
theorem dX3_weightOfRinging_69 : decode cX3_weightOfRinging 69 = .ok (.lconst 0, 1) := by decide +kernel
theorem dX3_weightOfRinging_70 : decode cX3_weightOfRinging 70 = .ok (.lreturn, 1) := by decide +kernel
theorem dX3_weightOfRinging_71 : decode cX3_weightOfRinging 71 = .ok (.aload 6, 2) := by decide +kernel
theorem dX3_weightOfRinging_73 : decode cX3_weightOfRinging 73 = .ok (.invokevirtual 117, 3) := by decide +kernel
theorem dX3_weightOfRinging_76 : decode cX3_weightOfRinging 76 = .ok (.istore 8, 2) := by decide +kernel
theorem dX3_weightOfRinging_78 : decode cX3_weightOfRinging 78 = .ok (.iload_n 3, 1) := by decide +kernel
theorem dX3_weightOfRinging_79 : decode cX3_weightOfRinging 79 = .ok (.iconst 1, 1) := by decide +kernel
theorem dX3_weightOfRinging_80 : decode cX3_weightOfRinging 80 = .ok (.iload 8, 2) := by decide +kernel
theorem dX3_weightOfRinging_82 : decode cX3_weightOfRinging 82 = .ok (.ishl, 1) := by decide +kernel
theorem dX3_weightOfRinging_83 : decode cX3_weightOfRinging 83 = .ok (.iconst (-1), 1) := by decide +kernel
theorem dX3_weightOfRinging_84 : decode cX3_weightOfRinging 84 = .ok (.ixor, 1) := by decide +kernel
theorem dX3_weightOfRinging_85 : decode cX3_weightOfRinging 85 = .ok (.iand, 1) := by decide +kernel
theorem dX3_weightOfRinging_86 : decode cX3_weightOfRinging 86 = .ok (.istore 9, 2) := by decide +kernel
theorem dX3_weightOfRinging_88 : decode cX3_weightOfRinging 88 = .ok (.aload_n 0, 1) := by decide +kernel
theorem dX3_weightOfRinging_89 : decode cX3_weightOfRinging 89 = .ok (.getfield 18, 3) := by decide +kernel
theorem dX3_weightOfRinging_92 : decode cX3_weightOfRinging 92 = .ok (.iload_n 1, 1) := by decide +kernel
theorem dX3_weightOfRinging_93 : decode cX3_weightOfRinging 93 = .ok (.iconst 1, 1) := by decide +kernel
theorem dX3_weightOfRinging_94 : decode cX3_weightOfRinging 94 = .ok (.iadd, 1) := by decide +kernel
theorem dX3_weightOfRinging_95 : decode cX3_weightOfRinging 95 = .ok (.aaload, 1) := by decide +kernel
theorem dX3_weightOfRinging_96 : decode cX3_weightOfRinging 96 = .ok (.astore 10, 2) := by decide +kernel
theorem dX3_weightOfRinging_98 : decode cX3_weightOfRinging 98 = .ok (.lconst 0, 1) := by decide +kernel
theorem dX3_weightOfRinging_99 : decode cX3_weightOfRinging 99 = .ok (.lstore 11, 2) := by decide +kernel
theorem dX3_weightOfRinging_101 : decode cX3_weightOfRinging 101 = .ok (.iload 5, 2) := by decide +kernel
theorem dX3_weightOfRinging_103 : decode cX3_weightOfRinging 103 = .ok (.bipush 10, 2) := by decide +kernel
theorem dX3_weightOfRinging_105 : decode cX3_weightOfRinging 105 = .ok (.if_icmp .ge 37, 3) := by decide +kernel
theorem dX3_weightOfRinging_108 : decode cX3_weightOfRinging 108 = .ok (.aload 10, 2) := by decide +kernel
theorem dX3_weightOfRinging_110 : decode cX3_weightOfRinging 110 = .ok (.aload 6, 2) := by decide +kernel
theorem dX3_weightOfRinging_112 : decode cX3_weightOfRinging 112 = .ok (.invokevirtual 25, 3) := by decide +kernel
theorem dX3_weightOfRinging_115 : decode cX3_weightOfRinging 115 = .ok (.lload 11, 2) := by decide +kernel
theorem dX3_weightOfRinging_117 : decode cX3_weightOfRinging 117 = .ok (.bipush 10, 2) := by decide +kernel
theorem dX3_weightOfRinging_119 : decode cX3_weightOfRinging 119 = .ok (.iload 5, 2) := by decide +kernel
theorem dX3_weightOfRinging_121 : decode cX3_weightOfRinging 121 = .ok (.isub, 1) := by decide +kernel
theorem dX3_weightOfRinging_122 : decode cX3_weightOfRinging 122 = .ok (.i2l, 1) := by decide +kernel
theorem dX3_weightOfRinging_123 : decode cX3_weightOfRinging 123 = .ok (.aload_n 0, 1) := by decide +kernel
theorem dX3_weightOfRinging_124 : decode cX3_weightOfRinging 124 = .ok (.iload_n 1, 1) := by decide +kernel
theorem dX3_weightOfRinging_125 : decode cX3_weightOfRinging 125 = .ok (.iconst 1, 1) := by decide +kernel
theorem dX3_weightOfRinging_126 : decode cX3_weightOfRinging 126 = .ok (.iadd, 1) := by decide +kernel
theorem dX3_weightOfRinging_127 : decode cX3_weightOfRinging 127 = .ok (.iload 7, 2) := by decide +kernel
theorem dX3_weightOfRinging_129 : decode cX3_weightOfRinging 129 = .ok (.iload 9, 2) := by decide +kernel
theorem dX3_weightOfRinging_131 : decode cX3_weightOfRinging 131 = .ok (.iload 4, 2) := by decide +kernel
theorem dX3_weightOfRinging_133 : decode cX3_weightOfRinging 133 = .ok (.iload 5, 2) := by decide +kernel
theorem dX3_weightOfRinging_135 : decode cX3_weightOfRinging 135 = .ok (.invokevirtual 147, 3) := by decide +kernel
theorem dX3_weightOfRinging_138 : decode cX3_weightOfRinging 138 = .ok (.lmul, 1) := by decide +kernel
theorem dX3_weightOfRinging_139 : decode cX3_weightOfRinging 139 = .ok (.ladd, 1) := by decide +kernel
theorem dX3_weightOfRinging_140 : decode cX3_weightOfRinging 140 = .ok (.lstore 11, 2) := by decide +kernel
theorem dX3_weightOfRinging_142 : decode cX3_weightOfRinging 142 = .ok (.iload 5, 2) := by decide +kernel
theorem dX3_weightOfRinging_144 : decode cX3_weightOfRinging 144 = .ok (.ifCond .le 43, 3) := by decide +kernel
theorem dX3_weightOfRinging_147 : decode cX3_weightOfRinging 147 = .ok (.aload 10, 2) := by decide +kernel
theorem dX3_weightOfRinging_149 : decode cX3_weightOfRinging 149 = .ok (.aload 6, 2) := by decide +kernel
theorem dX3_weightOfRinging_151 : decode cX3_weightOfRinging 151 = .ok (.invokevirtual 25, 3) := by decide +kernel
theorem dX3_weightOfRinging_154 : decode cX3_weightOfRinging 154 = .ok (.aload 10, 2) := by decide +kernel
theorem dX3_weightOfRinging_156 : decode cX3_weightOfRinging 156 = .ok (.iload 8, 2) := by decide +kernel
theorem dX3_weightOfRinging_158 : decode cX3_weightOfRinging 158 = .ok (.iload 4, 2) := by decide +kernel
theorem dX3_weightOfRinging_160 : decode cX3_weightOfRinging 160 = .ok (.invokevirtual 71, 3) := by decide +kernel
theorem dX3_weightOfRinging_163 : decode cX3_weightOfRinging 163 = .ok (.lload 11, 2) := by decide +kernel
theorem dX3_weightOfRinging_165 : decode cX3_weightOfRinging 165 = .ok (.iload 5, 2) := by decide +kernel
theorem dX3_weightOfRinging_167 : decode cX3_weightOfRinging 167 = .ok (.i2l, 1) := by decide +kernel
theorem dX3_weightOfRinging_168 : decode cX3_weightOfRinging 168 = .ok (.aload_n 0, 1) := by decide +kernel
theorem dX3_weightOfRinging_169 : decode cX3_weightOfRinging 169 = .ok (.iload_n 1, 1) := by decide +kernel
theorem dX3_weightOfRinging_170 : decode cX3_weightOfRinging 170 = .ok (.iconst 1, 1) := by decide +kernel
theorem dX3_weightOfRinging_171 : decode cX3_weightOfRinging 171 = .ok (.iadd, 1) := by decide +kernel
theorem dX3_weightOfRinging_172 : decode cX3_weightOfRinging 172 = .ok (.iload 7, 2) := by decide +kernel
theorem dX3_weightOfRinging_174 : decode cX3_weightOfRinging 174 = .ok (.iload 9, 2) := by decide +kernel
theorem dX3_weightOfRinging_176 : decode cX3_weightOfRinging 176 = .ok (.iload 4, 2) := by decide +kernel
theorem dX3_weightOfRinging_178 : decode cX3_weightOfRinging 178 = .ok (.iload 5, 2) := by decide +kernel
theorem dX3_weightOfRinging_180 : decode cX3_weightOfRinging 180 = .ok (.invokevirtual 147, 3) := by decide +kernel
theorem dX3_weightOfRinging_183 : decode cX3_weightOfRinging 183 = .ok (.lmul, 1) := by decide +kernel
theorem dX3_weightOfRinging_184 : decode cX3_weightOfRinging 184 = .ok (.ladd, 1) := by decide +kernel
theorem dX3_weightOfRinging_185 : decode cX3_weightOfRinging 185 = .ok (.lstore 11, 2) := by decide +kernel
theorem dX3_weightOfRinging_187 : decode cX3_weightOfRinging 187 = .ok (.lload 11, 2) := by decide +kernel
theorem dX3_weightOfRinging_189 : decode cX3_weightOfRinging 189 = .ok (.lreturn, 1) := by decide +kernel
theorem dX3_tenToThe_0 : decode cX3_tenToThe 0 = .ok (.lconst 1, 1) := by decide +kernel
theorem dX3_tenToThe_1 : decode cX3_tenToThe 1 = .ok (.lstore_n 1, 1) := by decide +kernel
theorem dX3_tenToThe_2 : decode cX3_tenToThe 2 = .ok (.iconst 0, 1) := by decide +kernel
theorem dX3_tenToThe_3 : decode cX3_tenToThe 3 = .ok (.istore_n 3, 1) := by decide +kernel
theorem dX3_tenToThe_4 : decode cX3_tenToThe 4 = .ok (.iload_n 3, 1) := by decide +kernel
theorem dX3_tenToThe_5 : decode cX3_tenToThe 5 = .ok (.iload_n 0, 1) := by decide +kernel
theorem dX3_tenToThe_6 : decode cX3_tenToThe 6 = .ok (.if_icmp .ge 15, 3) := by decide +kernel
theorem dX3_tenToThe_9 : decode cX3_tenToThe 9 = .ok (.lload_n 1, 1) := by decide +kernel
theorem dX3_tenToThe_10 : decode cX3_tenToThe 10 = .ok (.ldc2_w 167, 3) := by decide +kernel
theorem dX3_tenToThe_13 : decode cX3_tenToThe 13 = .ok (.lmul, 1) := by decide +kernel
theorem dX3_tenToThe_14 : decode cX3_tenToThe 14 = .ok (.lstore_n 1, 1) := by decide +kernel
theorem dX3_tenToThe_15 : decode cX3_tenToThe 15 = .ok (.iinc 3 1, 3) := by decide +kernel
theorem dX3_tenToThe_18 : decode cX3_tenToThe 18 = .ok (.goto (-14), 3) := by decide +kernel
theorem dX3_tenToThe_21 : decode cX3_tenToThe 21 = .ok (.lload_n 1, 1) := by decide +kernel
theorem dX3_tenToThe_22 : decode cX3_tenToThe 22 = .ok (.lreturn, 1) := by decide +kernel
theorem dX3_commonDivisor_0 : decode cX3_commonDivisor 0 = .ok (.lload_n 0, 1) := by decide +kernel
theorem dX3_commonDivisor_1 : decode cX3_commonDivisor 1 = .ok (.lstore 4, 2) := by decide +kernel
theorem dX3_commonDivisor_3 : decode cX3_commonDivisor 3 = .ok (.lload_n 2, 1) := by decide +kernel
theorem dX3_commonDivisor_4 : decode cX3_commonDivisor 4 = .ok (.lstore 6, 2) := by decide +kernel
theorem dX3_commonDivisor_6 : decode cX3_commonDivisor 6 = .ok (.iconst 0, 1) := by decide +kernel
theorem dX3_commonDivisor_7 : decode cX3_commonDivisor 7 = .ok (.istore 8, 2) := by decide +kernel
theorem dX3_commonDivisor_9 : decode cX3_commonDivisor 9 = .ok (.iload 8, 2) := by decide +kernel
theorem dX3_commonDivisor_11 : decode cX3_commonDivisor 11 = .ok (.sipush 1000, 3) := by decide +kernel
theorem dX3_commonDivisor_14 : decode cX3_commonDivisor 14 = .ok (.if_icmp .ge 31, 3) := by decide +kernel
theorem dX3_commonDivisor_17 : decode cX3_commonDivisor 17 = .ok (.lload 6, 2) := by decide +kernel
theorem dX3_commonDivisor_19 : decode cX3_commonDivisor 19 = .ok (.lconst 0, 1) := by decide +kernel
theorem dX3_commonDivisor_20 : decode cX3_commonDivisor 20 = .ok (.lcmp, 1) := by decide +kernel
theorem dX3_commonDivisor_21 : decode cX3_commonDivisor 21 = .ok (.ifCond .eq 24, 3) := by decide +kernel
theorem dX3_commonDivisor_24 : decode cX3_commonDivisor 24 = .ok (.lload 4, 2) := by decide +kernel
theorem dX3_commonDivisor_26 : decode cX3_commonDivisor 26 = .ok (.lload 6, 2) := by decide +kernel
theorem dX3_commonDivisor_28 : decode cX3_commonDivisor 28 = .ok (.lrem, 1) := by decide +kernel
theorem dX3_commonDivisor_29 : decode cX3_commonDivisor 29 = .ok (.lstore 9, 2) := by decide +kernel
theorem dX3_commonDivisor_31 : decode cX3_commonDivisor 31 = .ok (.lload 6, 2) := by decide +kernel
theorem dX3_commonDivisor_33 : decode cX3_commonDivisor 33 = .ok (.lstore 4, 2) := by decide +kernel
theorem dX3_commonDivisor_35 : decode cX3_commonDivisor 35 = .ok (.lload 9, 2) := by decide +kernel
theorem dX3_commonDivisor_37 : decode cX3_commonDivisor 37 = .ok (.lstore 6, 2) := by decide +kernel
theorem dX3_commonDivisor_39 : decode cX3_commonDivisor 39 = .ok (.iinc 8 1, 3) := by decide +kernel
theorem dX3_commonDivisor_42 : decode cX3_commonDivisor 42 = .ok (.goto (-33), 3) := by decide +kernel
theorem dX3_commonDivisor_45 : decode cX3_commonDivisor 45 = .ok (.lload 4, 2) := by decide +kernel
theorem dX3_commonDivisor_47 : decode cX3_commonDivisor 47 = .ok (.lreturn, 1) := by decide +kernel
theorem dX3_days_0 : decode cX3_days 0 = .ok (.aload_n 0, 1) := by decide +kernel
theorem dX3_days_1 : decode cX3_days 1 = .ok (.getfield 22, 3) := by decide +kernel
theorem dX3_days_4 : decode cX3_days 4 = .ok (.getfield 65, 3) := by decide +kernel
theorem dX3_days_7 : decode cX3_days 7 = .ok (.ifCond .eq 13, 3) := by decide +kernel
theorem dX3_days_10 : decode cX3_days 10 = .ok (.aload_n 0, 1) := by decide +kernel
theorem dX3_days_11 : decode cX3_days 11 = .ok (.getfield 22, 3) := by decide +kernel
theorem dX3_days_14 : decode cX3_days 14 = .ok (.getfield 68, 3) := by decide +kernel
theorem dX3_days_17 : decode cX3_days 17 = .ok (.ifCond .ne 5, 3) := by decide +kernel
theorem dX3_days_20 : decode cX3_days 20 = .ok (.iconst 0, 1) := by decide +kernel
theorem dX3_days_21 : decode cX3_days 21 = .ok (.ireturn, 1) := by decide +kernel
theorem dX3_days_22 : decode cX3_days 22 = .ok (.aload_n 0, 1) := by decide +kernel
theorem dX3_days_23 : decode cX3_days 23 = .ok (.getfield 12, 3) := by decide +kernel
theorem dX3_days_26 : decode cX3_days 26 = .ok (.aload_n 0, 1) := by decide +kernel
theorem dX3_days_27 : decode cX3_days 27 = .ok (.getfield 22, 3) := by decide +kernel
theorem dX3_days_30 : decode cX3_days 30 = .ok (.invokevirtual 25, 3) := by decide +kernel
theorem dX3_days_33 : decode cX3_days 33 = .ok (.iload_n 2, 1) := by decide +kernel
theorem dX3_days_34 : decode cX3_days 34 = .ok (.i2l, 1) := by decide +kernel
theorem dX3_days_35 : decode cX3_days 35 = .ok (.lstore 4, 2) := by decide +kernel
theorem dX3_days_37 : decode cX3_days 37 = .ok (.iconst 0, 1) := by decide +kernel
theorem dX3_days_38 : decode cX3_days 38 = .ok (.istore 6, 2) := by decide +kernel
theorem dX3_days_40 : decode cX3_days 40 = .ok (.iconst 0, 1) := by decide +kernel
theorem dX3_days_41 : decode cX3_days 41 = .ok (.istore 7, 2) := by decide +kernel
theorem dX3_days_43 : decode cX3_days 43 = .ok (.iconst 0, 1) := by decide +kernel
theorem dX3_days_44 : decode cX3_days 44 = .ok (.istore 8, 2) := by decide +kernel
theorem dX3_days_46 : decode cX3_days 46 = .ok (.iload 8, 2) := by decide +kernel
theorem dX3_days_48 : decode cX3_days 48 = .ok (.iload_n 1, 1) := by decide +kernel
theorem dX3_days_49 : decode cX3_days 49 = .ok (.if_icmp .ge 52, 3) := by decide +kernel
theorem dX3_days_52 : decode cX3_days 52 = .ok (.lload 4, 2) := by decide +kernel
theorem dX3_days_54 : decode cX3_days 54 = .ok (.ldc2_w 169, 3) := by decide +kernel
theorem dX3_days_57 : decode cX3_days 57 = .ok (.lmul, 1) := by decide +kernel
theorem dX3_days_58 : decode cX3_days 58 = .ok (.ldc2_w 171, 3) := by decide +kernel
theorem dX3_days_61 : decode cX3_days 61 = .ok (.lrem, 1) := by decide +kernel
theorem dX3_days_62 : decode cX3_days 62 = .ok (.lstore 4, 2) := by decide +kernel
theorem dX3_days_64 : decode cX3_days 64 = .ok (.aload_n 0, 1) := by decide +kernel
theorem dX3_days_65 : decode cX3_days 65 = .ok (.lload 4, 2) := by decide +kernel
theorem dX3_days_67 : decode cX3_days 67 = .ok (.l2i, 1) := by decide +kernel
theorem dX3_days_68 : decode cX3_days 68 = .ok (.invokevirtual 173, 3) := by decide +kernel
theorem dX3_days_71 : decode cX3_days 71 = .ok (.iload 6, 2) := by decide +kernel
theorem dX3_days_73 : decode cX3_days 73 = .ok (.aload_n 0, 1) := by decide +kernel
theorem dX3_days_74 : decode cX3_days 74 = .ok (.getfield 12, 3) := by decide +kernel
theorem dX3_days_77 : decode cX3_days 77 = .ok (.invokevirtual 61, 3) := by decide +kernel
theorem dX3_days_80 : decode cX3_days 80 = .ok (.iadd, 1) := by decide +kernel
theorem dX3_days_81 : decode cX3_days 81 = .ok (.istore 6, 2) := by decide +kernel
theorem dX3_days_83 : decode cX3_days 83 = .ok (.iload 7, 2) := by decide +kernel
theorem dX3_days_85 : decode cX3_days 85 = .ok (.aload_n 0, 1) := by decide +kernel
theorem dX3_days_86 : decode cX3_days 86 = .ok (.getfield 12, 3) := by decide +kernel
theorem dX3_days_89 : decode cX3_days 89 = .ok (.invokevirtual 47, 3) := by decide +kernel
theorem dX3_days_92 : decode cX3_days 92 = .ok (.iadd, 1) := by decide +kernel
theorem dX3_days_93 : decode cX3_days 93 = .ok (.istore 7, 2) := by decide +kernel
theorem dX3_days_95 : decode cX3_days 95 = .ok (.iinc 8 1, 3) := by decide +kernel
theorem dX3_days_98 : decode cX3_days 98 = .ok (.goto (-52), 3) := by decide +kernel
theorem dX3_days_101 : decode cX3_days 101 = .ok (.iload_n 3, 1) := by decide +kernel
theorem dX3_days_102 : decode cX3_days 102 = .ok (.ifCond .ne 8, 3) := by decide +kernel
theorem dX3_days_105 : decode cX3_days 105 = .ok (.iload 6, 2) := by decide +kernel
theorem dX3_days_107 : decode cX3_days 107 = .ok (.goto 5, 3) := by decide +kernel
theorem dX3_days_110 : decode cX3_days 110 = .ok (.iload 7, 2) := by decide +kernel
theorem dX3_days_112 : decode cX3_days 112 = .ok (.ireturn, 1) := by decide +kernel
theorem dX3_draw_0 : decode cX3_draw 0 = .ok (.aload_n 0, 1) := by decide +kernel
theorem dX3_draw_1 : decode cX3_draw 1 = .ok (.getfield 12, 3) := by decide +kernel
theorem dX3_draw_4 : decode cX3_draw 4 = .ok (.getfield 58, 3) := by decide +kernel
theorem dX3_draw_7 : decode cX3_draw 7 = .ok (.ifCond .ne 17, 3) := by decide +kernel
theorem dX3_draw_10 : decode cX3_draw 10 = .ok (.aload_n 0, 1) := by decide +kernel
theorem dX3_draw_11 : decode cX3_draw 11 = .ok (.getfield 12, 3) := by decide +kernel
theorem dX3_draw_14 : decode cX3_draw 14 = .ok (.iload_n 1, 1) := by decide +kernel
theorem dX3_draw_15 : decode cX3_draw 15 = .ok (.bipush 30, 2) := by decide +kernel
theorem dX3_draw_17 : decode cX3_draw 17 = .ok (.irem, 1) := by decide +kernel
theorem dX3_draw_18 : decode cX3_draw 18 = .ok (.putfield 58, 3) := by decide +kernel
theorem dX3_draw_21 : decode cX3_draw 21 = .ok (.goto 30, 3) := by decide +kernel
theorem dX3_draw_24 : decode cX3_draw 24 = .ok (.iload_n 1, 1) := by decide +kernel
theorem dX3_draw_25 : decode cX3_draw 25 = .ok (.iconst 3, 1) := by decide +kernel
theorem dX3_draw_26 : decode cX3_draw 26 = .ok (.irem, 1) := by decide +kernel
theorem dX3_draw_27 : decode cX3_draw 27 = .ok (.ifCond .ne 24, 3) := by decide +kernel
theorem dX3_draw_30 : decode cX3_draw 30 = .ok (.aload_n 0, 1) := by decide +kernel
theorem dX3_draw_31 : decode cX3_draw 31 = .ok (.getfield 12, 3) := by decide +kernel
theorem dX3_draw_34 : decode cX3_draw 34 = .ok (.getfield 83, 3) := by decide +kernel
theorem dX3_draw_37 : decode cX3_draw 37 = .ok (.iload_n 1, 1) := by decide +kernel
theorem dX3_draw_38 : decode cX3_draw 38 = .ok (.aload_n 0, 1) := by decide +kernel
theorem dX3_draw_39 : decode cX3_draw 39 = .ok (.getfield 12, 3) := by decide +kernel
theorem dX3_draw_42 : decode cX3_draw 42 = .ok (.getfield 65, 3) := by decide +kernel
theorem dX3_draw_45 : decode cX3_draw 45 = .ok (.irem, 1) := by decide +kernel
theorem dX3_draw_46 : decode cX3_draw 46 = .ok (.iload_n 1, 1) := by decide +kernel
theorem dX3_draw_47 : decode cX3_draw 47 = .ok (.bipush 64, 2) := by decide +kernel
theorem dX3_draw_49 : decode cX3_draw 49 = .ok (.irem, 1) := by decide +kernel
theorem dX3_draw_50 : decode cX3_draw 50 = .ok (.iastore, 1) := by decide +kernel
theorem dX3_draw_51 : decode cX3_draw 51 = .ok (.iload_n 1, 1) := by decide +kernel
theorem dX3_draw_52 : decode cX3_draw 52 = .ok (.aload_n 0, 1) := by decide +kernel
theorem dX3_draw_53 : decode cX3_draw 53 = .ok (.getfield 12, 3) := by decide +kernel
theorem dX3_draw_56 : decode cX3_draw 56 = .ok (.getfield 68, 3) := by decide +kernel
theorem dX3_draw_59 : decode cX3_draw 59 = .ok (.irem, 1) := by decide +kernel
theorem dX3_draw_60 : decode cX3_draw 60 = .ok (.istore_n 2, 1) := by decide +kernel
theorem dX3_draw_61 : decode cX3_draw 61 = .ok (.aload_n 0, 1) := by decide +kernel
theorem dX3_draw_62 : decode cX3_draw 62 = .ok (.getfield 12, 3) := by decide +kernel
theorem dX3_draw_65 : decode cX3_draw 65 = .ok (.iload_n 2, 1) := by decide +kernel
theorem dX3_draw_66 : decode cX3_draw 66 = .ok (.invokevirtual 43, 3) := by decide +kernel
theorem dX3_draw_69 : decode cX3_draw 69 = .ok (.ifCond .eq 11, 3) := by decide +kernel
theorem dX3_draw_72 : decode cX3_draw 72 = .ok (.aload_n 0, 1) := by decide +kernel
theorem dX3_draw_73 : decode cX3_draw 73 = .ok (.getfield 12, 3) := by decide +kernel
theorem dX3_draw_76 : decode cX3_draw 76 = .ok (.iload_n 2, 1) := by decide +kernel
theorem dX3_draw_77 : decode cX3_draw 77 = .ok (.invokevirtual 176, 3) := by decide +kernel
theorem dX3_draw_80 : decode cX3_draw 80 = .ok (.return_, 1) := by decide +kernel
theorem dX4_init_0 : decode cX4_init 0 = .ok (.aload_n 0, 1) := by decide +kernel
theorem dX4_init_1 : decode cX4_init 1 = .ok (.invokespecial 3, 3) := by decide +kernel
theorem dX4_init_4 : decode cX4_init 4 = .ok (.aload_n 0, 1) := by decide +kernel
theorem dX4_init_5 : decode cX4_init 5 = .ok (.bipush 100, 2) := by decide +kernel
theorem dX4_init_7 : decode cX4_init 7 = .ok (.newarray .int, 2) := by decide +kernel
theorem dX4_init_9 : decode cX4_init 9 = .ok (.putfield 9, 3) := by decide +kernel
theorem dX4_init_12 : decode cX4_init 12 = .ok (.return_, 1) := by decide +kernel
theorem dX4_add_0 : decode cX4_add 0 = .ok (.aload_n 0, 1) := by decide +kernel
theorem dX4_add_1 : decode cX4_add 1 = .ok (.getfield 9, 3) := by decide +kernel
theorem dX4_add_4 : decode cX4_add 4 = .ok (.aload_n 0, 1) := by decide +kernel
theorem dX4_add_5 : decode cX4_add 5 = .ok (.getfield 15, 3) := by decide +kernel
theorem dX4_add_8 : decode cX4_add 8 = .ok (.iload_n 1, 1) := by decide +kernel
theorem dX4_add_9 : decode cX4_add 9 = .ok (.iastore, 1) := by decide +kernel
theorem dX4_add_10 : decode cX4_add 10 = .ok (.aload_n 0, 1) := by decide +kernel
theorem dX4_add_11 : decode cX4_add 11 = .ok (.dup, 1) := by decide +kernel
theorem dX4_add_12 : decode cX4_add 12 = .ok (.getfield 15, 3) := by decide +kernel
theorem dX4_add_15 : decode cX4_add 15 = .ok (.iconst 1, 1) := by decide +kernel
theorem dX4_add_16 : decode cX4_add 16 = .ok (.iadd, 1) := by decide +kernel
theorem dX4_add_17 : decode cX4_add 17 = .ok (.putfield 15, 3) := by decide +kernel
theorem dX4_add_20 : decode cX4_add 20 = .ok (.aload_n 0, 1) := by decide +kernel
theorem dX4_add_21 : decode cX4_add 21 = .ok (.getfield 15, 3) := by decide +kernel
theorem dX4_add_24 : decode cX4_add 24 = .ok (.ireturn, 1) := by decide +kernel
theorem dX4_readInto_0 : decode cX4_readInto 0 = .ok (.aload_n 0, 1) := by decide +kernel
theorem dX4_readInto_1 : decode cX4_readInto 1 = .ok (.iconst 0, 1) := by decide +kernel
theorem dX4_readInto_2 : decode cX4_readInto 2 = .ok (.putfield 19, 3) := by decide +kernel
theorem dX4_readInto_5 : decode cX4_readInto 5 = .ok (.aload_n 0, 1) := by decide +kernel
theorem dX4_readInto_6 : decode cX4_readInto 6 = .ok (.iconst 0, 1) := by decide +kernel
theorem dX4_readInto_7 : decode cX4_readInto 7 = .ok (.putfield 22, 3) := by decide +kernel
theorem dX4_readInto_10 : decode cX4_readInto 10 = .ok (.aload_n 1, 1) := by decide +kernel
theorem dX4_readInto_11 : decode cX4_readInto 11 = .ok (.invokevirtual 25, 3) := by decide +kernel
theorem dX4_readInto_14 : decode cX4_readInto 14 = .ok (.aload_n 0, 1) := by decide +kernel
theorem dX4_readInto_15 : decode cX4_readInto 15 = .ok (.aload_n 1, 1) := by decide +kernel
theorem dX4_readInto_16 : decode cX4_readInto 16 = .ok (.invokevirtual 30, 3) := by decide +kernel
theorem dX4_readInto_19 : decode cX4_readInto 19 = .ok (.ifCond .eq 23, 3) := by decide +kernel
theorem dX4_readInto_22 : decode cX4_readInto 22 = .ok (.aload_n 0, 1) := by decide +kernel
theorem dX4_readInto_23 : decode cX4_readInto 23 = .ok (.aload_n 1, 1) := by decide +kernel
theorem dX4_readInto_24 : decode cX4_readInto 24 = .ok (.invokevirtual 34, 3) := by decide +kernel
theorem dX4_readInto_27 : decode cX4_readInto 27 = .ok (.ifCond .eq 15, 3) := by decide +kernel
theorem dX4_readInto_30 : decode cX4_readInto 30 = .ok (.aload_n 0, 1) := by decide +kernel
theorem dX4_readInto_31 : decode cX4_readInto 31 = .ok (.aload_n 1, 1) := by decide +kernel
theorem dX4_readInto_32 : decode cX4_readInto 32 = .ok (.invokevirtual 37, 3) := by decide +kernel
theorem dX4_readInto_35 : decode cX4_readInto 35 = .ok (.ifCond .eq 7, 3) := by decide +kernel
theorem dX4_readInto_38 : decode cX4_readInto 38 = .ok (.iconst 1, 1) := by decide +kernel
theorem dX4_readInto_39 : decode cX4_readInto 39 = .ok (.goto 4, 3) := by decide +kernel
theorem dX4_readInto_42 : decode cX4_readInto 42 = .ok (.iconst 0, 1) := by decide +kernel
theorem dX4_readInto_43 : decode cX4_readInto 43 = .ok (.ireturn, 1) := by decide +kernel
theorem dX4_readLaw_0 : decode cX4_readLaw 0 = .ok (.aload_n 0, 1) := by decide +kernel
theorem dX4_readLaw_1 : decode cX4_readLaw 1 = .ok (.bipush 109, 2) := by decide +kernel
theorem dX4_readLaw_3 : decode cX4_readLaw 3 = .ok (.invokevirtual 40, 3) := by decide +kernel
theorem dX4_readLaw_6 : decode cX4_readLaw 6 = .ok (.ifCond .eq 13, 3) := by decide +kernel
theorem dX4_readLaw_9 : decode cX4_readLaw 9 = .ok (.aload_n 0, 1) := by decide +kernel
theorem dX4_readLaw_10 : decode cX4_readLaw 10 = .ok (.iconst 0, 1) := by decide +kernel
theorem dX4_readLaw_11 : decode cX4_readLaw 11 = .ok (.bipush 99, 2) := by decide +kernel
theorem dX4_readLaw_13 : decode cX4_readLaw 13 = .ok (.invokevirtual 44, 3) := by decide +kernel
theorem dX4_readLaw_16 : decode cX4_readLaw 16 = .ok (.ifCond .ne 5, 3) := by decide +kernel
theorem dX4_readLaw_19 : decode cX4_readLaw 19 = .ok (.iconst 0, 1) := by decide +kernel
theorem dX4_readLaw_20 : decode cX4_readLaw 20 = .ok (.ireturn, 1) := by decide +kernel
theorem dX4_readLaw_21 : decode cX4_readLaw 21 = .ok (.aload_n 1, 1) := by decide +kernel
theorem dX4_readLaw_22 : decode cX4_readLaw 22 = .ok (.aload_n 0, 1) := by decide +kernel
theorem dX4_readLaw_23 : decode cX4_readLaw 23 = .ok (.getfield 48, 3) := by decide +kernel
theorem dX4_readLaw_26 : decode cX4_readLaw 26 = .ok (.putfield 51, 3) := by decide +kernel
theorem dX4_readLaw_29 : decode cX4_readLaw 29 = .ok (.aload_n 0, 1) := by decide +kernel
theorem dX4_readLaw_30 : decode cX4_readLaw 30 = .ok (.bipush 44, 2) := by decide +kernel
theorem dX4_readLaw_32 : decode cX4_readLaw 32 = .ok (.invokevirtual 40, 3) := by decide +kernel
theorem dX4_readLaw_35 : decode cX4_readLaw 35 = .ok (.ifCond .eq 12, 3) := by decide +kernel
theorem dX4_readLaw_38 : decode cX4_readLaw 38 = .ok (.aload_n 0, 1) := by decide +kernel
theorem dX4_readLaw_39 : decode cX4_readLaw 39 = .ok (.iconst 0, 1) := by decide +kernel
theorem dX4_readLaw_40 : decode cX4_readLaw 40 = .ok (.iconst 3, 1) := by decide +kernel
theorem dX4_readLaw_41 : decode cX4_readLaw 41 = .ok (.invokevirtual 44, 3) := by decide +kernel
theorem dX4_readLaw_44 : decode cX4_readLaw 44 = .ok (.ifCond .ne 5, 3) := by decide +kernel
theorem dX4_readLaw_47 : decode cX4_readLaw 47 = .ok (.iconst 0, 1) := by decide +kernel
theorem dX4_readLaw_48 : decode cX4_readLaw 48 = .ok (.ireturn, 1) := by decide +kernel
theorem dX4_readLaw_49 : decode cX4_readLaw 49 = .ok (.aload_n 1, 1) := by decide +kernel
theorem dX4_readLaw_50 : decode cX4_readLaw 50 = .ok (.aload_n 0, 1) := by decide +kernel
theorem dX4_readLaw_51 : decode cX4_readLaw 51 = .ok (.getfield 48, 3) := by decide +kernel
theorem dX4_readLaw_54 : decode cX4_readLaw 54 = .ok (.putfield 54, 3) := by decide +kernel
theorem dX4_readLaw_57 : decode cX4_readLaw 57 = .ok (.aload_n 0, 1) := by decide +kernel
theorem dX4_readLaw_58 : decode cX4_readLaw 58 = .ok (.bipush 59, 2) := by decide +kernel
theorem dX4_readLaw_60 : decode cX4_readLaw 60 = .ok (.invokevirtual 40, 3) := by decide +kernel
theorem dX4_readLaw_63 : decode cX4_readLaw 63 = .ok (.ireturn, 1) := by decide +kernel
theorem dX4_readColumns_0 : decode cX4_readColumns 0 = .ok (.iconst 0, 1) := by decide +kernel
theorem dX4_readColumns_1 : decode cX4_readColumns 1 = .ok (.istore_n 2, 1) := by decide +kernel
theorem dX4_readColumns_2 : decode cX4_readColumns 2 = .ok (.iload_n 2, 1) := by decide +kernel
theorem dX4_readColumns_3 : decode cX4_readColumns 3 = .ok (.bipush 12, 2) := by decide +kernel
theorem dX4_readColumns_5 : decode cX4_readColumns 5 = .ok (.if_icmp .gt 78, 3) := by decide +kernel
theorem dX4_readColumns_8 : decode cX4_readColumns 8 = .ok (.aload_n 0, 1) := by decide +kernel
theorem dX4_readColumns_9 : decode cX4_readColumns 9 = .ok (.invokevirtual 57, 3) := by decide +kernel
theorem dX4_readColumns_12 : decode cX4_readColumns 12 = .ok (.bipush 112, 2) := by decide +kernel
theorem dX4_readColumns_14 : decode cX4_readColumns 14 = .ok (.if_icmp .ne 69, 3) := by decide +kernel
theorem dX4_readColumns_17 : decode cX4_readColumns 17 = .ok (.iload_n 2, 1) := by decide +kernel
theorem dX4_readColumns_18 : decode cX4_readColumns 18 = .ok (.bipush 12, 2) := by decide +kernel
theorem dX4_readColumns_20 : decode cX4_readColumns 20 = .ok (.if_icmp .ne 9, 3) := by decide +kernel
theorem dX4_readColumns_23 : decode cX4_readColumns 23 = .ok (.aload_n 0, 1) := by decide +kernel
theorem dX4_readColumns_24 : decode cX4_readColumns 24 = .ok (.iconst 3, 1) := by decide +kernel
theorem dX4_readColumns_25 : decode cX4_readColumns 25 = .ok (.invokevirtual 61, 3) := by decide +kernel
theorem dX4_readColumns_28 : decode cX4_readColumns 28 = .ok (.ireturn, 1) := by decide +kernel
theorem dX4_readColumns_29 : decode cX4_readColumns 29 = .ok (.aload_n 0, 1) := by decide +kernel
theorem dX4_readColumns_30 : decode cX4_readColumns 30 = .ok (.dup, 1) := by decide +kernel
theorem dX4_readColumns_31 : decode cX4_readColumns 31 = .ok (.getfield 19, 3) := by decide +kernel
theorem dX4_readColumns_34 : decode cX4_readColumns 34 = .ok (.iconst 1, 1) := by decide +kernel
theorem dX4_readColumns_35 : decode cX4_readColumns 35 = .ok (.iadd, 1) := by decide +kernel
theorem dX4_readColumns_36 : decode cX4_readColumns 36 = .ok (.putfield 19, 3) := by decide +kernel
theorem dX4_readColumns_39 : decode cX4_readColumns 39 = .ok (.aload_n 0, 1) := by decide +kernel
theorem dX4_readColumns_40 : decode cX4_readColumns 40 = .ok (.iconst 0, 1) := by decide +kernel
theorem dX4_readColumns_41 : decode cX4_readColumns 41 = .ok (.bipush 63, 2) := by decide +kernel
theorem dX4_readColumns_43 : decode cX4_readColumns 43 = .ok (.invokevirtual 44, 3) := by decide +kernel
theorem dX4_readColumns_46 : decode cX4_readColumns 46 = .ok (.ifCond .eq 12, 3) := by decide +kernel
theorem dX4_readColumns_49 : decode cX4_readColumns 49 = .ok (.aload_n 0, 1) := by decide +kernel
theorem dX4_readColumns_50 : decode cX4_readColumns 50 = .ok (.bipush 59, 2) := by decide +kernel
theorem dX4_readColumns_52 : decode cX4_readColumns 52 = .ok (.invokevirtual 40, 3) := by decide +kernel
theorem dX4_readColumns_55 : decode cX4_readColumns 55 = .ok (.ifCond .ne 5, 3) := by decide +kernel
theorem dX4_readColumns_58 : decode cX4_readColumns 58 = .ok (.iconst 0, 1) := by decide +kernel
theorem dX4_readColumns_59 : decode cX4_readColumns 59 = .ok (.ireturn, 1) := by decide +kernel
theorem dX4_readColumns_60 : decode cX4_readColumns 60 = .ok (.aload_n 1, 1) := by decide +kernel
theorem dX4_readColumns_61 : decode cX4_readColumns 61 = .ok (.getfield 64, 3) := by decide +kernel
theorem dX4_readColumns_64 : decode cX4_readColumns 64 = .ok (.iload_n 2, 1) := by decide +kernel
theorem dX4_readColumns_65 : decode cX4_readColumns 65 = .ok (.aload_n 0, 1) := by decide +kernel
theorem dX4_readColumns_66 : decode cX4_readColumns 66 = .ok (.getfield 48, 3) := by decide +kernel
theorem dX4_readColumns_69 : decode cX4_readColumns 69 = .ok (.iastore, 1) := by decide +kernel
theorem dX4_readColumns_70 : decode cX4_readColumns 70 = .ok (.aload_n 1, 1) := by decide +kernel
theorem dX4_readColumns_71 : decode cX4_readColumns 71 = .ok (.iload_n 2, 1) := by decide +kernel
theorem dX4_readColumns_72 : decode cX4_readColumns 72 = .ok (.iconst 1, 1) := by decide +kernel
theorem dX4_readColumns_73 : decode cX4_readColumns 73 = .ok (.iadd, 1) := by decide +kernel
theorem dX4_readColumns_74 : decode cX4_readColumns 74 = .ok (.putfield 67, 3) := by decide +kernel
theorem dX4_readColumns_77 : decode cX4_readColumns 77 = .ok (.iinc 2 1, 3) := by decide +kernel
theorem dX4_readColumns_80 : decode cX4_readColumns 80 = .ok (.goto (-78), 3) := by decide +kernel
theorem dX4_readColumns_83 : decode cX4_readColumns 83 = .ok (.aload_n 1, 1) := by decide +kernel
theorem dX4_readColumns_84 : decode cX4_readColumns 84 = .ok (.getfield 67, 3) := by decide +kernel
theorem dX4_readColumns_87 : decode cX4_readColumns 87 = .ok (.iconst 4, 1) := by decide +kernel
theorem dX4_readColumns_88 : decode cX4_readColumns 88 = .ok (.if_icmp .ge 11, 3) := by decide +kernel
theorem dX4_readColumns_91 : decode cX4_readColumns 91 = .ok (.aload_n 0, 1) := by decide +kernel
theorem dX4_readColumns_92 : decode cX4_readColumns 92 = .ok (.iconst 1, 1) := by decide +kernel
theorem dX4_readColumns_93 : decode cX4_readColumns 93 = .ok (.invokevirtual 61, 3) := by decide +kernel
theorem dX4_readColumns_96 : decode cX4_readColumns 96 = .ok (.ifCond .eq 7, 3) := by decide +kernel
theorem dX4_readColumns_99 : decode cX4_readColumns 99 = .ok (.iconst 1, 1) := by decide +kernel
theorem dX4_readColumns_100 : decode cX4_readColumns 100 = .ok (.goto 4, 3) := by decide +kernel
theorem dX4_readColumns_103 : decode cX4_readColumns 103 = .ok (.iconst 0, 1) := by decide +kernel
theorem dX4_readColumns_104 : decode cX4_readColumns 104 = .ok (.ireturn, 1) := by decide +kernel
theorem dX4_readTeeth_0 : decode cX4_readTeeth 0 = .ok (.iconst 0, 1) := by decide +kernel
theorem dX4_readTeeth_1 : decode cX4_readTeeth 1 = .ok (.istore_n 2, 1) := by decide +kernel
theorem dX4_readTeeth_2 : decode cX4_readTeeth 2 = .ok (.iload_n 2, 1) := by decide +kernel
theorem dX4_readTeeth_3 : decode cX4_readTeeth 3 = .ok (.bipush 6, 2) := by decide +kernel
theorem dX4_readTeeth_5 : decode cX4_readTeeth 5 = .ok (.if_icmp .gt 105, 3) := by decide +kernel
theorem dX4_readTeeth_8 : decode cX4_readTeeth 8 = .ok (.aload_n 0, 1) := by decide +kernel
theorem dX4_readTeeth_9 : decode cX4_readTeeth 9 = .ok (.getfield 19, 3) := by decide +kernel
theorem dX4_readTeeth_12 : decode cX4_readTeeth 12 = .ok (.aload_n 0, 1) := by decide +kernel
theorem dX4_readTeeth_13 : decode cX4_readTeeth 13 = .ok (.getfield 15, 3) := by decide +kernel
theorem dX4_readTeeth_16 : decode cX4_readTeeth 16 = .ok (.if_icmp .ge 94, 3) := by decide +kernel
theorem dX4_readTeeth_19 : decode cX4_readTeeth 19 = .ok (.aload_n 0, 1) := by decide +kernel
theorem dX4_readTeeth_20 : decode cX4_readTeeth 20 = .ok (.invokevirtual 57, 3) := by decide +kernel
theorem dX4_readTeeth_23 : decode cX4_readTeeth 23 = .ok (.invokestatic 70, 3) := by decide +kernel
theorem dX4_readTeeth_26 : decode cX4_readTeeth 26 = .ok (.istore_n 3, 1) := by decide +kernel
theorem dX4_readTeeth_27 : decode cX4_readTeeth 27 = .ok (.iload_n 3, 1) := by decide +kernel
theorem dX4_readTeeth_28 : decode cX4_readTeeth 28 = .ok (.ifCond .ne 9, 3) := by decide +kernel
theorem dX4_readTeeth_31 : decode cX4_readTeeth 31 = .ok (.aload_n 0, 1) := by decide +kernel
theorem dX4_readTeeth_32 : decode cX4_readTeeth 32 = .ok (.iconst 1, 1) := by decide +kernel
theorem dX4_readTeeth_33 : decode cX4_readTeeth 33 = .ok (.invokevirtual 61, 3) := by decide +kernel
theorem dX4_readTeeth_36 : decode cX4_readTeeth 36 = .ok (.ireturn, 1) := by decide +kernel
theorem dX4_readTeeth_37 : decode cX4_readTeeth 37 = .ok (.iload_n 2, 1) := by decide +kernel
theorem dX4_readTeeth_38 : decode cX4_readTeeth 38 = .ok (.bipush 6, 2) := by decide +kernel
theorem dX4_readTeeth_40 : decode cX4_readTeeth 40 = .ok (.if_icmp .ne 9, 3) := by decide +kernel
theorem dX4_readTeeth_43 : decode cX4_readTeeth 43 = .ok (.aload_n 0, 1) := by decide +kernel
theorem dX4_readTeeth_44 : decode cX4_readTeeth 44 = .ok (.iconst 3, 1) := by decide +kernel
theorem dX4_readTeeth_45 : decode cX4_readTeeth 45 = .ok (.invokevirtual 61, 3) := by decide +kernel
theorem dX4_readTeeth_48 : decode cX4_readTeeth 48 = .ok (.ireturn, 1) := by decide +kernel
theorem dX4_readTeeth_49 : decode cX4_readTeeth 49 = .ok (.aload_n 0, 1) := by decide +kernel
theorem dX4_readTeeth_50 : decode cX4_readTeeth 50 = .ok (.dup, 1) := by decide +kernel
theorem dX4_readTeeth_51 : decode cX4_readTeeth 51 = .ok (.getfield 19, 3) := by decide +kernel
theorem dX4_readTeeth_54 : decode cX4_readTeeth 54 = .ok (.iconst 1, 1) := by decide +kernel
theorem dX4_readTeeth_55 : decode cX4_readTeeth 55 = .ok (.iadd, 1) := by decide +kernel
theorem dX4_readTeeth_56 : decode cX4_readTeeth 56 = .ok (.putfield 19, 3) := by decide +kernel
theorem dX4_readTeeth_59 : decode cX4_readTeeth 59 = .ok (.aload_n 0, 1) := by decide +kernel
theorem dX4_readTeeth_60 : decode cX4_readTeeth 60 = .ok (.iconst 1, 1) := by decide +kernel
theorem dX4_readTeeth_61 : decode cX4_readTeeth 61 = .ok (.bipush 9, 2) := by decide +kernel
theorem dX4_readTeeth_63 : decode cX4_readTeeth 63 = .ok (.invokevirtual 44, 3) := by decide +kernel
theorem dX4_readTeeth_66 : decode cX4_readTeeth 66 = .ok (.ifCond .eq 12, 3) := by decide +kernel
theorem dX4_readTeeth_69 : decode cX4_readTeeth 69 = .ok (.aload_n 0, 1) := by decide +kernel
theorem dX4_readTeeth_70 : decode cX4_readTeeth 70 = .ok (.bipush 59, 2) := by decide +kernel
theorem dX4_readTeeth_72 : decode cX4_readTeeth 72 = .ok (.invokevirtual 40, 3) := by decide +kernel
theorem dX4_readTeeth_75 : decode cX4_readTeeth 75 = .ok (.ifCond .ne 5, 3) := by decide +kernel
theorem dX4_readTeeth_78 : decode cX4_readTeeth 78 = .ok (.iconst 0, 1) := by decide +kernel
theorem dX4_readTeeth_79 : decode cX4_readTeeth 79 = .ok (.ireturn, 1) := by decide +kernel
theorem dX4_readTeeth_80 : decode cX4_readTeeth 80 = .ok (.aload_n 1, 1) := by decide +kernel
theorem dX4_readTeeth_81 : decode cX4_readTeeth 81 = .ok (.getfield 74, 3) := by decide +kernel
theorem dX4_readTeeth_84 : decode cX4_readTeeth 84 = .ok (.iload_n 2, 1) := by decide +kernel
theorem dX4_readTeeth_85 : decode cX4_readTeeth 85 = .ok (.iload_n 3, 1) := by decide +kernel
theorem dX4_readTeeth_86 : decode cX4_readTeeth 86 = .ok (.iastore, 1) := by decide +kernel
theorem dX4_readTeeth_87 : decode cX4_readTeeth 87 = .ok (.aload_n 1, 1) := by decide +kernel
theorem dX4_readTeeth_88 : decode cX4_readTeeth 88 = .ok (.getfield 77, 3) := by decide +kernel
theorem dX4_readTeeth_91 : decode cX4_readTeeth 91 = .ok (.iload_n 2, 1) := by decide +kernel
theorem dX4_readTeeth_92 : decode cX4_readTeeth 92 = .ok (.aload_n 0, 1) := by decide +kernel
theorem dX4_readTeeth_93 : decode cX4_readTeeth 93 = .ok (.getfield 48, 3) := by decide +kernel
theorem dX4_readTeeth_96 : decode cX4_readTeeth 96 = .ok (.iastore, 1) := by decide +kernel
theorem dX4_readTeeth_97 : decode cX4_readTeeth 97 = .ok (.aload_n 1, 1) := by decide +kernel
theorem dX4_readTeeth_98 : decode cX4_readTeeth 98 = .ok (.iload_n 2, 1) := by decide +kernel
theorem dX4_readTeeth_99 : decode cX4_readTeeth 99 = .ok (.iconst 1, 1) := by decide +kernel
theorem dX4_readTeeth_100 : decode cX4_readTeeth 100 = .ok (.iadd, 1) := by decide +kernel
theorem dX4_readTeeth_101 : decode cX4_readTeeth 101 = .ok (.putfield 80, 3) := by decide +kernel
theorem dX4_readTeeth_104 : decode cX4_readTeeth 104 = .ok (.iinc 2 1, 3) := by decide +kernel
theorem dX4_readTeeth_107 : decode cX4_readTeeth 107 = .ok (.goto (-105), 3) := by decide +kernel
theorem dX4_readTeeth_110 : decode cX4_readTeeth 110 = .ok (.aload_n 1, 1) := by decide +kernel
theorem dX4_readTeeth_111 : decode cX4_readTeeth 111 = .ok (.getfield 80, 3) := by decide +kernel
theorem dX4_readTeeth_114 : decode cX4_readTeeth 114 = .ok (.ifCond .gt 11, 3) := by decide +kernel
theorem dX4_readTeeth_117 : decode cX4_readTeeth 117 = .ok (.aload_n 0, 1) := by decide +kernel
theorem dX4_readTeeth_118 : decode cX4_readTeeth 118 = .ok (.iconst 1, 1) := by decide +kernel
theorem dX4_readTeeth_119 : decode cX4_readTeeth 119 = .ok (.invokevirtual 61, 3) := by decide +kernel
theorem dX4_readTeeth_122 : decode cX4_readTeeth 122 = .ok (.ifCond .eq 7, 3) := by decide +kernel
theorem dX4_readTeeth_125 : decode cX4_readTeeth 125 = .ok (.iconst 1, 1) := by decide +kernel
theorem dX4_readTeeth_126 : decode cX4_readTeeth 126 = .ok (.goto 4, 3) := by decide +kernel
theorem dX4_readTeeth_129 : decode cX4_readTeeth 129 = .ok (.iconst 0, 1) := by decide +kernel
theorem dX4_readTeeth_130 : decode cX4_readTeeth 130 = .ok (.ireturn, 1) := by decide +kernel
theorem dX4_kindOf_0 : decode cX4_kindOf 0 = .ok (.iload_n 0, 1) := by decide +kernel
theorem dX4_kindOf_1 : decode cX4_kindOf 1 = .ok (.lookupswitch 61 #[(99, 59), (100, 53), (114, 57), (115, 51), (116, 55)], 51) := by decide +kernel
theorem dX4_kindOf_52 : decode cX4_kindOf 52 = .ok (.iconst 1, 1) := by decide +kernel
theorem dX4_kindOf_53 : decode cX4_kindOf 53 = .ok (.ireturn, 1) := by decide +kernel
theorem dX4_kindOf_54 : decode cX4_kindOf 54 = .ok (.iconst 2, 1) := by decide +kernel
theorem dX4_kindOf_55 : decode cX4_kindOf 55 = .ok (.ireturn, 1) := by decide +kernel
theorem dX4_kindOf_56 : decode cX4_kindOf 56 = .ok (.iconst 3, 1) := by decide +kernel
theorem dX4_kindOf_57 : decode cX4_kindOf 57 = .ok (.ireturn, 1) := by decide +kernel
theorem dX4_kindOf_58 : decode cX4_kindOf 58 = .ok (.iconst 4, 1) := by decide +kernel
theorem dX4_kindOf_59 : decode cX4_kindOf 59 = .ok (.ireturn, 1) := by decide +kernel
theorem dX4_kindOf_60 : decode cX4_kindOf 60 = .ok (.iconst 5, 1) := by decide +kernel
theorem dX4_kindOf_61 : decode cX4_kindOf 61 = .ok (.ireturn, 1) := by decide +kernel
theorem dX4_kindOf_62 : decode cX4_kindOf 62 = .ok (.iconst 0, 1) := by decide +kernel
theorem dX4_kindOf_63 : decode cX4_kindOf 63 = .ok (.ireturn, 1) := by decide +kernel
theorem dX4_coming_0 : decode cX4_coming 0 = .ok (.aload_n 0, 1) := by decide +kernel
theorem dX4_coming_1 : decode cX4_coming 1 = .ok (.getfield 19, 3) := by decide +kernel
theorem dX4_coming_4 : decode cX4_coming 4 = .ok (.aload_n 0, 1) := by decide +kernel
theorem dX4_coming_5 : decode cX4_coming 5 = .ok (.getfield 15, 3) := by decide +kernel
theorem dX4_coming_8 : decode cX4_coming 8 = .ok (.if_icmp .ge 15, 3) := by decide +kernel
theorem dX4_coming_11 : decode cX4_coming 11 = .ok (.aload_n 0, 1) := by decide +kernel
theorem dX4_coming_12 : decode cX4_coming 12 = .ok (.getfield 9, 3) := by decide +kernel
theorem dX4_coming_15 : decode cX4_coming 15 = .ok (.aload_n 0, 1) := by decide +kernel
theorem dX4_coming_16 : decode cX4_coming 16 = .ok (.getfield 19, 3) := by decide +kernel
theorem dX4_coming_19 : decode cX4_coming 19 = .ok (.iaload, 1) := by decide +kernel
theorem dX4_coming_20 : decode cX4_coming 20 = .ok (.goto 4, 3) := by decide +kernel
theorem dX4_coming_23 : decode cX4_coming 23 = .ok (.iconst (-1), 1) := by decide +kernel
theorem dX4_coming_24 : decode cX4_coming 24 = .ok (.ireturn, 1) := by decide +kernel
theorem dX4_take_0 : decode cX4_take 0 = .ok (.aload_n 0, 1) := by decide +kernel
theorem dX4_take_1 : decode cX4_take 1 = .ok (.invokevirtual 57, 3) := by decide +kernel
theorem dX4_take_4 : decode cX4_take 4 = .ok (.iload_n 1, 1) := by decide +kernel
theorem dX4_take_5 : decode cX4_take 5 = .ok (.if_icmp .eq 9, 3) := by decide +kernel
theorem dX4_take_8 : decode cX4_take 8 = .ok (.aload_n 0, 1) := by decide +kernel
theorem dX4_take_9 : decode cX4_take 9 = .ok (.iconst 1, 1) := by decide +kernel
theorem dX4_take_10 : decode cX4_take 10 = .ok (.invokevirtual 61, 3) := by decide +kernel
theorem dX4_take_13 : decode cX4_take 13 = .ok (.ireturn, 1) := by decide +kernel
theorem dX4_take_14 : decode cX4_take 14 = .ok (.aload_n 0, 1) := by decide +kernel
theorem dX4_take_15 : decode cX4_take 15 = .ok (.dup, 1) := by decide +kernel
theorem dX4_take_16 : decode cX4_take 16 = .ok (.getfield 19, 3) := by decide +kernel
theorem dX4_take_19 : decode cX4_take 19 = .ok (.iconst 1, 1) := by decide +kernel
theorem dX4_take_20 : decode cX4_take 20 = .ok (.iadd, 1) := by decide +kernel
theorem dX4_take_21 : decode cX4_take 21 = .ok (.putfield 19, 3) := by decide +kernel
theorem dX4_take_24 : decode cX4_take 24 = .ok (.iconst 1, 1) := by decide +kernel
theorem dX4_take_25 : decode cX4_take 25 = .ok (.ireturn, 1) := by decide +kernel
theorem dX4_takeNumber_0 : decode cX4_takeNumber 0 = .ok (.iconst 0, 1) := by decide +kernel
theorem dX4_takeNumber_1 : decode cX4_takeNumber 1 = .ok (.istore_n 3, 1) := by decide +kernel
theorem dX4_takeNumber_2 : decode cX4_takeNumber 2 = .ok (.iconst 0, 1) := by decide +kernel
theorem dX4_takeNumber_3 : decode cX4_takeNumber 3 = .ok (.istore 4, 2) := by decide +kernel
theorem dX4_takeNumber_5 : decode cX4_takeNumber 5 = .ok (.aload_n 0, 1) := by decide +kernel
theorem dX4_takeNumber_6 : decode cX4_takeNumber 6 = .ok (.getfield 19, 3) := by decide +kernel
theorem dX4_takeNumber_9 : decode cX4_takeNumber 9 = .ok (.istore 5, 2) := by decide +kernel
theorem dX4_takeNumber_11 : decode cX4_takeNumber 11 = .ok (.iload 5, 2) := by decide +kernel
theorem dX4_takeNumber_13 : decode cX4_takeNumber 13 = .ok (.aload_n 0, 1) := by decide +kernel
theorem dX4_takeNumber_14 : decode cX4_takeNumber 14 = .ok (.getfield 15, 3) := by decide +kernel
theorem dX4_takeNumber_17 : decode cX4_takeNumber 17 = .ok (.if_icmp .ge 54, 3) := by decide +kernel
theorem dX4_takeNumber_20 : decode cX4_takeNumber 20 = .ok (.aload_n 0, 1) := by decide +kernel
theorem dX4_takeNumber_21 : decode cX4_takeNumber 21 = .ok (.getfield 9, 3) := by decide +kernel
theorem dX4_takeNumber_24 : decode cX4_takeNumber 24 = .ok (.iload 5, 2) := by decide +kernel
theorem dX4_takeNumber_26 : decode cX4_takeNumber 26 = .ok (.iaload, 1) := by decide +kernel
theorem dX4_takeNumber_27 : decode cX4_takeNumber 27 = .ok (.bipush 48, 2) := by decide +kernel
theorem dX4_takeNumber_29 : decode cX4_takeNumber 29 = .ok (.if_icmp .lt 42, 3) := by decide +kernel
theorem dX4_takeNumber_32 : decode cX4_takeNumber 32 = .ok (.aload_n 0, 1) := by decide +kernel
theorem dX4_takeNumber_33 : decode cX4_takeNumber 33 = .ok (.getfield 9, 3) := by decide +kernel
theorem dX4_takeNumber_36 : decode cX4_takeNumber 36 = .ok (.iload 5, 2) := by decide +kernel
theorem dX4_takeNumber_38 : decode cX4_takeNumber 38 = .ok (.iaload, 1) := by decide +kernel
theorem dX4_takeNumber_39 : decode cX4_takeNumber 39 = .ok (.bipush 57, 2) := by decide +kernel
theorem dX4_takeNumber_41 : decode cX4_takeNumber 41 = .ok (.if_icmp .gt 30, 3) := by decide +kernel
theorem dX4_takeNumber_44 : decode cX4_takeNumber 44 = .ok (.bipush 10, 2) := by decide +kernel
theorem dX4_takeNumber_46 : decode cX4_takeNumber 46 = .ok (.iload 4, 2) := by decide +kernel
theorem dX4_takeNumber_48 : decode cX4_takeNumber 48 = .ok (.imul, 1) := by decide +kernel
theorem dX4_takeNumber_49 : decode cX4_takeNumber 49 = .ok (.aload_n 0, 1) := by decide +kernel
theorem dX4_takeNumber_50 : decode cX4_takeNumber 50 = .ok (.getfield 9, 3) := by decide +kernel
theorem dX4_takeNumber_53 : decode cX4_takeNumber 53 = .ok (.iload 5, 2) := by decide +kernel
theorem dX4_takeNumber_55 : decode cX4_takeNumber 55 = .ok (.iaload, 1) := by decide +kernel
theorem dX4_takeNumber_56 : decode cX4_takeNumber 56 = .ok (.iadd, 1) := by decide +kernel
theorem dX4_takeNumber_57 : decode cX4_takeNumber 57 = .ok (.bipush 48, 2) := by decide +kernel
theorem dX4_takeNumber_59 : decode cX4_takeNumber 59 = .ok (.isub, 1) := by decide +kernel
theorem dX4_takeNumber_60 : decode cX4_takeNumber 60 = .ok (.istore 4, 2) := by decide +kernel
theorem dX4_takeNumber_62 : decode cX4_takeNumber 62 = .ok (.iinc 3 1, 3) := by decide +kernel
theorem dX4_takeNumber_65 : decode cX4_takeNumber 65 = .ok (.iinc 5 1, 3) := by decide +kernel
theorem dX4_takeNumber_68 : decode cX4_takeNumber 68 = .ok (.goto (-57), 3) := by decide +kernel
theorem dX4_takeNumber_71 : decode cX4_takeNumber 71 = .ok (.iload_n 3, 1) := by decide +kernel
theorem dX4_takeNumber_72 : decode cX4_takeNumber 72 = .ok (.iconst 1, 1) := by decide +kernel
theorem dX4_takeNumber_73 : decode cX4_takeNumber 73 = .ok (.if_icmp .lt 8, 3) := by decide +kernel
theorem dX4_takeNumber_76 : decode cX4_takeNumber 76 = .ok (.iload_n 3, 1) := by decide +kernel
theorem dX4_takeNumber_77 : decode cX4_takeNumber 77 = .ok (.iconst 2, 1) := by decide +kernel
theorem dX4_takeNumber_78 : decode cX4_takeNumber 78 = .ok (.if_icmp .le 9, 3) := by decide +kernel
theorem dX4_takeNumber_81 : decode cX4_takeNumber 81 = .ok (.aload_n 0, 1) := by decide +kernel
theorem dX4_takeNumber_82 : decode cX4_takeNumber 82 = .ok (.iconst 1, 1) := by decide +kernel
theorem dX4_takeNumber_83 : decode cX4_takeNumber 83 = .ok (.invokevirtual 61, 3) := by decide +kernel
theorem dX4_takeNumber_86 : decode cX4_takeNumber 86 = .ok (.ireturn, 1) := by decide +kernel
theorem dX4_takeNumber_87 : decode cX4_takeNumber 87 = .ok (.iload 4, 2) := by decide +kernel
theorem dX4_takeNumber_89 : decode cX4_takeNumber 89 = .ok (.iload_n 1, 1) := by decide +kernel
theorem dX4_takeNumber_90 : decode cX4_takeNumber 90 = .ok (.if_icmp .lt 9, 3) := by decide +kernel
theorem dX4_takeNumber_93 : decode cX4_takeNumber 93 = .ok (.iload 4, 2) := by decide +kernel
theorem dX4_takeNumber_95 : decode cX4_takeNumber 95 = .ok (.iload_n 2, 1) := by decide +kernel
theorem dX4_takeNumber_96 : decode cX4_takeNumber 96 = .ok (.if_icmp .le 9, 3) := by decide +kernel
theorem dX4_takeNumber_99 : decode cX4_takeNumber 99 = .ok (.aload_n 0, 1) := by decide +kernel
theorem dX4_takeNumber_100 : decode cX4_takeNumber 100 = .ok (.iconst 2, 1) := by decide +kernel
theorem dX4_takeNumber_101 : decode cX4_takeNumber 101 = .ok (.invokevirtual 61, 3) := by decide +kernel
theorem dX4_takeNumber_104 : decode cX4_takeNumber 104 = .ok (.ireturn, 1) := by decide +kernel
theorem dX4_takeNumber_105 : decode cX4_takeNumber 105 = .ok (.aload_n 0, 1) := by decide +kernel
theorem dX4_takeNumber_106 : decode cX4_takeNumber 106 = .ok (.dup, 1) := by decide +kernel
theorem dX4_takeNumber_107 : decode cX4_takeNumber 107 = .ok (.getfield 19, 3) := by decide +kernel
theorem dX4_takeNumber_110 : decode cX4_takeNumber 110 = .ok (.iload_n 3, 1) := by decide +kernel
theorem dX4_takeNumber_111 : decode cX4_takeNumber 111 = .ok (.iadd, 1) := by decide +kernel
theorem dX4_takeNumber_112 : decode cX4_takeNumber 112 = .ok (.putfield 19, 3) := by decide +kernel
theorem dX4_takeNumber_115 : decode cX4_takeNumber 115 = .ok (.aload_n 0, 1) := by decide +kernel
theorem dX4_takeNumber_116 : decode cX4_takeNumber 116 = .ok (.iload 4, 2) := by decide +kernel
theorem dX4_takeNumber_118 : decode cX4_takeNumber 118 = .ok (.putfield 48, 3) := by decide +kernel
theorem dX4_takeNumber_121 : decode cX4_takeNumber 121 = .ok (.iconst 1, 1) := by decide +kernel
theorem dX4_takeNumber_122 : decode cX4_takeNumber 122 = .ok (.ireturn, 1) := by decide +kernel
theorem dX4_fail_0 : decode cX4_fail 0 = .ok (.aload_n 0, 1) := by decide +kernel
theorem dX4_fail_1 : decode cX4_fail 1 = .ok (.iload_n 1, 1) := by decide +kernel
theorem dX4_fail_2 : decode cX4_fail 2 = .ok (.putfield 22, 3) := by decide +kernel
theorem dX4_fail_5 : decode cX4_fail 5 = .ok (.iconst 0, 1) := by decide +kernel
theorem dX4_fail_6 : decode cX4_fail 6 = .ok (.ireturn, 1) := by decide +kernel
theorem dX5_init_0 : decode cX5_init 0 = .ok (.aload_n 0, 1) := by decide +kernel
theorem dX5_init_1 : decode cX5_init 1 = .ok (.invokespecial 3, 3) := by decide +kernel
theorem dX5_init_4 : decode cX5_init 4 = .ok (.aload_n 0, 1) := by decide +kernel
theorem dX5_init_5 : decode cX5_init 5 = .ok (.bipush 12, 2) := by decide +kernel
theorem dX5_init_7 : decode cX5_init 7 = .ok (.newarray .int, 2) := by decide +kernel
theorem dX5_init_9 : decode cX5_init 9 = .ok (.putfield 9, 3) := by decide +kernel
theorem dX5_init_12 : decode cX5_init 12 = .ok (.aload_n 0, 1) := by decide +kernel
theorem dX5_init_13 : decode cX5_init 13 = .ok (.bipush 6, 2) := by decide +kernel
theorem dX5_init_15 : decode cX5_init 15 = .ok (.newarray .int, 2) := by decide +kernel
theorem dX5_init_17 : decode cX5_init 17 = .ok (.putfield 15, 3) := by decide +kernel
theorem dX5_init_20 : decode cX5_init 20 = .ok (.aload_n 0, 1) := by decide +kernel
theorem dX5_init_21 : decode cX5_init 21 = .ok (.bipush 6, 2) := by decide +kernel
theorem dX5_init_23 : decode cX5_init 23 = .ok (.newarray .int, 2) := by decide +kernel
theorem dX5_init_25 : decode cX5_init 25 = .ok (.putfield 18, 3) := by decide +kernel
theorem dX5_init_28 : decode cX5_init 28 = .ok (.aload_n 0, 1) := by decide +kernel
theorem dX5_init_29 : decode cX5_init 29 = .ok (.bipush 6, 2) := by decide +kernel
theorem dX5_init_31 : decode cX5_init 31 = .ok (.newarray .int, 2) := by decide +kernel
theorem dX5_init_33 : decode cX5_init 33 = .ok (.putfield 21, 3) := by decide +kernel
theorem dX5_init_36 : decode cX5_init 36 = .ok (.aload_n 0, 1) := by decide +kernel
theorem dX5_init_37 : decode cX5_init 37 = .ok (.bipush 6, 2) := by decide +kernel
theorem dX5_init_39 : decode cX5_init 39 = .ok (.newarray .int, 2) := by decide +kernel
theorem dX5_init_41 : decode cX5_init 41 = .ok (.putfield 24, 3) := by decide +kernel
theorem dX5_init_44 : decode cX5_init 44 = .ok (.return_, 1) := by decide +kernel
theorem dX5_takeFrom_0 : decode cX5_takeFrom 0 = .ok (.aload_n 0, 1) := by decide +kernel
theorem dX5_takeFrom_1 : decode cX5_takeFrom 1 = .ok (.aload_n 1, 1) := by decide +kernel
theorem dX5_takeFrom_2 : decode cX5_takeFrom 2 = .ok (.getfield 27, 3) := by decide +kernel
theorem dX5_takeFrom_5 : decode cX5_takeFrom 5 = .ok (.putfield 27, 3) := by decide +kernel
theorem dX5_takeFrom_8 : decode cX5_takeFrom 8 = .ok (.aload_n 0, 1) := by decide +kernel
theorem dX5_takeFrom_9 : decode cX5_takeFrom 9 = .ok (.aload_n 1, 1) := by decide +kernel
theorem dX5_takeFrom_10 : decode cX5_takeFrom 10 = .ok (.getfield 31, 3) := by decide +kernel
theorem dX5_takeFrom_13 : decode cX5_takeFrom 13 = .ok (.putfield 31, 3) := by decide +kernel
theorem dX5_takeFrom_16 : decode cX5_takeFrom 16 = .ok (.aload_n 0, 1) := by decide +kernel
theorem dX5_takeFrom_17 : decode cX5_takeFrom 17 = .ok (.aload_n 1, 1) := by decide +kernel
theorem dX5_takeFrom_18 : decode cX5_takeFrom 18 = .ok (.getfield 34, 3) := by decide +kernel
theorem dX5_takeFrom_21 : decode cX5_takeFrom 21 = .ok (.putfield 34, 3) := by decide +kernel
theorem dX5_takeFrom_24 : decode cX5_takeFrom 24 = .ok (.aload_n 0, 1) := by decide +kernel
theorem dX5_takeFrom_25 : decode cX5_takeFrom 25 = .ok (.aload_n 1, 1) := by decide +kernel
theorem dX5_takeFrom_26 : decode cX5_takeFrom 26 = .ok (.getfield 37, 3) := by decide +kernel
theorem dX5_takeFrom_29 : decode cX5_takeFrom 29 = .ok (.putfield 37, 3) := by decide +kernel
theorem dX5_takeFrom_32 : decode cX5_takeFrom 32 = .ok (.aload_n 0, 1) := by decide +kernel
theorem dX5_takeFrom_33 : decode cX5_takeFrom 33 = .ok (.aload_n 1, 1) := by decide +kernel
theorem dX5_takeFrom_34 : decode cX5_takeFrom 34 = .ok (.getfield 40, 3) := by decide +kernel
theorem dX5_takeFrom_37 : decode cX5_takeFrom 37 = .ok (.putfield 40, 3) := by decide +kernel
theorem dX5_takeFrom_40 : decode cX5_takeFrom 40 = .ok (.aload_n 0, 1) := by decide +kernel
theorem dX5_takeFrom_41 : decode cX5_takeFrom 41 = .ok (.aload_n 1, 1) := by decide +kernel
theorem dX5_takeFrom_42 : decode cX5_takeFrom 42 = .ok (.getfield 43, 3) := by decide +kernel
theorem dX5_takeFrom_45 : decode cX5_takeFrom 45 = .ok (.putfield 43, 3) := by decide +kernel
theorem dX5_takeFrom_48 : decode cX5_takeFrom 48 = .ok (.aload_n 1, 1) := by decide +kernel
theorem dX5_takeFrom_49 : decode cX5_takeFrom 49 = .ok (.getfield 9, 3) := by decide +kernel
theorem dX5_takeFrom_52 : decode cX5_takeFrom 52 = .ok (.iconst 0, 1) := by decide +kernel
theorem dX5_takeFrom_53 : decode cX5_takeFrom 53 = .ok (.aload_n 0, 1) := by decide +kernel
theorem dX5_takeFrom_54 : decode cX5_takeFrom 54 = .ok (.getfield 9, 3) := by decide +kernel
theorem dX5_takeFrom_57 : decode cX5_takeFrom 57 = .ok (.iconst 0, 1) := by decide +kernel
theorem dX5_takeFrom_58 : decode cX5_takeFrom 58 = .ok (.bipush 12, 2) := by decide +kernel
theorem dX5_takeFrom_60 : decode cX5_takeFrom 60 = .ok (.invokestatic 46, 3) := by decide +kernel
theorem dX5_takeFrom_63 : decode cX5_takeFrom 63 = .ok (.aload_n 1, 1) := by decide +kernel
theorem dX5_takeFrom_64 : decode cX5_takeFrom 64 = .ok (.getfield 15, 3) := by decide +kernel
theorem dX5_takeFrom_67 : decode cX5_takeFrom 67 = .ok (.iconst 0, 1) := by decide +kernel
theorem dX5_takeFrom_68 : decode cX5_takeFrom 68 = .ok (.aload_n 0, 1) := by decide +kernel
theorem dX5_takeFrom_69 : decode cX5_takeFrom 69 = .ok (.getfield 15, 3) := by decide +kernel
theorem dX5_takeFrom_72 : decode cX5_takeFrom 72 = .ok (.iconst 0, 1) := by decide +kernel
theorem dX5_takeFrom_73 : decode cX5_takeFrom 73 = .ok (.bipush 6, 2) := by decide +kernel
theorem dX5_takeFrom_75 : decode cX5_takeFrom 75 = .ok (.invokestatic 46, 3) := by decide +kernel
theorem dX5_takeFrom_78 : decode cX5_takeFrom 78 = .ok (.aload_n 1, 1) := by decide +kernel
theorem dX5_takeFrom_79 : decode cX5_takeFrom 79 = .ok (.getfield 18, 3) := by decide +kernel
theorem dX5_takeFrom_82 : decode cX5_takeFrom 82 = .ok (.iconst 0, 1) := by decide +kernel
theorem dX5_takeFrom_83 : decode cX5_takeFrom 83 = .ok (.aload_n 0, 1) := by decide +kernel
theorem dX5_takeFrom_84 : decode cX5_takeFrom 84 = .ok (.getfield 18, 3) := by decide +kernel
theorem dX5_takeFrom_87 : decode cX5_takeFrom 87 = .ok (.iconst 0, 1) := by decide +kernel
theorem dX5_takeFrom_88 : decode cX5_takeFrom 88 = .ok (.bipush 6, 2) := by decide +kernel
theorem dX5_takeFrom_90 : decode cX5_takeFrom 90 = .ok (.invokestatic 46, 3) := by decide +kernel
theorem dX5_takeFrom_93 : decode cX5_takeFrom 93 = .ok (.aload_n 1, 1) := by decide +kernel
theorem dX5_takeFrom_94 : decode cX5_takeFrom 94 = .ok (.getfield 21, 3) := by decide +kernel
theorem dX5_takeFrom_97 : decode cX5_takeFrom 97 = .ok (.iconst 0, 1) := by decide +kernel
theorem dX5_takeFrom_98 : decode cX5_takeFrom 98 = .ok (.aload_n 0, 1) := by decide +kernel
theorem dX5_takeFrom_99 : decode cX5_takeFrom 99 = .ok (.getfield 21, 3) := by decide +kernel
theorem dX5_takeFrom_102 : decode cX5_takeFrom 102 = .ok (.iconst 0, 1) := by decide +kernel
theorem dX5_takeFrom_103 : decode cX5_takeFrom 103 = .ok (.bipush 6, 2) := by decide +kernel
theorem dX5_takeFrom_105 : decode cX5_takeFrom 105 = .ok (.invokestatic 46, 3) := by decide +kernel
theorem dX5_takeFrom_108 : decode cX5_takeFrom 108 = .ok (.aload_n 1, 1) := by decide +kernel
theorem dX5_takeFrom_109 : decode cX5_takeFrom 109 = .ok (.getfield 24, 3) := by decide +kernel
theorem dX5_takeFrom_112 : decode cX5_takeFrom 112 = .ok (.iconst 0, 1) := by decide +kernel
theorem dX5_takeFrom_113 : decode cX5_takeFrom 113 = .ok (.aload_n 0, 1) := by decide +kernel
theorem dX5_takeFrom_114 : decode cX5_takeFrom 114 = .ok (.getfield 24, 3) := by decide +kernel
theorem dX5_takeFrom_117 : decode cX5_takeFrom 117 = .ok (.iconst 0, 1) := by decide +kernel
theorem dX5_takeFrom_118 : decode cX5_takeFrom 118 = .ok (.bipush 6, 2) := by decide +kernel
theorem dX5_takeFrom_120 : decode cX5_takeFrom 120 = .ok (.invokestatic 46, 3) := by decide +kernel
theorem dX5_takeFrom_123 : decode cX5_takeFrom 123 = .ok (.return_, 1) := by decide +kernel
theorem dX5_clear_0 : decode cX5_clear 0 = .ok (.aload_n 0, 1) := by decide +kernel
theorem dX5_clear_1 : decode cX5_clear 1 = .ok (.iconst 0, 1) := by decide +kernel
theorem dX5_clear_2 : decode cX5_clear 2 = .ok (.putfield 27, 3) := by decide +kernel
theorem dX5_clear_5 : decode cX5_clear 5 = .ok (.aload_n 0, 1) := by decide +kernel
theorem dX5_clear_6 : decode cX5_clear 6 = .ok (.iconst 0, 1) := by decide +kernel
theorem dX5_clear_7 : decode cX5_clear 7 = .ok (.putfield 31, 3) := by decide +kernel
theorem dX5_clear_10 : decode cX5_clear 10 = .ok (.aload_n 0, 1) := by decide +kernel
theorem dX5_clear_11 : decode cX5_clear 11 = .ok (.iconst 0, 1) := by decide +kernel
theorem dX5_clear_12 : decode cX5_clear 12 = .ok (.putfield 34, 3) := by decide +kernel
theorem dX5_clear_15 : decode cX5_clear 15 = .ok (.aload_n 0, 1) := by decide +kernel
theorem dX5_clear_16 : decode cX5_clear 16 = .ok (.iconst 0, 1) := by decide +kernel
theorem dX5_clear_17 : decode cX5_clear 17 = .ok (.putfield 37, 3) := by decide +kernel
theorem dX5_clear_20 : decode cX5_clear 20 = .ok (.aload_n 0, 1) := by decide +kernel
theorem dX5_clear_21 : decode cX5_clear 21 = .ok (.iconst 0, 1) := by decide +kernel
theorem dX5_clear_22 : decode cX5_clear 22 = .ok (.putfield 40, 3) := by decide +kernel
theorem dX5_clear_25 : decode cX5_clear 25 = .ok (.aload_n 0, 1) := by decide +kernel
theorem dX5_clear_26 : decode cX5_clear 26 = .ok (.iconst 0, 1) := by decide +kernel
theorem dX5_clear_27 : decode cX5_clear 27 = .ok (.putfield 43, 3) := by decide +kernel
theorem dX5_clear_30 : decode cX5_clear 30 = .ok (.aload_n 0, 1) := by decide +kernel
theorem dX5_clear_31 : decode cX5_clear 31 = .ok (.getfield 21, 3) := by decide +kernel
theorem dX5_clear_34 : decode cX5_clear 34 = .ok (.iconst 0, 1) := by decide +kernel
theorem dX5_clear_35 : decode cX5_clear 35 = .ok (.invokestatic 52, 3) := by decide +kernel
theorem dX5_clear_38 : decode cX5_clear 38 = .ok (.aload_n 0, 1) := by decide +kernel
theorem dX5_clear_39 : decode cX5_clear 39 = .ok (.getfield 24, 3) := by decide +kernel
theorem dX5_clear_42 : decode cX5_clear 42 = .ok (.iconst 0, 1) := by decide +kernel
theorem dX5_clear_43 : decode cX5_clear 43 = .ok (.invokestatic 52, 3) := by decide +kernel
theorem dX5_clear_46 : decode cX5_clear 46 = .ok (.return_, 1) := by decide +kernel
theorem dX5_turn_0 : decode cX5_turn 0 = .ok (.iconst 0, 1) := by decide +kernel
theorem dX5_turn_1 : decode cX5_turn 1 = .ok (.istore_n 1, 1) := by decide +kernel
theorem dX5_turn_2 : decode cX5_turn 2 = .ok (.iload_n 1, 1) := by decide +kernel
theorem dX5_turn_3 : decode cX5_turn 3 = .ok (.aload_n 0, 1) := by decide +kernel
theorem dX5_turn_4 : decode cX5_turn 4 = .ok (.getfield 31, 3) := by decide +kernel
theorem dX5_turn_7 : decode cX5_turn 7 = .ok (.if_icmp .ge 39, 3) := by decide +kernel
theorem dX5_turn_10 : decode cX5_turn 10 = .ok (.aload_n 0, 1) := by decide +kernel
theorem dX5_turn_11 : decode cX5_turn 11 = .ok (.getfield 21, 3) := by decide +kernel
theorem dX5_turn_14 : decode cX5_turn 14 = .ok (.iload_n 1, 1) := by decide +kernel
theorem dX5_turn_15 : decode cX5_turn 15 = .ok (.iaload, 1) := by decide +kernel
theorem dX5_turn_16 : decode cX5_turn 16 = .ok (.ifCond .le 24, 3) := by decide +kernel
theorem dX5_turn_19 : decode cX5_turn 19 = .ok (.aload_n 0, 1) := by decide +kernel
theorem dX5_turn_20 : decode cX5_turn 20 = .ok (.getfield 21, 3) := by decide +kernel
theorem dX5_turn_23 : decode cX5_turn 23 = .ok (.iload_n 1, 1) := by decide +kernel
theorem dX5_turn_24 : decode cX5_turn 24 = .ok (.aload_n 0, 1) := by decide +kernel
theorem dX5_turn_25 : decode cX5_turn 25 = .ok (.getfield 15, 3) := by decide +kernel
theorem dX5_turn_28 : decode cX5_turn 28 = .ok (.iload_n 1, 1) := by decide +kernel
theorem dX5_turn_29 : decode cX5_turn 29 = .ok (.iaload, 1) := by decide +kernel
theorem dX5_turn_30 : decode cX5_turn 30 = .ok (.aload_n 0, 1) := by decide +kernel
theorem dX5_turn_31 : decode cX5_turn 31 = .ok (.getfield 21, 3) := by decide +kernel
theorem dX5_turn_34 : decode cX5_turn 34 = .ok (.iload_n 1, 1) := by decide +kernel
theorem dX5_turn_35 : decode cX5_turn 35 = .ok (.iaload, 1) := by decide +kernel
theorem dX5_turn_36 : decode cX5_turn 36 = .ok (.invokestatic 58, 3) := by decide +kernel
theorem dX5_turn_39 : decode cX5_turn 39 = .ok (.iastore, 1) := by decide +kernel
theorem dX5_turn_40 : decode cX5_turn 40 = .ok (.iinc 1 1, 3) := by decide +kernel
theorem dX5_turn_43 : decode cX5_turn 43 = .ok (.goto (-41), 3) := by decide +kernel
theorem dX5_turn_46 : decode cX5_turn 46 = .ok (.aload_n 0, 1) := by decide +kernel
theorem dX5_turn_47 : decode cX5_turn 47 = .ok (.dup, 1) := by decide +kernel
theorem dX5_turn_48 : decode cX5_turn 48 = .ok (.getfield 40, 3) := by decide +kernel
theorem dX5_turn_51 : decode cX5_turn 51 = .ok (.iconst 1, 1) := by decide +kernel
theorem dX5_turn_52 : decode cX5_turn 52 = .ok (.iadd, 1) := by decide +kernel
theorem dX5_turn_53 : decode cX5_turn 53 = .ok (.putfield 40, 3) := by decide +kernel
theorem dX5_turn_56 : decode cX5_turn 56 = .ok (.aload_n 0, 1) := by decide +kernel
theorem dX5_turn_57 : decode cX5_turn 57 = .ok (.getfield 34, 3) := by decide +kernel
theorem dX5_turn_60 : decode cX5_turn 60 = .ok (.ifCond .gt 5, 3) := by decide +kernel
theorem dX5_turn_63 : decode cX5_turn 63 = .ok (.iconst 0, 1) := by decide +kernel
theorem dX5_turn_64 : decode cX5_turn 64 = .ok (.ireturn, 1) := by decide +kernel
theorem dX5_turn_65 : decode cX5_turn 65 = .ok (.aload_n 0, 1) := by decide +kernel
theorem dX5_turn_66 : decode cX5_turn 66 = .ok (.aload_n 0, 1) := by decide +kernel
theorem dX5_turn_67 : decode cX5_turn 67 = .ok (.invokevirtual 62, 3) := by decide +kernel
theorem dX5_turn_70 : decode cX5_turn 70 = .ok (.putfield 37, 3) := by decide +kernel
theorem dX5_turn_73 : decode cX5_turn 73 = .ok (.aload_n 0, 1) := by decide +kernel
theorem dX5_turn_74 : decode cX5_turn 74 = .ok (.dup, 1) := by decide +kernel
theorem dX5_turn_75 : decode cX5_turn 75 = .ok (.getfield 34, 3) := by decide +kernel
theorem dX5_turn_78 : decode cX5_turn 78 = .ok (.iconst 1, 1) := by decide +kernel
theorem dX5_turn_79 : decode cX5_turn 79 = .ok (.isub, 1) := by decide +kernel
theorem dX5_turn_80 : decode cX5_turn 80 = .ok (.putfield 34, 3) := by decide +kernel
theorem dX5_turn_83 : decode cX5_turn 83 = .ok (.aload_n 0, 1) := by decide +kernel
theorem dX5_turn_84 : decode cX5_turn 84 = .ok (.getfield 34, 3) := by decide +kernel
theorem dX5_turn_87 : decode cX5_turn 87 = .ok (.istore_n 1, 1) := by decide +kernel
theorem dX5_turn_88 : decode cX5_turn 88 = .ok (.aload_n 0, 1) := by decide +kernel
theorem dX5_turn_89 : decode cX5_turn 89 = .ok (.getfield 9, 3) := by decide +kernel
theorem dX5_turn_92 : decode cX5_turn 92 = .ok (.aload_n 0, 1) := by decide +kernel
theorem dX5_turn_93 : decode cX5_turn 93 = .ok (.getfield 37, 3) := by decide +kernel
theorem dX5_turn_96 : decode cX5_turn 96 = .ok (.iaload, 1) := by decide +kernel
theorem dX5_turn_97 : decode cX5_turn 97 = .ok (.aload_n 0, 1) := by decide +kernel
theorem dX5_turn_98 : decode cX5_turn 98 = .ok (.getfield 43, 3) := by decide +kernel
theorem dX5_turn_101 : decode cX5_turn 101 = .ok (.iconst (-1), 1) := by decide +kernel
theorem dX5_turn_102 : decode cX5_turn 102 = .ok (.ixor, 1) := by decide +kernel
theorem dX5_turn_103 : decode cX5_turn 103 = .ok (.iand, 1) := by decide +kernel
theorem dX5_turn_104 : decode cX5_turn 104 = .ok (.istore_n 2, 1) := by decide +kernel
theorem dX5_turn_105 : decode cX5_turn 105 = .ok (.iconst 0, 1) := by decide +kernel
theorem dX5_turn_106 : decode cX5_turn 106 = .ok (.istore_n 3, 1) := by decide +kernel
theorem dX5_turn_107 : decode cX5_turn 107 = .ok (.iload_n 3, 1) := by decide +kernel
theorem dX5_turn_108 : decode cX5_turn 108 = .ok (.aload_n 0, 1) := by decide +kernel
theorem dX5_turn_109 : decode cX5_turn 109 = .ok (.getfield 31, 3) := by decide +kernel
theorem dX5_turn_112 : decode cX5_turn 112 = .ok (.if_icmp .ge 30, 3) := by decide +kernel
theorem dX5_turn_115 : decode cX5_turn 115 = .ok (.aload_n 0, 1) := by decide +kernel
theorem dX5_turn_116 : decode cX5_turn 116 = .ok (.getfield 34, 3) := by decide +kernel
theorem dX5_turn_119 : decode cX5_turn 119 = .ok (.ifCond .le 23, 3) := by decide +kernel
theorem dX5_turn_122 : decode cX5_turn 122 = .ok (.iload_n 2, 1) := by decide +kernel
theorem dX5_turn_123 : decode cX5_turn 123 = .ok (.iload_n 3, 1) := by decide +kernel
theorem dX5_turn_124 : decode cX5_turn 124 = .ok (.ishr, 1) := by decide +kernel
theorem dX5_turn_125 : decode cX5_turn 125 = .ok (.iconst 1, 1) := by decide +kernel
theorem dX5_turn_126 : decode cX5_turn 126 = .ok (.iand, 1) := by decide +kernel
theorem dX5_turn_127 : decode cX5_turn 127 = .ok (.iconst 1, 1) := by decide +kernel
theorem dX5_turn_128 : decode cX5_turn 128 = .ok (.if_icmp .ne 8, 3) := by decide +kernel
theorem dX5_turn_131 : decode cX5_turn 131 = .ok (.aload_n 0, 1) := by decide +kernel
theorem dX5_turn_132 : decode cX5_turn 132 = .ok (.iload_n 3, 1) := by decide +kernel
theorem dX5_turn_133 : decode cX5_turn 133 = .ok (.invokevirtual 66, 3) := by decide +kernel
theorem dX5_turn_136 : decode cX5_turn 136 = .ok (.iinc 3 1, 3) := by decide +kernel
theorem dX5_turn_139 : decode cX5_turn 139 = .ok (.goto (-32), 3) := by decide +kernel
theorem dX5_turn_142 : decode cX5_turn 142 = .ok (.iload_n 1, 1) := by decide +kernel
theorem dX5_turn_143 : decode cX5_turn 143 = .ok (.aload_n 0, 1) := by decide +kernel
theorem dX5_turn_144 : decode cX5_turn 144 = .ok (.getfield 34, 3) := by decide +kernel
theorem dX5_turn_147 : decode cX5_turn 147 = .ok (.isub, 1) := by decide +kernel
theorem dX5_turn_148 : decode cX5_turn 148 = .ok (.ireturn, 1) := by decide +kernel
theorem dX5_faded_0 : decode cX5_faded 0 = .ok (.iload_n 0, 1) := by decide +kernel
theorem dX5_faded_1 : decode cX5_faded 1 = .ok (.tableswitch 45 2 5 #[31, 45, 33, 41], 31) := by decide +kernel
theorem dX5_faded_32 : decode cX5_faded 32 = .ok (.iconst 0, 1) := by decide +kernel
theorem dX5_faded_33 : decode cX5_faded 33 = .ok (.ireturn, 1) := by decide +kernel
theorem dX5_faded_34 : decode cX5_faded 34 = .ok (.iconst 0, 1) := by decide +kernel
theorem dX5_faded_35 : decode cX5_faded 35 = .ok (.iload_n 1, 1) := by decide +kernel
theorem dX5_faded_36 : decode cX5_faded 36 = .ok (.iconst 1, 1) := by decide +kernel
theorem dX5_faded_37 : decode cX5_faded 37 = .ok (.isub, 1) := by decide +kernel
theorem dX5_faded_38 : decode cX5_faded 38 = .ok (.invokestatic 70, 3) := by decide +kernel
theorem dX5_faded_41 : decode cX5_faded 41 = .ok (.ireturn, 1) := by decide +kernel
theorem dX5_faded_42 : decode cX5_faded 42 = .ok (.iload_n 1, 1) := by decide +kernel
theorem dX5_faded_43 : decode cX5_faded 43 = .ok (.iconst 2, 1) := by decide +kernel
theorem dX5_faded_44 : decode cX5_faded 44 = .ok (.idiv, 1) := by decide +kernel
theorem dX5_faded_45 : decode cX5_faded 45 = .ok (.ireturn, 1) := by decide +kernel
theorem dX5_faded_46 : decode cX5_faded 46 = .ok (.iconst 0, 1) := by decide +kernel
theorem dX5_faded_47 : decode cX5_faded 47 = .ok (.iload_n 1, 1) := by decide +kernel
theorem dX5_faded_48 : decode cX5_faded 48 = .ok (.iconst 2, 1) := by decide +kernel
theorem dX5_faded_49 : decode cX5_faded 49 = .ok (.isub, 1) := by decide +kernel
theorem dX5_faded_50 : decode cX5_faded 50 = .ok (.invokestatic 70, 3) := by decide +kernel
theorem dX5_faded_53 : decode cX5_faded 53 = .ok (.ireturn, 1) := by decide +kernel
theorem dX5_pluck_0 : decode cX5_pluck 0 = .ok (.aload_n 0, 1) := by decide +kernel
theorem dX5_pluck_1 : decode cX5_pluck 1 = .ok (.dup, 1) := by decide +kernel
theorem dX5_pluck_2 : decode cX5_pluck 2 = .ok (.getfield 34, 3) := by decide +kernel
theorem dX5_pluck_5 : decode cX5_pluck 5 = .ok (.iconst 1, 1) := by decide +kernel
theorem dX5_pluck_6 : decode cX5_pluck 6 = .ok (.isub, 1) := by decide +kernel
theorem dX5_pluck_7 : decode cX5_pluck 7 = .ok (.putfield 34, 3) := by decide +kernel
theorem dX5_pluck_10 : decode cX5_pluck 10 = .ok (.aload_n 0, 1) := by decide +kernel
theorem dX5_pluck_11 : decode cX5_pluck 11 = .ok (.getfield 24, 3) := by decide +kernel
theorem dX5_pluck_14 : decode cX5_pluck 14 = .ok (.iload_n 1, 1) := by decide +kernel
theorem dX5_pluck_15 : decode cX5_pluck 15 = .ok (.bipush 99, 2) := by decide +kernel
theorem dX5_pluck_17 : decode cX5_pluck 17 = .ok (.aload_n 0, 1) := by decide +kernel
theorem dX5_pluck_18 : decode cX5_pluck 18 = .ok (.getfield 24, 3) := by decide +kernel
theorem dX5_pluck_21 : decode cX5_pluck 21 = .ok (.iload_n 1, 1) := by decide +kernel
theorem dX5_pluck_22 : decode cX5_pluck 22 = .ok (.iaload, 1) := by decide +kernel
theorem dX5_pluck_23 : decode cX5_pluck 23 = .ok (.iconst 1, 1) := by decide +kernel
theorem dX5_pluck_24 : decode cX5_pluck 24 = .ok (.iadd, 1) := by decide +kernel
theorem dX5_pluck_25 : decode cX5_pluck 25 = .ok (.invokestatic 75, 3) := by decide +kernel
theorem dX5_pluck_28 : decode cX5_pluck 28 = .ok (.iastore, 1) := by decide +kernel
theorem dX5_pluck_29 : decode cX5_pluck 29 = .ok (.aload_n 0, 1) := by decide +kernel
theorem dX5_pluck_30 : decode cX5_pluck 30 = .ok (.getfield 15, 3) := by decide +kernel
theorem dX5_pluck_33 : decode cX5_pluck 33 = .ok (.iload_n 1, 1) := by decide +kernel
theorem dX5_pluck_34 : decode cX5_pluck 34 = .ok (.iaload, 1) := by decide +kernel
theorem dX5_pluck_35 : decode cX5_pluck 35 = .ok (.tableswitch 142 2 5 #[29, 112, 44, 67], 29) := by decide +kernel
theorem dX5_pluck_64 : decode cX5_pluck 64 = .ok (.aload_n 0, 1) := by decide +kernel
theorem dX5_pluck_65 : decode cX5_pluck 65 = .ok (.getfield 21, 3) := by decide +kernel
theorem dX5_pluck_68 : decode cX5_pluck 68 = .ok (.iload_n 1, 1) := by decide +kernel
theorem dX5_pluck_69 : decode cX5_pluck 69 = .ok (.aload_n 0, 1) := by decide +kernel
theorem dX5_pluck_70 : decode cX5_pluck 70 = .ok (.getfield 18, 3) := by decide +kernel
theorem dX5_pluck_73 : decode cX5_pluck 73 = .ok (.iload_n 1, 1) := by decide +kernel
theorem dX5_pluck_74 : decode cX5_pluck 74 = .ok (.iaload, 1) := by decide +kernel
theorem dX5_pluck_75 : decode cX5_pluck 75 = .ok (.iastore, 1) := by decide +kernel
theorem dX5_pluck_76 : decode cX5_pluck 76 = .ok (.goto 115, 3) := by decide +kernel
theorem dX5_pluck_79 : decode cX5_pluck 79 = .ok (.aload_n 0, 1) := by decide +kernel
theorem dX5_pluck_80 : decode cX5_pluck 80 = .ok (.getfield 21, 3) := by decide +kernel
theorem dX5_pluck_83 : decode cX5_pluck 83 = .ok (.iload_n 1, 1) := by decide +kernel
theorem dX5_pluck_84 : decode cX5_pluck 84 = .ok (.aload_n 0, 1) := by decide +kernel
theorem dX5_pluck_85 : decode cX5_pluck 85 = .ok (.getfield 18, 3) := by decide +kernel
theorem dX5_pluck_88 : decode cX5_pluck 88 = .ok (.iload_n 1, 1) := by decide +kernel
theorem dX5_pluck_89 : decode cX5_pluck 89 = .ok (.iaload, 1) := by decide +kernel
theorem dX5_pluck_90 : decode cX5_pluck 90 = .ok (.aload_n 0, 1) := by decide +kernel
theorem dX5_pluck_91 : decode cX5_pluck 91 = .ok (.getfield 34, 3) := by decide +kernel
theorem dX5_pluck_94 : decode cX5_pluck 94 = .ok (.bipush 10, 2) := by decide +kernel
theorem dX5_pluck_96 : decode cX5_pluck 96 = .ok (.idiv, 1) := by decide +kernel
theorem dX5_pluck_97 : decode cX5_pluck 97 = .ok (.iadd, 1) := by decide +kernel
theorem dX5_pluck_98 : decode cX5_pluck 98 = .ok (.iastore, 1) := by decide +kernel
end
section
theorem dX5_pluck_99 : decode cX5_pluck 99 = .ok (.goto 92, 3) := by decide +kernel
theorem dX5_pluck_102 : decode cX5_pluck 102 = .ok (.aload_n 0, 1) := by decide +kernel
theorem dX5_pluck_103 : decode cX5_pluck 103 = .ok (.getfield 21, 3) := by decide +kernel
theorem dX5_pluck_106 : decode cX5_pluck 106 = .ok (.iload_n 1, 1) := by decide +kernel
theorem dX5_pluck_107 : decode cX5_pluck 107 = .ok (.aload_n 0, 1) := by decide +kernel
theorem dX5_pluck_108 : decode cX5_pluck 108 = .ok (.getfield 18, 3) := by decide +kernel
theorem dX5_pluck_111 : decode cX5_pluck 111 = .ok (.iload_n 1, 1) := by decide +kernel
theorem dX5_pluck_112 : decode cX5_pluck 112 = .ok (.iaload, 1) := by decide +kernel
theorem dX5_pluck_113 : decode cX5_pluck 113 = .ok (.aload_n 0, 1) := by decide +kernel
theorem dX5_pluck_114 : decode cX5_pluck 114 = .ok (.getfield 34, 3) := by decide +kernel
theorem dX5_pluck_117 : decode cX5_pluck 117 = .ok (.bipush 10, 2) := by decide +kernel
theorem dX5_pluck_119 : decode cX5_pluck 119 = .ok (.idiv, 1) := by decide +kernel
theorem dX5_pluck_120 : decode cX5_pluck 120 = .ok (.iadd, 1) := by decide +kernel
theorem dX5_pluck_121 : decode cX5_pluck 121 = .ok (.iastore, 1) := by decide +kernel
theorem dX5_pluck_122 : decode cX5_pluck 122 = .ok (.aload_n 0, 1) := by decide +kernel
theorem dX5_pluck_123 : decode cX5_pluck 123 = .ok (.getfield 24, 3) := by decide +kernel
theorem dX5_pluck_126 : decode cX5_pluck 126 = .ok (.iload_n 1, 1) := by decide +kernel
theorem dX5_pluck_127 : decode cX5_pluck 127 = .ok (.iaload, 1) := by decide +kernel
theorem dX5_pluck_128 : decode cX5_pluck 128 = .ok (.iconst 3, 1) := by decide +kernel
theorem dX5_pluck_129 : decode cX5_pluck 129 = .ok (.if_icmp .lt 62, 3) := by decide +kernel
theorem dX5_pluck_132 : decode cX5_pluck 132 = .ok (.aload_n 0, 1) := by decide +kernel
theorem dX5_pluck_133 : decode cX5_pluck 133 = .ok (.dup, 1) := by decide +kernel
theorem dX5_pluck_134 : decode cX5_pluck 134 = .ok (.getfield 43, 3) := by decide +kernel
theorem dX5_pluck_137 : decode cX5_pluck 137 = .ok (.iconst 1, 1) := by decide +kernel
theorem dX5_pluck_138 : decode cX5_pluck 138 = .ok (.iload_n 1, 1) := by decide +kernel
theorem dX5_pluck_139 : decode cX5_pluck 139 = .ok (.ishl, 1) := by decide +kernel
theorem dX5_pluck_140 : decode cX5_pluck 140 = .ok (.ior, 1) := by decide +kernel
theorem dX5_pluck_141 : decode cX5_pluck 141 = .ok (.putfield 43, 3) := by decide +kernel
theorem dX5_pluck_144 : decode cX5_pluck 144 = .ok (.goto 47, 3) := by decide +kernel
theorem dX5_pluck_147 : decode cX5_pluck 147 = .ok (.aload_n 0, 1) := by decide +kernel
theorem dX5_pluck_148 : decode cX5_pluck 148 = .ok (.getfield 21, 3) := by decide +kernel
theorem dX5_pluck_151 : decode cX5_pluck 151 = .ok (.iload_n 1, 1) := by decide +kernel
theorem dX5_pluck_152 : decode cX5_pluck 152 = .ok (.iconst 2, 1) := by decide +kernel
theorem dX5_pluck_153 : decode cX5_pluck 153 = .ok (.aload_n 0, 1) := by decide +kernel
theorem dX5_pluck_154 : decode cX5_pluck 154 = .ok (.getfield 18, 3) := by decide +kernel
theorem dX5_pluck_157 : decode cX5_pluck 157 = .ok (.iload_n 1, 1) := by decide +kernel
theorem dX5_pluck_158 : decode cX5_pluck 158 = .ok (.iaload, 1) := by decide +kernel
theorem dX5_pluck_159 : decode cX5_pluck 159 = .ok (.imul, 1) := by decide +kernel
theorem dX5_pluck_160 : decode cX5_pluck 160 = .ok (.iastore, 1) := by decide +kernel
theorem dX5_pluck_161 : decode cX5_pluck 161 = .ok (.aload_n 0, 1) := by decide +kernel
theorem dX5_pluck_162 : decode cX5_pluck 162 = .ok (.iload_n 1, 1) := by decide +kernel
theorem dX5_pluck_163 : decode cX5_pluck 163 = .ok (.iconst 1, 1) := by decide +kernel
theorem dX5_pluck_164 : decode cX5_pluck 164 = .ok (.iadd, 1) := by decide +kernel
theorem dX5_pluck_165 : decode cX5_pluck 165 = .ok (.aload_n 0, 1) := by decide +kernel
theorem dX5_pluck_166 : decode cX5_pluck 166 = .ok (.getfield 18, 3) := by decide +kernel
theorem dX5_pluck_169 : decode cX5_pluck 169 = .ok (.iload_n 1, 1) := by decide +kernel
theorem dX5_pluck_170 : decode cX5_pluck 170 = .ok (.iaload, 1) := by decide +kernel
theorem dX5_pluck_171 : decode cX5_pluck 171 = .ok (.invokevirtual 78, 3) := by decide +kernel
theorem dX5_pluck_174 : decode cX5_pluck 174 = .ok (.goto 17, 3) := by decide +kernel
theorem dX5_pluck_177 : decode cX5_pluck 177 = .ok (.aload_n 0, 1) := by decide +kernel
theorem dX5_pluck_178 : decode cX5_pluck 178 = .ok (.getfield 21, 3) := by decide +kernel
theorem dX5_pluck_181 : decode cX5_pluck 181 = .ok (.iload_n 1, 1) := by decide +kernel
theorem dX5_pluck_182 : decode cX5_pluck 182 = .ok (.iconst 2, 1) := by decide +kernel
theorem dX5_pluck_183 : decode cX5_pluck 183 = .ok (.aload_n 0, 1) := by decide +kernel
theorem dX5_pluck_184 : decode cX5_pluck 184 = .ok (.getfield 18, 3) := by decide +kernel
theorem dX5_pluck_187 : decode cX5_pluck 187 = .ok (.iload_n 1, 1) := by decide +kernel
theorem dX5_pluck_188 : decode cX5_pluck 188 = .ok (.iaload, 1) := by decide +kernel
theorem dX5_pluck_189 : decode cX5_pluck 189 = .ok (.imul, 1) := by decide +kernel
theorem dX5_pluck_190 : decode cX5_pluck 190 = .ok (.iastore, 1) := by decide +kernel
theorem dX5_pluck_191 : decode cX5_pluck 191 = .ok (.return_, 1) := by decide +kernel
theorem dX5_stir_0 : decode cX5_stir 0 = .ok (.iload_n 1, 1) := by decide +kernel
theorem dX5_stir_1 : decode cX5_stir 1 = .ok (.aload_n 0, 1) := by decide +kernel
theorem dX5_stir_2 : decode cX5_stir 2 = .ok (.getfield 31, 3) := by decide +kernel
theorem dX5_stir_5 : decode cX5_stir 5 = .ok (.if_icmp .ge 31, 3) := by decide +kernel
theorem dX5_stir_8 : decode cX5_stir 8 = .ok (.aload_n 0, 1) := by decide +kernel
theorem dX5_stir_9 : decode cX5_stir 9 = .ok (.getfield 43, 3) := by decide +kernel
theorem dX5_stir_12 : decode cX5_stir 12 = .ok (.iload_n 1, 1) := by decide +kernel
theorem dX5_stir_13 : decode cX5_stir 13 = .ok (.ishr, 1) := by decide +kernel
theorem dX5_stir_14 : decode cX5_stir 14 = .ok (.iconst 1, 1) := by decide +kernel
theorem dX5_stir_15 : decode cX5_stir 15 = .ok (.iand, 1) := by decide +kernel
theorem dX5_stir_16 : decode cX5_stir 16 = .ok (.ifCond .ne 20, 3) := by decide +kernel
theorem dX5_stir_19 : decode cX5_stir 19 = .ok (.aload_n 0, 1) := by decide +kernel
theorem dX5_stir_20 : decode cX5_stir 20 = .ok (.getfield 21, 3) := by decide +kernel
theorem dX5_stir_23 : decode cX5_stir 23 = .ok (.iload_n 1, 1) := by decide +kernel
theorem dX5_stir_24 : decode cX5_stir 24 = .ok (.iaload, 1) := by decide +kernel
theorem dX5_stir_25 : decode cX5_stir 25 = .ok (.iload_n 2, 1) := by decide +kernel
theorem dX5_stir_26 : decode cX5_stir 26 = .ok (.if_icmp .ge 10, 3) := by decide +kernel
theorem dX5_stir_29 : decode cX5_stir 29 = .ok (.aload_n 0, 1) := by decide +kernel
theorem dX5_stir_30 : decode cX5_stir 30 = .ok (.getfield 21, 3) := by decide +kernel
theorem dX5_stir_33 : decode cX5_stir 33 = .ok (.iload_n 1, 1) := by decide +kernel
theorem dX5_stir_34 : decode cX5_stir 34 = .ok (.iload_n 2, 1) := by decide +kernel
theorem dX5_stir_35 : decode cX5_stir 35 = .ok (.iastore, 1) := by decide +kernel
theorem dX5_stir_36 : decode cX5_stir 36 = .ok (.return_, 1) := by decide +kernel
theorem dX5_columnBehind_0 : decode cX5_columnBehind 0 = .ok (.aload_n 0, 1) := by decide +kernel
theorem dX5_columnBehind_1 : decode cX5_columnBehind 1 = .ok (.getfield 37, 3) := by decide +kernel
theorem dX5_columnBehind_4 : decode cX5_columnBehind 4 = .ok (.iconst 1, 1) := by decide +kernel
theorem dX5_columnBehind_5 : decode cX5_columnBehind 5 = .ok (.iadd, 1) := by decide +kernel
theorem dX5_columnBehind_6 : decode cX5_columnBehind 6 = .ok (.aload_n 0, 1) := by decide +kernel
theorem dX5_columnBehind_7 : decode cX5_columnBehind 7 = .ok (.getfield 27, 3) := by decide +kernel
theorem dX5_columnBehind_10 : decode cX5_columnBehind 10 = .ok (.if_icmp .ge 12, 3) := by decide +kernel
theorem dX5_columnBehind_13 : decode cX5_columnBehind 13 = .ok (.aload_n 0, 1) := by decide +kernel
theorem dX5_columnBehind_14 : decode cX5_columnBehind 14 = .ok (.getfield 37, 3) := by decide +kernel
theorem dX5_columnBehind_17 : decode cX5_columnBehind 17 = .ok (.iconst 1, 1) := by decide +kernel
theorem dX5_columnBehind_18 : decode cX5_columnBehind 18 = .ok (.iadd, 1) := by decide +kernel
theorem dX5_columnBehind_19 : decode cX5_columnBehind 19 = .ok (.goto 4, 3) := by decide +kernel
theorem dX5_columnBehind_22 : decode cX5_columnBehind 22 = .ok (.iconst 0, 1) := by decide +kernel
theorem dX5_columnBehind_23 : decode cX5_columnBehind 23 = .ok (.ireturn, 1) := by decide +kernel
theorem dX5_windBy_0 : decode cX5_windBy 0 = .ok (.aload_n 0, 1) := by decide +kernel
theorem dX5_windBy_1 : decode cX5_windBy 1 = .ok (.bipush 99, 2) := by decide +kernel
theorem dX5_windBy_3 : decode cX5_windBy 3 = .ok (.aload_n 0, 1) := by decide +kernel
theorem dX5_windBy_4 : decode cX5_windBy 4 = .ok (.getfield 34, 3) := by decide +kernel
theorem dX5_windBy_7 : decode cX5_windBy 7 = .ok (.iload_n 1, 1) := by decide +kernel
theorem dX5_windBy_8 : decode cX5_windBy 8 = .ok (.iadd, 1) := by decide +kernel
theorem dX5_windBy_9 : decode cX5_windBy 9 = .ok (.invokestatic 75, 3) := by decide +kernel
theorem dX5_windBy_12 : decode cX5_windBy 12 = .ok (.putfield 34, 3) := by decide +kernel
theorem dX5_windBy_15 : decode cX5_windBy 15 = .ok (.return_, 1) := by decide +kernel
theorem dX5_togglePin_0 : decode cX5_togglePin 0 = .ok (.aload_n 0, 1) := by decide +kernel
theorem dX5_togglePin_1 : decode cX5_togglePin 1 = .ok (.getfield 9, 3) := by decide +kernel
theorem dX5_togglePin_4 : decode cX5_togglePin 4 = .ok (.iload_n 1, 1) := by decide +kernel
theorem dX5_togglePin_5 : decode cX5_togglePin 5 = .ok (.dup2, 1) := by decide +kernel
theorem dX5_togglePin_6 : decode cX5_togglePin 6 = .ok (.iaload, 1) := by decide +kernel
theorem dX5_togglePin_7 : decode cX5_togglePin 7 = .ok (.iconst 1, 1) := by decide +kernel
theorem dX5_togglePin_8 : decode cX5_togglePin 8 = .ok (.iload_n 2, 1) := by decide +kernel
theorem dX5_togglePin_9 : decode cX5_togglePin 9 = .ok (.ishl, 1) := by decide +kernel
theorem dX5_togglePin_10 : decode cX5_togglePin 10 = .ok (.ixor, 1) := by decide +kernel
theorem dX5_togglePin_11 : decode cX5_togglePin 11 = .ok (.iastore, 1) := by decide +kernel
theorem dX5_togglePin_12 : decode cX5_togglePin 12 = .ok (.return_, 1) := by decide +kernel
theorem dX5_isBroken_0 : decode cX5_isBroken 0 = .ok (.aload_n 0, 1) := by decide +kernel
theorem dX5_isBroken_1 : decode cX5_isBroken 1 = .ok (.getfield 43, 3) := by decide +kernel
theorem dX5_isBroken_4 : decode cX5_isBroken 4 = .ok (.iload_n 1, 1) := by decide +kernel
theorem dX5_isBroken_5 : decode cX5_isBroken 5 = .ok (.ishr, 1) := by decide +kernel
theorem dX5_isBroken_6 : decode cX5_isBroken 6 = .ok (.iconst 1, 1) := by decide +kernel
theorem dX5_isBroken_7 : decode cX5_isBroken 7 = .ok (.iand, 1) := by decide +kernel
theorem dX5_isBroken_8 : decode cX5_isBroken 8 = .ok (.iconst 1, 1) := by decide +kernel
theorem dX5_isBroken_9 : decode cX5_isBroken 9 = .ok (.if_icmp .ne 7, 3) := by decide +kernel
theorem dX5_isBroken_12 : decode cX5_isBroken 12 = .ok (.iconst 1, 1) := by decide +kernel
theorem dX5_isBroken_13 : decode cX5_isBroken 13 = .ok (.goto 4, 3) := by decide +kernel
theorem dX5_isBroken_16 : decode cX5_isBroken 16 = .ok (.iconst 0, 1) := by decide +kernel
theorem dX5_isBroken_17 : decode cX5_isBroken 17 = .ok (.ireturn, 1) := by decide +kernel
theorem dX5_makeWhole_0 : decode cX5_makeWhole 0 = .ok (.aload_n 0, 1) := by decide +kernel
theorem dX5_makeWhole_1 : decode cX5_makeWhole 1 = .ok (.dup, 1) := by decide +kernel
theorem dX5_makeWhole_2 : decode cX5_makeWhole 2 = .ok (.getfield 43, 3) := by decide +kernel
theorem dX5_makeWhole_5 : decode cX5_makeWhole 5 = .ok (.iconst 1, 1) := by decide +kernel
theorem dX5_makeWhole_6 : decode cX5_makeWhole 6 = .ok (.iload_n 1, 1) := by decide +kernel
theorem dX5_makeWhole_7 : decode cX5_makeWhole 7 = .ok (.ishl, 1) := by decide +kernel
theorem dX5_makeWhole_8 : decode cX5_makeWhole 8 = .ok (.iconst (-1), 1) := by decide +kernel
theorem dX5_makeWhole_9 : decode cX5_makeWhole 9 = .ok (.ixor, 1) := by decide +kernel
theorem dX5_makeWhole_10 : decode cX5_makeWhole 10 = .ok (.iand, 1) := by decide +kernel
theorem dX5_makeWhole_11 : decode cX5_makeWhole 11 = .ok (.putfield 43, 3) := by decide +kernel
theorem dX5_makeWhole_14 : decode cX5_makeWhole 14 = .ok (.aload_n 0, 1) := by decide +kernel
theorem dX5_makeWhole_15 : decode cX5_makeWhole 15 = .ok (.getfield 24, 3) := by decide +kernel
theorem dX5_makeWhole_18 : decode cX5_makeWhole 18 = .ok (.iload_n 1, 1) := by decide +kernel
theorem dX5_makeWhole_19 : decode cX5_makeWhole 19 = .ok (.iconst 0, 1) := by decide +kernel
theorem dX5_makeWhole_20 : decode cX5_makeWhole 20 = .ok (.iastore, 1) := by decide +kernel
theorem dX5_makeWhole_21 : decode cX5_makeWhole 21 = .ok (.aload_n 0, 1) := by decide +kernel
theorem dX5_makeWhole_22 : decode cX5_makeWhole 22 = .ok (.getfield 21, 3) := by decide +kernel
theorem dX5_makeWhole_25 : decode cX5_makeWhole 25 = .ok (.iload_n 1, 1) := by decide +kernel
theorem dX5_makeWhole_26 : decode cX5_makeWhole 26 = .ok (.iconst 0, 1) := by decide +kernel
theorem dX5_makeWhole_27 : decode cX5_makeWhole 27 = .ok (.iastore, 1) := by decide +kernel
theorem dX5_makeWhole_28 : decode cX5_makeWhole 28 = .ok (.return_, 1) := by decide +kernel
theorem dX5_loud_0 : decode cX5_loud 0 = .ok (.iconst 0, 1) := by decide +kernel
theorem dX5_loud_1 : decode cX5_loud 1 = .ok (.istore_n 1, 1) := by decide +kernel
theorem dX5_loud_2 : decode cX5_loud 2 = .ok (.iconst 0, 1) := by decide +kernel
theorem dX5_loud_3 : decode cX5_loud 3 = .ok (.istore_n 2, 1) := by decide +kernel
theorem dX5_loud_4 : decode cX5_loud 4 = .ok (.iload_n 2, 1) := by decide +kernel
theorem dX5_loud_5 : decode cX5_loud 5 = .ok (.aload_n 0, 1) := by decide +kernel
theorem dX5_loud_6 : decode cX5_loud 6 = .ok (.getfield 31, 3) := by decide +kernel
theorem dX5_loud_9 : decode cX5_loud 9 = .ok (.if_icmp .ge 18, 3) := by decide +kernel
theorem dX5_loud_12 : decode cX5_loud 12 = .ok (.iload_n 1, 1) := by decide +kernel
theorem dX5_loud_13 : decode cX5_loud 13 = .ok (.aload_n 0, 1) := by decide +kernel
theorem dX5_loud_14 : decode cX5_loud 14 = .ok (.getfield 21, 3) := by decide +kernel
theorem dX5_loud_17 : decode cX5_loud 17 = .ok (.iload_n 2, 1) := by decide +kernel
theorem dX5_loud_18 : decode cX5_loud 18 = .ok (.iaload, 1) := by decide +kernel
theorem dX5_loud_19 : decode cX5_loud 19 = .ok (.iadd, 1) := by decide +kernel
theorem dX5_loud_20 : decode cX5_loud 20 = .ok (.istore_n 1, 1) := by decide +kernel
theorem dX5_loud_21 : decode cX5_loud 21 = .ok (.iinc 2 1, 3) := by decide +kernel
theorem dX5_loud_24 : decode cX5_loud 24 = .ok (.goto (-20), 3) := by decide +kernel
theorem dX5_loud_27 : decode cX5_loud 27 = .ok (.iload_n 1, 1) := by decide +kernel
theorem dX5_loud_28 : decode cX5_loud 28 = .ok (.ireturn, 1) := by decide +kernel
theorem dX5_ringing_0 : decode cX5_ringing 0 = .ok (.iconst 0, 1) := by decide +kernel
theorem dX5_ringing_1 : decode cX5_ringing 1 = .ok (.istore_n 1, 1) := by decide +kernel
theorem dX5_ringing_2 : decode cX5_ringing 2 = .ok (.iconst 0, 1) := by decide +kernel
theorem dX5_ringing_3 : decode cX5_ringing 3 = .ok (.istore_n 2, 1) := by decide +kernel
theorem dX5_ringing_4 : decode cX5_ringing 4 = .ok (.iload_n 2, 1) := by decide +kernel
theorem dX5_ringing_5 : decode cX5_ringing 5 = .ok (.aload_n 0, 1) := by decide +kernel
theorem dX5_ringing_6 : decode cX5_ringing 6 = .ok (.getfield 31, 3) := by decide +kernel
theorem dX5_ringing_9 : decode cX5_ringing 9 = .ok (.if_icmp .ge 24, 3) := by decide +kernel
theorem dX5_ringing_12 : decode cX5_ringing 12 = .ok (.aload_n 0, 1) := by decide +kernel
theorem dX5_ringing_13 : decode cX5_ringing 13 = .ok (.getfield 21, 3) := by decide +kernel
theorem dX5_ringing_16 : decode cX5_ringing 16 = .ok (.iload_n 2, 1) := by decide +kernel
theorem dX5_ringing_17 : decode cX5_ringing 17 = .ok (.iaload, 1) := by decide +kernel
theorem dX5_ringing_18 : decode cX5_ringing 18 = .ok (.ifCond .le 9, 3) := by decide +kernel
theorem dX5_ringing_21 : decode cX5_ringing 21 = .ok (.iload_n 1, 1) := by decide +kernel
theorem dX5_ringing_22 : decode cX5_ringing 22 = .ok (.iconst 1, 1) := by decide +kernel
theorem dX5_ringing_23 : decode cX5_ringing 23 = .ok (.iload_n 2, 1) := by decide +kernel
theorem dX5_ringing_24 : decode cX5_ringing 24 = .ok (.ishl, 1) := by decide +kernel
theorem dX5_ringing_25 : decode cX5_ringing 25 = .ok (.ior, 1) := by decide +kernel
theorem dX5_ringing_26 : decode cX5_ringing 26 = .ok (.istore_n 1, 1) := by decide +kernel
theorem dX5_ringing_27 : decode cX5_ringing 27 = .ok (.iinc 2 1, 3) := by decide +kernel
theorem dX5_ringing_30 : decode cX5_ringing 30 = .ok (.goto (-26), 3) := by decide +kernel
theorem dX5_ringing_33 : decode cX5_ringing 33 = .ok (.iload_n 1, 1) := by decide +kernel
theorem dX5_ringing_34 : decode cX5_ringing 34 = .ok (.ireturn, 1) := by decide +kernel
theorem dX5_pluckedInAll_0 : decode cX5_pluckedInAll 0 = .ok (.iconst 0, 1) := by decide +kernel
theorem dX5_pluckedInAll_1 : decode cX5_pluckedInAll 1 = .ok (.istore_n 1, 1) := by decide +kernel
theorem dX5_pluckedInAll_2 : decode cX5_pluckedInAll 2 = .ok (.iconst 0, 1) := by decide +kernel
theorem dX5_pluckedInAll_3 : decode cX5_pluckedInAll 3 = .ok (.istore_n 2, 1) := by decide +kernel
theorem dX5_pluckedInAll_4 : decode cX5_pluckedInAll 4 = .ok (.iload_n 2, 1) := by decide +kernel
theorem dX5_pluckedInAll_5 : decode cX5_pluckedInAll 5 = .ok (.aload_n 0, 1) := by decide +kernel
theorem dX5_pluckedInAll_6 : decode cX5_pluckedInAll 6 = .ok (.getfield 31, 3) := by decide +kernel
theorem dX5_pluckedInAll_9 : decode cX5_pluckedInAll 9 = .ok (.if_icmp .ge 18, 3) := by decide +kernel
theorem dX5_pluckedInAll_12 : decode cX5_pluckedInAll 12 = .ok (.iload_n 1, 1) := by decide +kernel
theorem dX5_pluckedInAll_13 : decode cX5_pluckedInAll 13 = .ok (.aload_n 0, 1) := by decide +kernel
theorem dX5_pluckedInAll_14 : decode cX5_pluckedInAll 14 = .ok (.getfield 24, 3) := by decide +kernel
theorem dX5_pluckedInAll_17 : decode cX5_pluckedInAll 17 = .ok (.iload_n 2, 1) := by decide +kernel
theorem dX5_pluckedInAll_18 : decode cX5_pluckedInAll 18 = .ok (.iaload, 1) := by decide +kernel
theorem dX5_pluckedInAll_19 : decode cX5_pluckedInAll 19 = .ok (.iadd, 1) := by decide +kernel
theorem dX5_pluckedInAll_20 : decode cX5_pluckedInAll 20 = .ok (.istore_n 1, 1) := by decide +kernel
theorem dX5_pluckedInAll_21 : decode cX5_pluckedInAll 21 = .ok (.iinc 2 1, 3) := by decide +kernel
theorem dX5_pluckedInAll_24 : decode cX5_pluckedInAll 24 = .ok (.goto (-20), 3) := by decide +kernel
theorem dX5_pluckedInAll_27 : decode cX5_pluckedInAll 27 = .ok (.iload_n 1, 1) := by decide +kernel
theorem dX5_pluckedInAll_28 : decode cX5_pluckedInAll 28 = .ok (.ireturn, 1) := by decide +kernel
theorem dX5_columnsOf_0 : decode cX5_columnsOf 0 = .ok (.iconst 0, 1) := by decide +kernel
theorem dX5_columnsOf_1 : decode cX5_columnsOf 1 = .ok (.istore_n 2, 1) := by decide +kernel
theorem dX5_columnsOf_2 : decode cX5_columnsOf 2 = .ok (.iconst 0, 1) := by decide +kernel
theorem dX5_columnsOf_3 : decode cX5_columnsOf 3 = .ok (.istore_n 3, 1) := by decide +kernel
theorem dX5_columnsOf_4 : decode cX5_columnsOf 4 = .ok (.iload_n 3, 1) := by decide +kernel
theorem dX5_columnsOf_5 : decode cX5_columnsOf 5 = .ok (.aload_n 0, 1) := by decide +kernel
theorem dX5_columnsOf_6 : decode cX5_columnsOf 6 = .ok (.getfield 27, 3) := by decide +kernel
theorem dX5_columnsOf_9 : decode cX5_columnsOf 9 = .ok (.if_icmp .ge 24, 3) := by decide +kernel
theorem dX5_columnsOf_12 : decode cX5_columnsOf 12 = .ok (.iload_n 2, 1) := by decide +kernel
theorem dX5_columnsOf_13 : decode cX5_columnsOf 13 = .ok (.aload_n 0, 1) := by decide +kernel
theorem dX5_columnsOf_14 : decode cX5_columnsOf 14 = .ok (.getfield 9, 3) := by decide +kernel
theorem dX5_columnsOf_17 : decode cX5_columnsOf 17 = .ok (.iload_n 3, 1) := by decide +kernel
theorem dX5_columnsOf_18 : decode cX5_columnsOf 18 = .ok (.iaload, 1) := by decide +kernel
theorem dX5_columnsOf_19 : decode cX5_columnsOf 19 = .ok (.iload_n 1, 1) := by decide +kernel
theorem dX5_columnsOf_20 : decode cX5_columnsOf 20 = .ok (.ishr, 1) := by decide +kernel
theorem dX5_columnsOf_21 : decode cX5_columnsOf 21 = .ok (.iconst 1, 1) := by decide +kernel
theorem dX5_columnsOf_22 : decode cX5_columnsOf 22 = .ok (.iand, 1) := by decide +kernel
theorem dX5_columnsOf_23 : decode cX5_columnsOf 23 = .ok (.iload_n 3, 1) := by decide +kernel
theorem dX5_columnsOf_24 : decode cX5_columnsOf 24 = .ok (.ishl, 1) := by decide +kernel
theorem dX5_columnsOf_25 : decode cX5_columnsOf 25 = .ok (.ior, 1) := by decide +kernel
theorem dX5_columnsOf_26 : decode cX5_columnsOf 26 = .ok (.istore_n 2, 1) := by decide +kernel
theorem dX5_columnsOf_27 : decode cX5_columnsOf 27 = .ok (.iinc 3 1, 3) := by decide +kernel
theorem dX5_columnsOf_30 : decode cX5_columnsOf 30 = .ok (.goto (-26), 3) := by decide +kernel
theorem dX5_columnsOf_33 : decode cX5_columnsOf 33 = .ok (.iload_n 2, 1) := by decide +kernel
theorem dX5_columnsOf_34 : decode cX5_columnsOf 34 = .ok (.ireturn, 1) := by decide +kernel
theorem dX5_turnTimes_0 : decode cX5_turnTimes 0 = .ok (.iconst 0, 1) := by decide +kernel
theorem dX5_turnTimes_1 : decode cX5_turnTimes 1 = .ok (.istore_n 2, 1) := by decide +kernel
theorem dX5_turnTimes_2 : decode cX5_turnTimes 2 = .ok (.iload_n 2, 1) := by decide +kernel
theorem dX5_turnTimes_3 : decode cX5_turnTimes 3 = .ok (.iload_n 1, 1) := by decide +kernel
theorem dX5_turnTimes_4 : decode cX5_turnTimes 4 = .ok (.if_icmp .ge 14, 3) := by decide +kernel
theorem dX5_turnTimes_7 : decode cX5_turnTimes 7 = .ok (.aload_n 0, 1) := by decide +kernel
theorem dX5_turnTimes_8 : decode cX5_turnTimes 8 = .ok (.invokevirtual 82, 3) := by decide +kernel
theorem dX5_turnTimes_11 : decode cX5_turnTimes 11 = .ok (.pop, 1) := by decide +kernel
theorem dX5_turnTimes_12 : decode cX5_turnTimes 12 = .ok (.iinc 2 1, 3) := by decide +kernel
theorem dX5_turnTimes_15 : decode cX5_turnTimes 15 = .ok (.goto (-13), 3) := by decide +kernel
theorem dX5_turnTimes_18 : decode cX5_turnTimes 18 = .ok (.return_, 1) := by decide +kernel
theorem dX5_loudOver_0 : decode cX5_loudOver 0 = .ok (.iconst 0, 1) := by decide +kernel
theorem dX5_loudOver_1 : decode cX5_loudOver 1 = .ok (.istore_n 2, 1) := by decide +kernel
theorem dX5_loudOver_2 : decode cX5_loudOver 2 = .ok (.iconst 0, 1) := by decide +kernel
theorem dX5_loudOver_3 : decode cX5_loudOver 3 = .ok (.istore_n 3, 1) := by decide +kernel
theorem dX5_loudOver_4 : decode cX5_loudOver 4 = .ok (.iload_n 3, 1) := by decide +kernel
theorem dX5_loudOver_5 : decode cX5_loudOver 5 = .ok (.iload_n 1, 1) := by decide +kernel
theorem dX5_loudOver_6 : decode cX5_loudOver 6 = .ok (.if_icmp .ge 21, 3) := by decide +kernel
theorem dX5_loudOver_9 : decode cX5_loudOver 9 = .ok (.aload_n 0, 1) := by decide +kernel
theorem dX5_loudOver_10 : decode cX5_loudOver 10 = .ok (.invokevirtual 82, 3) := by decide +kernel
theorem dX5_loudOver_13 : decode cX5_loudOver 13 = .ok (.pop, 1) := by decide +kernel
theorem dX5_loudOver_14 : decode cX5_loudOver 14 = .ok (.iload_n 2, 1) := by decide +kernel
theorem dX5_loudOver_15 : decode cX5_loudOver 15 = .ok (.aload_n 0, 1) := by decide +kernel
theorem dX5_loudOver_16 : decode cX5_loudOver 16 = .ok (.invokevirtual 85, 3) := by decide +kernel
theorem dX5_loudOver_19 : decode cX5_loudOver 19 = .ok (.iadd, 1) := by decide +kernel
theorem dX5_loudOver_20 : decode cX5_loudOver 20 = .ok (.istore_n 2, 1) := by decide +kernel
theorem dX5_loudOver_21 : decode cX5_loudOver 21 = .ok (.iinc 3 1, 3) := by decide +kernel
theorem dX5_loudOver_24 : decode cX5_loudOver 24 = .ok (.goto (-20), 3) := by decide +kernel
theorem dX5_loudOver_27 : decode cX5_loudOver 27 = .ok (.iload_n 2, 1) := by decide +kernel
theorem dX5_loudOver_28 : decode cX5_loudOver 28 = .ok (.ireturn, 1) := by decide +kernel
theorem dX5_comesTo_0 : decode cX5_comesTo 0 = .ok (.aload_n 0, 1) := by decide +kernel
theorem dX5_comesTo_1 : decode cX5_comesTo 1 = .ok (.getfield 34, 3) := by decide +kernel
theorem dX5_comesTo_4 : decode cX5_comesTo 4 = .ok (.ifCond .le 19, 3) := by decide +kernel
theorem dX5_comesTo_7 : decode cX5_comesTo 7 = .ok (.iload_n 1, 1) := by decide +kernel
theorem dX5_comesTo_8 : decode cX5_comesTo 8 = .ok (.aload_n 0, 1) := by decide +kernel
theorem dX5_comesTo_9 : decode cX5_comesTo 9 = .ok (.invokevirtual 62, 3) := by decide +kernel
theorem dX5_comesTo_12 : decode cX5_comesTo 12 = .ok (.ishr, 1) := by decide +kernel
theorem dX5_comesTo_13 : decode cX5_comesTo 13 = .ok (.iconst 1, 1) := by decide +kernel
theorem dX5_comesTo_14 : decode cX5_comesTo 14 = .ok (.iand, 1) := by decide +kernel
theorem dX5_comesTo_15 : decode cX5_comesTo 15 = .ok (.iconst 1, 1) := by decide +kernel
theorem dX5_comesTo_16 : decode cX5_comesTo 16 = .ok (.if_icmp .ne 7, 3) := by decide +kernel
theorem dX5_comesTo_19 : decode cX5_comesTo 19 = .ok (.iconst 1, 1) := by decide +kernel
theorem dX5_comesTo_20 : decode cX5_comesTo 20 = .ok (.goto 4, 3) := by decide +kernel
theorem dX5_comesTo_23 : decode cX5_comesTo 23 = .ok (.iconst 0, 1) := by decide +kernel
theorem dX5_comesTo_24 : decode cX5_comesTo 24 = .ok (.ireturn, 1) := by decide +kernel
theorem dX6_init_0 : decode cX6_init 0 = .ok (.aload_n 0, 1) := by decide +kernel
theorem dX6_init_1 : decode cX6_init 1 = .ok (.invokespecial 1, 3) := by decide +kernel
theorem dX6_init_4 : decode cX6_init 4 = .ok (.aload_n 0, 1) := by decide +kernel
theorem dX6_init_5 : decode cX6_init 5 = .ok (.bipush 8, 2) := by decide +kernel
theorem dX6_init_7 : decode cX6_init 7 = .ok (.anewarray 9, 3) := by decide +kernel
theorem dX6_init_10 : decode cX6_init 10 = .ok (.putfield 11, 3) := by decide +kernel
theorem dX6_init_13 : decode cX6_init 13 = .ok (.aload_n 0, 1) := by decide +kernel
theorem dX6_init_14 : decode cX6_init 14 = .ok (.iconst 2, 1) := by decide +kernel
theorem dX6_init_15 : decode cX6_init 15 = .ok (.anewarray 15, 3) := by decide +kernel
theorem dX6_init_18 : decode cX6_init 18 = .ok (.putfield 17, 3) := by decide +kernel
theorem dX6_init_21 : decode cX6_init 21 = .ok (.aload_n 0, 1) := by decide +kernel
theorem dX6_init_22 : decode cX6_init 22 = .ok (.new 15, 3) := by decide +kernel
theorem dX6_init_25 : decode cX6_init 25 = .ok (.dup, 1) := by decide +kernel
theorem dX6_init_26 : decode cX6_init 26 = .ok (.invokespecial 21, 3) := by decide +kernel
theorem dX6_init_29 : decode cX6_init 29 = .ok (.putfield 22, 3) := by decide +kernel
theorem dX6_init_32 : decode cX6_init 32 = .ok (.aload_n 0, 1) := by decide +kernel
theorem dX6_init_33 : decode cX6_init 33 = .ok (.new 15, 3) := by decide +kernel
theorem dX6_init_36 : decode cX6_init 36 = .ok (.dup, 1) := by decide +kernel
theorem dX6_init_37 : decode cX6_init 37 = .ok (.invokespecial 21, 3) := by decide +kernel
theorem dX6_init_40 : decode cX6_init 40 = .ok (.putfield 26, 3) := by decide +kernel
theorem dX6_init_43 : decode cX6_init 43 = .ok (.aload_n 0, 1) := by decide +kernel
theorem dX6_init_44 : decode cX6_init 44 = .ok (.new 29, 3) := by decide +kernel
theorem dX6_init_47 : decode cX6_init 47 = .ok (.dup, 1) := by decide +kernel
theorem dX6_init_48 : decode cX6_init 48 = .ok (.invokespecial 31, 3) := by decide +kernel
theorem dX6_init_51 : decode cX6_init 51 = .ok (.putfield 32, 3) := by decide +kernel
theorem dX6_init_54 : decode cX6_init 54 = .ok (.aload_n 0, 1) := by decide +kernel
theorem dX6_init_55 : decode cX6_init 55 = .ok (.new 36, 3) := by decide +kernel
theorem dX6_init_58 : decode cX6_init 58 = .ok (.dup, 1) := by decide +kernel
theorem dX6_init_59 : decode cX6_init 59 = .ok (.invokespecial 38, 3) := by decide +kernel
theorem dX6_init_62 : decode cX6_init 62 = .ok (.putfield 39, 3) := by decide +kernel
theorem dX6_init_65 : decode cX6_init 65 = .ok (.aload_n 0, 1) := by decide +kernel
theorem dX6_init_66 : decode cX6_init 66 = .ok (.new 43, 3) := by decide +kernel
theorem dX6_init_69 : decode cX6_init 69 = .ok (.dup, 1) := by decide +kernel
theorem dX6_init_70 : decode cX6_init 70 = .ok (.aload_n 0, 1) := by decide +kernel
theorem dX6_init_71 : decode cX6_init 71 = .ok (.getfield 22, 3) := by decide +kernel
theorem dX6_init_74 : decode cX6_init 74 = .ok (.invokespecial 45, 3) := by decide +kernel
theorem dX6_init_77 : decode cX6_init 77 = .ok (.putfield 48, 3) := by decide +kernel
theorem dX6_init_80 : decode cX6_init 80 = .ok (.aload_n 0, 1) := by decide +kernel
theorem dX6_init_81 : decode cX6_init 81 = .ok (.new 52, 3) := by decide +kernel
theorem dX6_init_84 : decode cX6_init 84 = .ok (.dup, 1) := by decide +kernel
theorem dX6_init_85 : decode cX6_init 85 = .ok (.aload_n 0, 1) := by decide +kernel
theorem dX6_init_86 : decode cX6_init 86 = .ok (.getfield 22, 3) := by decide +kernel
theorem dX6_init_89 : decode cX6_init 89 = .ok (.invokespecial 54, 3) := by decide +kernel
theorem dX6_init_92 : decode cX6_init 92 = .ok (.putfield 55, 3) := by decide +kernel
theorem dX6_init_95 : decode cX6_init 95 = .ok (.iconst 0, 1) := by decide +kernel
theorem dX6_init_96 : decode cX6_init 96 = .ok (.istore_n 1, 1) := by decide +kernel
theorem dX6_init_97 : decode cX6_init 97 = .ok (.iload_n 1, 1) := by decide +kernel
theorem dX6_init_98 : decode cX6_init 98 = .ok (.bipush 8, 2) := by decide +kernel
theorem dX6_init_100 : decode cX6_init 100 = .ok (.if_icmp .ge 22, 3) := by decide +kernel
theorem dX6_init_103 : decode cX6_init 103 = .ok (.aload_n 0, 1) := by decide +kernel
theorem dX6_init_104 : decode cX6_init 104 = .ok (.getfield 11, 3) := by decide +kernel
theorem dX6_init_107 : decode cX6_init 107 = .ok (.iload_n 1, 1) := by decide +kernel
theorem dX6_init_108 : decode cX6_init 108 = .ok (.new 9, 3) := by decide +kernel
theorem dX6_init_111 : decode cX6_init 111 = .ok (.dup, 1) := by decide +kernel
theorem dX6_init_112 : decode cX6_init 112 = .ok (.invokespecial 59, 3) := by decide +kernel
theorem dX6_init_115 : decode cX6_init 115 = .ok (.aastore, 1) := by decide +kernel
theorem dX6_init_116 : decode cX6_init 116 = .ok (.iinc 1 1, 3) := by decide +kernel
theorem dX6_init_119 : decode cX6_init 119 = .ok (.goto (-22), 3) := by decide +kernel
theorem dX6_init_122 : decode cX6_init 122 = .ok (.iconst 0, 1) := by decide +kernel
theorem dX6_init_123 : decode cX6_init 123 = .ok (.istore_n 1, 1) := by decide +kernel
theorem dX6_init_124 : decode cX6_init 124 = .ok (.iload_n 1, 1) := by decide +kernel
theorem dX6_init_125 : decode cX6_init 125 = .ok (.iconst 2, 1) := by decide +kernel
theorem dX6_init_126 : decode cX6_init 126 = .ok (.if_icmp .ge 22, 3) := by decide +kernel
theorem dX6_init_129 : decode cX6_init 129 = .ok (.aload_n 0, 1) := by decide +kernel
theorem dX6_init_130 : decode cX6_init 130 = .ok (.getfield 17, 3) := by decide +kernel
theorem dX6_init_133 : decode cX6_init 133 = .ok (.iload_n 1, 1) := by decide +kernel
theorem dX6_init_134 : decode cX6_init 134 = .ok (.new 15, 3) := by decide +kernel
theorem dX6_init_137 : decode cX6_init 137 = .ok (.dup, 1) := by decide +kernel
theorem dX6_init_138 : decode cX6_init 138 = .ok (.invokespecial 21, 3) := by decide +kernel
theorem dX6_init_141 : decode cX6_init 141 = .ok (.aastore, 1) := by decide +kernel
theorem dX6_init_142 : decode cX6_init 142 = .ok (.iinc 1 1, 3) := by decide +kernel
theorem dX6_init_145 : decode cX6_init 145 = .ok (.goto (-21), 3) := by decide +kernel
theorem dX6_init_148 : decode cX6_init 148 = .ok (.return_, 1) := by decide +kernel
theorem dX6_row_0 : decode cX6_row 0 = .ok (.iload_n 1, 1) := by decide +kernel
theorem dX6_row_1 : decode cX6_row 1 = .ok (.invokestatic 60, 3) := by decide +kernel
theorem dX6_row_4 : decode cX6_row 4 = .ok (.ifCond .eq 18, 3) := by decide +kernel
theorem dX6_row_7 : decode cX6_row 7 = .ok (.iload_n 2, 1) := by decide +kernel
theorem dX6_row_8 : decode cX6_row 8 = .ok (.iconst 0, 1) := by decide +kernel
theorem dX6_row_9 : decode cX6_row 9 = .ok (.iconst 2, 1) := by decide +kernel
theorem dX6_row_10 : decode cX6_row 10 = .ok (.invokestatic 64, 3) := by decide +kernel
theorem dX6_row_13 : decode cX6_row 13 = .ok (.ifCond .eq 9, 3) := by decide +kernel
theorem dX6_row_16 : decode cX6_row 16 = .ok (.iload_n 3, 1) := by decide +kernel
theorem dX6_row_17 : decode cX6_row 17 = .ok (.bipush 40, 2) := by decide +kernel
theorem dX6_row_19 : decode cX6_row 19 = .ok (.if_icmp .le 6, 3) := by decide +kernel
theorem dX6_row_22 : decode cX6_row 22 = .ok (.ldc 68, 2) := by decide +kernel
theorem dX6_row_24 : decode cX6_row 24 = .ok (.ireturn, 1) := by decide +kernel
theorem dX6_row_25 : decode cX6_row 25 = .ok (.iload_n 3, 1) := by decide +kernel
theorem dX6_row_26 : decode cX6_row 26 = .ok (.ifCond .ge 9, 3) := by decide +kernel
theorem dX6_row_29 : decode cX6_row 29 = .ok (.aload_n 0, 1) := by decide +kernel
theorem dX6_row_30 : decode cX6_row 30 = .ok (.iconst 4, 1) := by decide +kernel
theorem dX6_row_31 : decode cX6_row 31 = .ok (.invokevirtual 69, 3) := by decide +kernel
theorem dX6_row_34 : decode cX6_row 34 = .ok (.ireturn, 1) := by decide +kernel
theorem dX6_row_35 : decode cX6_row 35 = .ok (.aload_n 0, 1) := by decide +kernel
theorem dX6_row_36 : decode cX6_row 36 = .ok (.getfield 11, 3) := by decide +kernel
theorem dX6_row_39 : decode cX6_row 39 = .ok (.iload_n 1, 1) := by decide +kernel
theorem dX6_row_40 : decode cX6_row 40 = .ok (.aaload, 1) := by decide +kernel
theorem dX6_row_41 : decode cX6_row 41 = .ok (.iload_n 2, 1) := by decide +kernel
theorem dX6_row_42 : decode cX6_row 42 = .ok (.iload_n 3, 1) := by decide +kernel
theorem dX6_row_43 : decode cX6_row 43 = .ok (.invokevirtual 73, 3) := by decide +kernel
theorem dX6_row_46 : decode cX6_row 46 = .ok (.aload_n 0, 1) := by decide +kernel
theorem dX6_row_47 : decode cX6_row 47 = .ok (.iload_n 3, 1) := by decide +kernel
theorem dX6_row_48 : decode cX6_row 48 = .ok (.invokevirtual 77, 3) := by decide +kernel
theorem dX6_row_51 : decode cX6_row 51 = .ok (.ireturn, 1) := by decide +kernel
theorem dX6_set_0 : decode cX6_set 0 = .ok (.iload_n 1, 1) := by decide +kernel
theorem dX6_set_1 : decode cX6_set 1 = .ok (.invokestatic 60, 3) := by decide +kernel
theorem dX6_set_4 : decode cX6_set 4 = .ok (.ifCond .ne 6, 3) := by decide +kernel
theorem dX6_set_7 : decode cX6_set 7 = .ok (.ldc 68, 2) := by decide +kernel
theorem dX6_set_9 : decode cX6_set 9 = .ok (.ireturn, 1) := by decide +kernel
theorem dX6_set_10 : decode cX6_set 10 = .ok (.aload_n 0, 1) := by decide +kernel
theorem dX6_set_11 : decode cX6_set 11 = .ok (.getfield 11, 3) := by decide +kernel
theorem dX6_set_14 : decode cX6_set 14 = .ok (.iload_n 1, 1) := by decide +kernel
theorem dX6_set_15 : decode cX6_set 15 = .ok (.aaload, 1) := by decide +kernel
theorem dX6_set_16 : decode cX6_set 16 = .ok (.iload_n 2, 1) := by decide +kernel
theorem dX6_set_17 : decode cX6_set 17 = .ok (.iconst 1, 1) := by decide +kernel
theorem dX6_set_18 : decode cX6_set 18 = .ok (.invokestatic 80, 3) := by decide +kernel
theorem dX6_set_21 : decode cX6_set 21 = .ok (.istore 4, 2) := by decide +kernel
theorem dX6_set_23 : decode cX6_set 23 = .ok (.iload 4, 2) := by decide +kernel
theorem dX6_set_25 : decode cX6_set 25 = .ok (.ifCond .eq 10, 3) := by decide +kernel
theorem dX6_set_28 : decode cX6_set 28 = .ok (.aload_n 0, 1) := by decide +kernel
theorem dX6_set_29 : decode cX6_set 29 = .ok (.iload 4, 2) := by decide +kernel
theorem dX6_set_31 : decode cX6_set 31 = .ok (.invokevirtual 69, 3) := by decide +kernel
theorem dX6_set_34 : decode cX6_set 34 = .ok (.ireturn, 1) := by decide +kernel
theorem dX6_set_35 : decode cX6_set 35 = .ok (.aload_n 0, 1) := by decide +kernel
theorem dX6_set_36 : decode cX6_set 36 = .ok (.aload_n 0, 1) := by decide +kernel
theorem dX6_set_37 : decode cX6_set 37 = .ok (.getfield 11, 3) := by decide +kernel
theorem dX6_set_40 : decode cX6_set 40 = .ok (.iload_n 1, 1) := by decide +kernel
theorem dX6_set_41 : decode cX6_set 41 = .ok (.aaload, 1) := by decide +kernel
theorem dX6_set_42 : decode cX6_set 42 = .ok (.iload_n 2, 1) := by decide +kernel
theorem dX6_set_43 : decode cX6_set 43 = .ok (.iload_n 3, 1) := by decide +kernel
theorem dX6_set_44 : decode cX6_set 44 = .ok (.invokevirtual 84, 3) := by decide +kernel
theorem dX6_set_47 : decode cX6_set 47 = .ok (.invokevirtual 77, 3) := by decide +kernel
theorem dX6_set_50 : decode cX6_set 50 = .ok (.ireturn, 1) := by decide +kernel
theorem dX6_copy_0 : decode cX6_copy 0 = .ok (.iload_n 1, 1) := by decide +kernel
theorem dX6_copy_1 : decode cX6_copy 1 = .ok (.invokestatic 60, 3) := by decide +kernel
theorem dX6_copy_4 : decode cX6_copy 4 = .ok (.ifCond .eq 10, 3) := by decide +kernel
theorem dX6_copy_7 : decode cX6_copy 7 = .ok (.iload_n 3, 1) := by decide +kernel
theorem dX6_copy_8 : decode cX6_copy 8 = .ok (.invokestatic 60, 3) := by decide +kernel
theorem dX6_copy_11 : decode cX6_copy 11 = .ok (.ifCond .ne 6, 3) := by decide +kernel
theorem dX6_copy_14 : decode cX6_copy 14 = .ok (.ldc 68, 2) := by decide +kernel
theorem dX6_copy_16 : decode cX6_copy 16 = .ok (.ireturn, 1) := by decide +kernel
theorem dX6_copy_17 : decode cX6_copy 17 = .ok (.aload_n 0, 1) := by decide +kernel
theorem dX6_copy_18 : decode cX6_copy 18 = .ok (.getfield 11, 3) := by decide +kernel
theorem dX6_copy_21 : decode cX6_copy 21 = .ok (.iload_n 1, 1) := by decide +kernel
theorem dX6_copy_22 : decode cX6_copy 22 = .ok (.aaload, 1) := by decide +kernel
theorem dX6_copy_23 : decode cX6_copy 23 = .ok (.astore 6, 2) := by decide +kernel
theorem dX6_copy_25 : decode cX6_copy 25 = .ok (.aload_n 0, 1) := by decide +kernel
theorem dX6_copy_26 : decode cX6_copy 26 = .ok (.getfield 11, 3) := by decide +kernel
theorem dX6_copy_29 : decode cX6_copy 29 = .ok (.iload_n 3, 1) := by decide +kernel
theorem dX6_copy_30 : decode cX6_copy 30 = .ok (.aaload, 1) := by decide +kernel
theorem dX6_copy_31 : decode cX6_copy 31 = .ok (.astore 7, 2) := by decide +kernel
theorem dX6_copy_33 : decode cX6_copy 33 = .ok (.aload 6, 2) := by decide +kernel
theorem dX6_copy_35 : decode cX6_copy 35 = .ok (.getfield 88, 3) := by decide +kernel
theorem dX6_copy_38 : decode cX6_copy 38 = .ok (.ifCond .eq 11, 3) := by decide +kernel
theorem dX6_copy_41 : decode cX6_copy 41 = .ok (.aload 7, 2) := by decide +kernel
theorem dX6_copy_43 : decode cX6_copy 43 = .ok (.getfield 88, 3) := by decide +kernel
theorem dX6_copy_46 : decode cX6_copy 46 = .ok (.ifCond .ne 9, 3) := by decide +kernel
theorem dX6_copy_49 : decode cX6_copy 49 = .ok (.aload_n 0, 1) := by decide +kernel
theorem dX6_copy_50 : decode cX6_copy 50 = .ok (.iconst 1, 1) := by decide +kernel
theorem dX6_copy_51 : decode cX6_copy 51 = .ok (.invokevirtual 69, 3) := by decide +kernel
theorem dX6_copy_54 : decode cX6_copy 54 = .ok (.ireturn, 1) := by decide +kernel
theorem dX6_copy_55 : decode cX6_copy 55 = .ok (.aload 6, 2) := by decide +kernel
theorem dX6_copy_57 : decode cX6_copy 57 = .ok (.getfield 92, 3) := by decide +kernel
theorem dX6_copy_60 : decode cX6_copy 60 = .ok (.aload 7, 2) := by decide +kernel
theorem dX6_copy_62 : decode cX6_copy 62 = .ok (.getfield 92, 3) := by decide +kernel
theorem dX6_copy_65 : decode cX6_copy 65 = .ok (.if_icmp .eq 9, 3) := by decide +kernel
theorem dX6_copy_68 : decode cX6_copy 68 = .ok (.aload_n 0, 1) := by decide +kernel
theorem dX6_copy_69 : decode cX6_copy 69 = .ok (.iconst 5, 1) := by decide +kernel
theorem dX6_copy_70 : decode cX6_copy 70 = .ok (.invokevirtual 69, 3) := by decide +kernel
theorem dX6_copy_73 : decode cX6_copy 73 = .ok (.ireturn, 1) := by decide +kernel
theorem dX6_copy_74 : decode cX6_copy 74 = .ok (.aload 6, 2) := by decide +kernel
theorem dX6_copy_76 : decode cX6_copy 76 = .ok (.iload_n 2, 1) := by decide +kernel
theorem dX6_copy_77 : decode cX6_copy 77 = .ok (.iload 5, 2) := by decide +kernel
theorem dX6_copy_79 : decode cX6_copy 79 = .ok (.invokevirtual 96, 3) := by decide +kernel
theorem dX6_copy_82 : decode cX6_copy 82 = .ok (.ifCond .eq 15, 3) := by decide +kernel
theorem dX6_copy_85 : decode cX6_copy 85 = .ok (.aload 7, 2) := by decide +kernel
theorem dX6_copy_87 : decode cX6_copy 87 = .ok (.iload 4, 2) := by decide +kernel
theorem dX6_copy_89 : decode cX6_copy 89 = .ok (.iload 5, 2) := by decide +kernel
theorem dX6_copy_91 : decode cX6_copy 91 = .ok (.invokevirtual 96, 3) := by decide +kernel
theorem dX6_copy_94 : decode cX6_copy 94 = .ok (.ifCond .ne 9, 3) := by decide +kernel
theorem dX6_copy_97 : decode cX6_copy 97 = .ok (.aload_n 0, 1) := by decide +kernel
theorem dX6_copy_98 : decode cX6_copy 98 = .ok (.iconst 2, 1) := by decide +kernel
theorem dX6_copy_99 : decode cX6_copy 99 = .ok (.invokevirtual 69, 3) := by decide +kernel
theorem dX6_copy_102 : decode cX6_copy 102 = .ok (.ireturn, 1) := by decide +kernel
theorem dX6_copy_103 : decode cX6_copy 103 = .ok (.aload 6, 2) := by decide +kernel
theorem dX6_copy_105 : decode cX6_copy 105 = .ok (.getfield 100, 3) := by decide +kernel
theorem dX6_copy_108 : decode cX6_copy 108 = .ok (.iload_n 2, 1) := by decide +kernel
theorem dX6_copy_109 : decode cX6_copy 109 = .ok (.aload 7, 2) := by decide +kernel
theorem dX6_copy_111 : decode cX6_copy 111 = .ok (.getfield 100, 3) := by decide +kernel
theorem dX6_copy_114 : decode cX6_copy 114 = .ok (.iload 4, 2) := by decide +kernel
theorem dX6_copy_116 : decode cX6_copy 116 = .ok (.iload 5, 2) := by decide +kernel
theorem dX6_copy_118 : decode cX6_copy 118 = .ok (.invokestatic 104, 3) := by decide +kernel
theorem dX6_copy_121 : decode cX6_copy 121 = .ok (.aload_n 0, 1) := by decide +kernel
theorem dX6_copy_122 : decode cX6_copy 122 = .ok (.iload 5, 2) := by decide +kernel
theorem dX6_copy_124 : decode cX6_copy 124 = .ok (.invokevirtual 77, 3) := by decide +kernel
theorem dX6_copy_127 : decode cX6_copy 127 = .ok (.ireturn, 1) := by decide +kernel
theorem dX6_drop_0 : decode cX6_drop 0 = .ok (.iload_n 1, 1) := by decide +kernel
theorem dX6_drop_1 : decode cX6_drop 1 = .ok (.invokestatic 60, 3) := by decide +kernel
theorem dX6_drop_4 : decode cX6_drop 4 = .ok (.ifCond .ne 6, 3) := by decide +kernel
theorem dX6_drop_7 : decode cX6_drop 7 = .ok (.ldc 68, 2) := by decide +kernel
theorem dX6_drop_9 : decode cX6_drop 9 = .ok (.ireturn, 1) := by decide +kernel
theorem dX6_drop_10 : decode cX6_drop 10 = .ok (.aload_n 0, 1) := by decide +kernel
theorem dX6_drop_11 : decode cX6_drop 11 = .ok (.getfield 11, 3) := by decide +kernel
theorem dX6_drop_14 : decode cX6_drop 14 = .ok (.iload_n 1, 1) := by decide +kernel
theorem dX6_drop_15 : decode cX6_drop 15 = .ok (.aaload, 1) := by decide +kernel
theorem dX6_drop_16 : decode cX6_drop 16 = .ok (.getfield 88, 3) := by decide +kernel
theorem dX6_drop_19 : decode cX6_drop 19 = .ok (.ifCond .ne 9, 3) := by decide +kernel
theorem dX6_drop_22 : decode cX6_drop 22 = .ok (.aload_n 0, 1) := by decide +kernel
theorem dX6_drop_23 : decode cX6_drop 23 = .ok (.iconst 1, 1) := by decide +kernel
theorem dX6_drop_24 : decode cX6_drop 24 = .ok (.invokevirtual 69, 3) := by decide +kernel
theorem dX6_drop_27 : decode cX6_drop 27 = .ok (.ireturn, 1) := by decide +kernel
theorem dX6_drop_28 : decode cX6_drop 28 = .ok (.aload_n 0, 1) := by decide +kernel
theorem dX6_drop_29 : decode cX6_drop 29 = .ok (.getfield 11, 3) := by decide +kernel
theorem dX6_drop_32 : decode cX6_drop 32 = .ok (.iload_n 1, 1) := by decide +kernel
theorem dX6_drop_33 : decode cX6_drop 33 = .ok (.aaload, 1) := by decide +kernel
theorem dX6_drop_34 : decode cX6_drop 34 = .ok (.iconst 0, 1) := by decide +kernel
theorem dX6_drop_35 : decode cX6_drop 35 = .ok (.putfield 88, 3) := by decide +kernel
theorem dX6_drop_38 : decode cX6_drop 38 = .ok (.aload_n 0, 1) := by decide +kernel
theorem dX6_drop_39 : decode cX6_drop 39 = .ok (.aload_n 0, 1) := by decide +kernel
theorem dX6_drop_40 : decode cX6_drop 40 = .ok (.getfield 11, 3) := by decide +kernel
theorem dX6_drop_43 : decode cX6_drop 43 = .ok (.iload_n 1, 1) := by decide +kernel
theorem dX6_drop_44 : decode cX6_drop 44 = .ok (.aaload, 1) := by decide +kernel
theorem dX6_drop_45 : decode cX6_drop 45 = .ok (.getfield 110, 3) := by decide +kernel
theorem dX6_drop_48 : decode cX6_drop 48 = .ok (.invokevirtual 77, 3) := by decide +kernel
theorem dX6_drop_51 : decode cX6_drop 51 = .ok (.ireturn, 1) := by decide +kernel
theorem dX6_feed_0 : decode cX6_feed 0 = .ok (.iload_n 1, 1) := by decide +kernel
theorem dX6_feed_1 : decode cX6_feed 1 = .ok (.iconst 0, 1) := by decide +kernel
theorem dX6_feed_2 : decode cX6_feed 2 = .ok (.sipush 255, 3) := by decide +kernel
theorem dX6_feed_5 : decode cX6_feed 5 = .ok (.invokestatic 64, 3) := by decide +kernel
theorem dX6_feed_8 : decode cX6_feed 8 = .ok (.ifCond .ne 6, 3) := by decide +kernel
theorem dX6_feed_11 : decode cX6_feed 11 = .ok (.ldc 68, 2) := by decide +kernel
theorem dX6_feed_13 : decode cX6_feed 13 = .ok (.ireturn, 1) := by decide +kernel
theorem dX6_feed_14 : decode cX6_feed 14 = .ok (.aload_n 0, 1) := by decide +kernel
theorem dX6_feed_15 : decode cX6_feed 15 = .ok (.getfield 32, 3) := by decide +kernel
theorem dX6_feed_18 : decode cX6_feed 18 = .ok (.getfield 113, 3) := by decide +kernel
theorem dX6_feed_21 : decode cX6_feed 21 = .ok (.bipush 100, 2) := by decide +kernel
theorem dX6_feed_23 : decode cX6_feed 23 = .ok (.if_icmp .lt 6, 3) := by decide +kernel
theorem dX6_feed_26 : decode cX6_feed 26 = .ok (.ldc 116, 2) := by decide +kernel
theorem dX6_feed_28 : decode cX6_feed 28 = .ok (.ireturn, 1) := by decide +kernel
theorem dX6_feed_29 : decode cX6_feed 29 = .ok (.aload_n 0, 1) := by decide +kernel
theorem dX6_feed_30 : decode cX6_feed 30 = .ok (.getfield 32, 3) := by decide +kernel
theorem dX6_feed_33 : decode cX6_feed 33 = .ok (.iload_n 1, 1) := by decide +kernel
theorem dX6_feed_34 : decode cX6_feed 34 = .ok (.invokevirtual 117, 3) := by decide +kernel
theorem dX6_feed_37 : decode cX6_feed 37 = .ok (.ireturn, 1) := by decide +kernel
theorem dX6_box_0 : decode cX6_box 0 = .ok (.aload_n 0, 1) := by decide +kernel
theorem dX6_box_1 : decode cX6_box 1 = .ok (.getfield 32, 3) := by decide +kernel
theorem dX6_box_4 : decode cX6_box 4 = .ok (.aload_n 0, 1) := by decide +kernel
theorem dX6_box_5 : decode cX6_box 5 = .ok (.getfield 26, 3) := by decide +kernel
theorem dX6_box_8 : decode cX6_box 8 = .ok (.invokevirtual 120, 3) := by decide +kernel
theorem dX6_box_11 : decode cX6_box 11 = .ok (.istore_n 1, 1) := by decide +kernel
theorem dX6_box_12 : decode cX6_box 12 = .ok (.aload_n 0, 1) := by decide +kernel
theorem dX6_box_13 : decode cX6_box 13 = .ok (.getfield 32, 3) := by decide +kernel
theorem dX6_box_16 : decode cX6_box 16 = .ok (.iconst 0, 1) := by decide +kernel
theorem dX6_box_17 : decode cX6_box 17 = .ok (.putfield 113, 3) := by decide +kernel
theorem dX6_box_20 : decode cX6_box 20 = .ok (.iload_n 1, 1) := by decide +kernel
theorem dX6_box_21 : decode cX6_box 21 = .ok (.ifCond .ne 25, 3) := by decide +kernel
theorem dX6_box_24 : decode cX6_box 24 = .ok (.aload_n 0, 1) := by decide +kernel
theorem dX6_box_25 : decode cX6_box 25 = .ok (.aload_n 0, 1) := by decide +kernel
theorem dX6_box_26 : decode cX6_box 26 = .ok (.getfield 32, 3) := by decide +kernel
theorem dX6_box_29 : decode cX6_box 29 = .ok (.getfield 124, 3) := by decide +kernel
theorem dX6_box_32 : decode cX6_box 32 = .ok (.putfield 127, 3) := by decide +kernel
theorem dX6_box_35 : decode cX6_box 35 = .ok (.ldc 130, 2) := by decide +kernel
theorem dX6_box_37 : decode cX6_box 37 = .ok (.aload_n 0, 1) := by decide +kernel
theorem dX6_box_38 : decode cX6_box 38 = .ok (.getfield 32, 3) := by decide +kernel
theorem dX6_box_41 : decode cX6_box 41 = .ok (.getfield 131, 3) := by decide +kernel
theorem dX6_box_44 : decode cX6_box 44 = .ok (.isub, 1) := by decide +kernel
theorem dX6_box_45 : decode cX6_box 45 = .ok (.ireturn, 1) := by decide +kernel
theorem dX6_box_46 : decode cX6_box 46 = .ok (.aload_n 0, 1) := by decide +kernel
theorem dX6_box_47 : decode cX6_box 47 = .ok (.getfield 22, 3) := by decide +kernel
theorem dX6_box_50 : decode cX6_box 50 = .ok (.aload_n 0, 1) := by decide +kernel
theorem dX6_box_51 : decode cX6_box 51 = .ok (.getfield 26, 3) := by decide +kernel
theorem dX6_box_54 : decode cX6_box 54 = .ok (.invokevirtual 134, 3) := by decide +kernel
theorem dX6_box_57 : decode cX6_box 57 = .ok (.aload_n 0, 1) := by decide +kernel
theorem dX6_box_58 : decode cX6_box 58 = .ok (.getfield 39, 3) := by decide +kernel
theorem dX6_box_61 : decode cX6_box 61 = .ok (.invokevirtual 137, 3) := by decide +kernel
theorem dX6_box_64 : decode cX6_box 64 = .ok (.aload_n 0, 1) := by decide +kernel
theorem dX6_box_65 : decode cX6_box 65 = .ok (.getfield 22, 3) := by decide +kernel
theorem dX6_box_68 : decode cX6_box 68 = .ok (.getfield 140, 3) := by decide +kernel
theorem dX6_box_71 : decode cX6_box 71 = .ok (.ireturn, 1) := by decide +kernel
theorem dX6_fault_0 : decode cX6_fault 0 = .ok (.aload_n 0, 1) := by decide +kernel
theorem dX6_fault_1 : decode cX6_fault 1 = .ok (.getfield 127, 3) := by decide +kernel
theorem dX6_fault_4 : decode cX6_fault 4 = .ok (.ireturn, 1) := by decide +kernel
theorem dX6_undo_0 : decode cX6_undo 0 = .ok (.aload_n 0, 1) := by decide +kernel
theorem dX6_undo_1 : decode cX6_undo 1 = .ok (.getfield 39, 3) := by decide +kernel
theorem dX6_undo_4 : decode cX6_undo 4 = .ok (.getfield 143, 3) := by decide +kernel
theorem dX6_undo_7 : decode cX6_undo 7 = .ok (.ifCond .ne 6, 3) := by decide +kernel
theorem dX6_undo_10 : decode cX6_undo 10 = .ok (.ldc 144, 2) := by decide +kernel
theorem dX6_undo_12 : decode cX6_undo 12 = .ok (.ireturn, 1) := by decide +kernel
theorem dX6_undo_13 : decode cX6_undo 13 = .ok (.aload_n 0, 1) := by decide +kernel
theorem dX6_undo_14 : decode cX6_undo 14 = .ok (.getfield 39, 3) := by decide +kernel
theorem dX6_undo_17 : decode cX6_undo 17 = .ok (.aload_n 0, 1) := by decide +kernel
theorem dX6_undo_18 : decode cX6_undo 18 = .ok (.getfield 22, 3) := by decide +kernel
theorem dX6_undo_21 : decode cX6_undo 21 = .ok (.invokevirtual 145, 3) := by decide +kernel
theorem dX6_undo_24 : decode cX6_undo 24 = .ok (.aload_n 0, 1) := by decide +kernel
theorem dX6_undo_25 : decode cX6_undo 25 = .ok (.getfield 39, 3) := by decide +kernel
theorem dX6_undo_28 : decode cX6_undo 28 = .ok (.getfield 143, 3) := by decide +kernel
theorem dX6_undo_31 : decode cX6_undo 31 = .ok (.ireturn, 1) := by decide +kernel
theorem dX6_ticks_0 : decode cX6_ticks 0 = .ok (.aload_n 0, 1) := by decide +kernel
theorem dX6_ticks_1 : decode cX6_ticks 1 = .ok (.invokevirtual 148, 3) := by decide +kernel
theorem dX6_ticks_4 : decode cX6_ticks 4 = .ok (.ifCond .ne 6, 3) := by decide +kernel
theorem dX6_ticks_7 : decode cX6_ticks 7 = .ok (.ldc 144, 2) := by decide +kernel
theorem dX6_ticks_9 : decode cX6_ticks 9 = .ok (.ireturn, 1) := by decide +kernel
theorem dX6_ticks_10 : decode cX6_ticks 10 = .ok (.iload_n 1, 1) := by decide +kernel
theorem dX6_ticks_11 : decode cX6_ticks 11 = .ok (.iconst 1, 1) := by decide +kernel
theorem dX6_ticks_12 : decode cX6_ticks 12 = .ok (.bipush 24, 2) := by decide +kernel
theorem dX6_ticks_14 : decode cX6_ticks 14 = .ok (.invokestatic 64, 3) := by decide +kernel
theorem dX6_ticks_17 : decode cX6_ticks 17 = .ok (.ifCond .ne 6, 3) := by decide +kernel
theorem dX6_ticks_20 : decode cX6_ticks 20 = .ok (.ldc 68, 2) := by decide +kernel
theorem dX6_ticks_22 : decode cX6_ticks 22 = .ok (.ireturn, 1) := by decide +kernel
theorem dX6_ticks_23 : decode cX6_ticks 23 = .ok (.aload_n 0, 1) := by decide +kernel
theorem dX6_ticks_24 : decode cX6_ticks 24 = .ok (.getfield 22, 3) := by decide +kernel
theorem dX6_ticks_27 : decode cX6_ticks 27 = .ok (.getfield 152, 3) := by decide +kernel
theorem dX6_ticks_30 : decode cX6_ticks 30 = .ok (.iload_n 1, 1) := by decide +kernel
theorem dX6_ticks_31 : decode cX6_ticks 31 = .ok (.iadd, 1) := by decide +kernel
theorem dX6_ticks_32 : decode cX6_ticks 32 = .ok (.sipush 999, 3) := by decide +kernel
theorem dX6_ticks_35 : decode cX6_ticks 35 = .ok (.if_icmp .le 6, 3) := by decide +kernel
theorem dX6_ticks_38 : decode cX6_ticks 38 = .ok (.ldc 116, 2) := by decide +kernel
theorem dX6_ticks_40 : decode cX6_ticks 40 = .ok (.ireturn, 1) := by decide +kernel
theorem dX6_ticks_41 : decode cX6_ticks 41 = .ok (.iconst 0, 1) := by decide +kernel
theorem dX6_ticks_42 : decode cX6_ticks 42 = .ok (.istore_n 2, 1) := by decide +kernel
theorem dX6_ticks_43 : decode cX6_ticks 43 = .ok (.iload_n 2, 1) := by decide +kernel
theorem dX6_ticks_44 : decode cX6_ticks 44 = .ok (.iload_n 1, 1) := by decide +kernel
theorem dX6_ticks_45 : decode cX6_ticks 45 = .ok (.if_icmp .ge 28, 3) := by decide +kernel
theorem dX6_ticks_48 : decode cX6_ticks 48 = .ok (.aload_n 0, 1) := by decide +kernel
theorem dX6_ticks_49 : decode cX6_ticks 49 = .ok (.getfield 39, 3) := by decide +kernel
theorem dX6_ticks_52 : decode cX6_ticks 52 = .ok (.aload_n 0, 1) := by decide +kernel
theorem dX6_ticks_53 : decode cX6_ticks 53 = .ok (.getfield 22, 3) := by decide +kernel
theorem dX6_ticks_56 : decode cX6_ticks 56 = .ok (.invokevirtual 155, 3) := by decide +kernel
theorem dX6_ticks_59 : decode cX6_ticks 59 = .ok (.aload_n 0, 1) := by decide +kernel
theorem dX6_ticks_60 : decode cX6_ticks 60 = .ok (.getfield 22, 3) := by decide +kernel
theorem dX6_ticks_63 : decode cX6_ticks 63 = .ok (.invokevirtual 158, 3) := by decide +kernel
theorem dX6_ticks_66 : decode cX6_ticks 66 = .ok (.pop, 1) := by decide +kernel
theorem dX6_ticks_67 : decode cX6_ticks 67 = .ok (.iinc 2 1, 3) := by decide +kernel
theorem dX6_ticks_70 : decode cX6_ticks 70 = .ok (.goto (-27), 3) := by decide +kernel
theorem dX6_ticks_73 : decode cX6_ticks 73 = .ok (.aload_n 0, 1) := by decide +kernel
theorem dX6_ticks_74 : decode cX6_ticks 74 = .ok (.getfield 22, 3) := by decide +kernel
theorem dX6_ticks_77 : decode cX6_ticks 77 = .ok (.invokevirtual 162, 3) := by decide +kernel
theorem dX6_ticks_80 : decode cX6_ticks 80 = .ok (.ireturn, 1) := by decide +kernel
theorem dX6_wind_0 : decode cX6_wind 0 = .ok (.aload_n 0, 1) := by decide +kernel
theorem dX6_wind_1 : decode cX6_wind 1 = .ok (.invokevirtual 148, 3) := by decide +kernel
theorem dX6_wind_4 : decode cX6_wind 4 = .ok (.ifCond .ne 6, 3) := by decide +kernel
theorem dX6_wind_7 : decode cX6_wind 7 = .ok (.ldc 144, 2) := by decide +kernel
theorem dX6_wind_9 : decode cX6_wind 9 = .ok (.ireturn, 1) := by decide +kernel
theorem dX6_wind_10 : decode cX6_wind 10 = .ok (.iload_n 1, 1) := by decide +kernel
theorem dX6_wind_11 : decode cX6_wind 11 = .ok (.iconst 1, 1) := by decide +kernel
theorem dX6_wind_12 : decode cX6_wind 12 = .ok (.bipush 99, 2) := by decide +kernel
theorem dX6_wind_14 : decode cX6_wind 14 = .ok (.invokestatic 64, 3) := by decide +kernel
theorem dX6_wind_17 : decode cX6_wind 17 = .ok (.ifCond .ne 6, 3) := by decide +kernel
theorem dX6_wind_20 : decode cX6_wind 20 = .ok (.ldc 68, 2) := by decide +kernel
theorem dX6_wind_22 : decode cX6_wind 22 = .ok (.ireturn, 1) := by decide +kernel
theorem dX6_wind_23 : decode cX6_wind 23 = .ok (.aload_n 0, 1) := by decide +kernel
theorem dX6_wind_24 : decode cX6_wind 24 = .ok (.getfield 39, 3) := by decide +kernel
theorem dX6_wind_27 : decode cX6_wind 27 = .ok (.aload_n 0, 1) := by decide +kernel
theorem dX6_wind_28 : decode cX6_wind 28 = .ok (.getfield 22, 3) := by decide +kernel
theorem dX6_wind_31 : decode cX6_wind 31 = .ok (.invokevirtual 155, 3) := by decide +kernel
theorem dX6_wind_34 : decode cX6_wind 34 = .ok (.aload_n 0, 1) := by decide +kernel
theorem dX6_wind_35 : decode cX6_wind 35 = .ok (.getfield 22, 3) := by decide +kernel
theorem dX6_wind_38 : decode cX6_wind 38 = .ok (.iload_n 1, 1) := by decide +kernel
theorem dX6_wind_39 : decode cX6_wind 39 = .ok (.invokevirtual 165, 3) := by decide +kernel
theorem dX6_wind_42 : decode cX6_wind 42 = .ok (.aload_n 0, 1) := by decide +kernel
theorem dX6_wind_43 : decode cX6_wind 43 = .ok (.getfield 22, 3) := by decide +kernel
theorem dX6_wind_46 : decode cX6_wind 46 = .ok (.getfield 169, 3) := by decide +kernel
theorem dX6_wind_49 : decode cX6_wind 49 = .ok (.ireturn, 1) := by decide +kernel
theorem dX6_pin_0 : decode cX6_pin 0 = .ok (.aload_n 0, 1) := by decide +kernel
theorem dX6_pin_1 : decode cX6_pin 1 = .ok (.iload_n 1, 1) := by decide +kernel
theorem dX6_pin_2 : decode cX6_pin 2 = .ok (.invokevirtual 172, 3) := by decide +kernel
theorem dX6_pin_5 : decode cX6_pin 5 = .ok (.ifCond .eq 11, 3) := by decide +kernel
theorem dX6_pin_8 : decode cX6_pin 8 = .ok (.aload_n 0, 1) := by decide +kernel
theorem dX6_pin_9 : decode cX6_pin 9 = .ok (.iload_n 2, 1) := by decide +kernel
theorem dX6_pin_10 : decode cX6_pin 10 = .ok (.invokevirtual 175, 3) := by decide +kernel
theorem dX6_pin_13 : decode cX6_pin 13 = .ok (.ifCond .ne 6, 3) := by decide +kernel
theorem dX6_pin_16 : decode cX6_pin 16 = .ok (.ldc 68, 2) := by decide +kernel
theorem dX6_pin_18 : decode cX6_pin 18 = .ok (.ireturn, 1) := by decide +kernel
theorem dX6_pin_19 : decode cX6_pin 19 = .ok (.aload_n 0, 1) := by decide +kernel
theorem dX6_pin_20 : decode cX6_pin 20 = .ok (.getfield 39, 3) := by decide +kernel
theorem dX6_pin_23 : decode cX6_pin 23 = .ok (.aload_n 0, 1) := by decide +kernel
theorem dX6_pin_24 : decode cX6_pin 24 = .ok (.getfield 22, 3) := by decide +kernel
theorem dX6_pin_27 : decode cX6_pin 27 = .ok (.invokevirtual 155, 3) := by decide +kernel
theorem dX6_pin_30 : decode cX6_pin 30 = .ok (.aload_n 0, 1) := by decide +kernel
theorem dX6_pin_31 : decode cX6_pin 31 = .ok (.getfield 22, 3) := by decide +kernel
theorem dX6_pin_34 : decode cX6_pin 34 = .ok (.iload_n 1, 1) := by decide +kernel
theorem dX6_pin_35 : decode cX6_pin 35 = .ok (.iload_n 2, 1) := by decide +kernel
theorem dX6_pin_36 : decode cX6_pin 36 = .ok (.invokevirtual 178, 3) := by decide +kernel
theorem dX6_pin_39 : decode cX6_pin 39 = .ok (.aload_n 0, 1) := by decide +kernel
theorem dX6_pin_40 : decode cX6_pin 40 = .ok (.getfield 22, 3) := by decide +kernel
theorem dX6_pin_43 : decode cX6_pin 43 = .ok (.getfield 181, 3) := by decide +kernel
theorem dX6_pin_46 : decode cX6_pin 46 = .ok (.iload_n 1, 1) := by decide +kernel
theorem dX6_pin_47 : decode cX6_pin 47 = .ok (.iaload, 1) := by decide +kernel
theorem dX6_pin_48 : decode cX6_pin 48 = .ok (.ireturn, 1) := by decide +kernel
theorem dX6_drum_0 : decode cX6_drum 0 = .ok (.aload_n 0, 1) := by decide +kernel
theorem dX6_drum_1 : decode cX6_drum 1 = .ok (.iload_n 1, 1) := by decide +kernel
theorem dX6_drum_2 : decode cX6_drum 2 = .ok (.invokevirtual 172, 3) := by decide +kernel
theorem dX6_drum_5 : decode cX6_drum 5 = .ok (.ifCond .ne 6, 3) := by decide +kernel
theorem dX6_drum_8 : decode cX6_drum 8 = .ok (.ldc 68, 2) := by decide +kernel
theorem dX6_drum_10 : decode cX6_drum 10 = .ok (.ireturn, 1) := by decide +kernel
theorem dX6_drum_11 : decode cX6_drum 11 = .ok (.aload_n 0, 1) := by decide +kernel
theorem dX6_drum_12 : decode cX6_drum 12 = .ok (.getfield 22, 3) := by decide +kernel
theorem dX6_drum_15 : decode cX6_drum 15 = .ok (.getfield 184, 3) := by decide +kernel
theorem dX6_drum_18 : decode cX6_drum 18 = .ok (.istore_n 2, 1) := by decide +kernel
theorem dX6_drum_19 : decode cX6_drum 19 = .ok (.iload_n 1, 1) := by decide +kernel
theorem dX6_drum_20 : decode cX6_drum 20 = .ok (.iload_n 2, 1) := by decide +kernel
theorem dX6_drum_21 : decode cX6_drum 21 = .ok (.if_icmp .ne 6, 3) := by decide +kernel
theorem dX6_drum_24 : decode cX6_drum 24 = .ok (.ldc 144, 2) := by decide +kernel
theorem dX6_drum_26 : decode cX6_drum 26 = .ok (.ireturn, 1) := by decide +kernel
theorem dX6_drum_27 : decode cX6_drum 27 = .ok (.aload_n 0, 1) := by decide +kernel
theorem dX6_drum_28 : decode cX6_drum 28 = .ok (.getfield 39, 3) := by decide +kernel
theorem dX6_drum_31 : decode cX6_drum 31 = .ok (.aload_n 0, 1) := by decide +kernel
theorem dX6_drum_32 : decode cX6_drum 32 = .ok (.getfield 22, 3) := by decide +kernel
theorem dX6_drum_35 : decode cX6_drum 35 = .ok (.invokevirtual 155, 3) := by decide +kernel
theorem dX6_drum_38 : decode cX6_drum 38 = .ok (.aload_n 0, 1) := by decide +kernel
theorem dX6_drum_39 : decode cX6_drum 39 = .ok (.getfield 22, 3) := by decide +kernel
theorem dX6_drum_42 : decode cX6_drum 42 = .ok (.iload_n 1, 1) := by decide +kernel
theorem dX6_drum_43 : decode cX6_drum 43 = .ok (.putfield 184, 3) := by decide +kernel
theorem dX6_drum_46 : decode cX6_drum 46 = .ok (.iload_n 2, 1) := by decide +kernel
theorem dX6_drum_47 : decode cX6_drum 47 = .ok (.ireturn, 1) := by decide +kernel
theorem dX6_mend_0 : decode cX6_mend 0 = .ok (.aload_n 0, 1) := by decide +kernel
theorem dX6_mend_1 : decode cX6_mend 1 = .ok (.iload_n 1, 1) := by decide +kernel
theorem dX6_mend_2 : decode cX6_mend 2 = .ok (.invokevirtual 175, 3) := by decide +kernel
theorem dX6_mend_5 : decode cX6_mend 5 = .ok (.ifCond .ne 6, 3) := by decide +kernel
theorem dX6_mend_8 : decode cX6_mend 8 = .ok (.ldc 68, 2) := by decide +kernel
theorem dX6_mend_10 : decode cX6_mend 10 = .ok (.ireturn, 1) := by decide +kernel
theorem dX6_mend_11 : decode cX6_mend 11 = .ok (.aload_n 0, 1) := by decide +kernel
theorem dX6_mend_12 : decode cX6_mend 12 = .ok (.getfield 22, 3) := by decide +kernel
theorem dX6_mend_15 : decode cX6_mend 15 = .ok (.iload_n 1, 1) := by decide +kernel
theorem dX6_mend_16 : decode cX6_mend 16 = .ok (.invokevirtual 187, 3) := by decide +kernel
theorem dX6_mend_19 : decode cX6_mend 19 = .ok (.ifCond .ne 6, 3) := by decide +kernel
theorem dX6_mend_22 : decode cX6_mend 22 = .ok (.ldc 144, 2) := by decide +kernel
theorem dX6_mend_24 : decode cX6_mend 24 = .ok (.ireturn, 1) := by decide +kernel
theorem dX6_mend_25 : decode cX6_mend 25 = .ok (.aload_n 0, 1) := by decide +kernel
theorem dX6_mend_26 : decode cX6_mend 26 = .ok (.getfield 22, 3) := by decide +kernel
theorem dX6_mend_29 : decode cX6_mend 29 = .ok (.getfield 190, 3) := by decide +kernel
theorem dX6_mend_32 : decode cX6_mend 32 = .ok (.iload_n 1, 1) := by decide +kernel
theorem dX6_mend_33 : decode cX6_mend 33 = .ok (.iaload, 1) := by decide +kernel
theorem dX6_mend_34 : decode cX6_mend 34 = .ok (.istore_n 2, 1) := by decide +kernel
theorem dX6_mend_35 : decode cX6_mend 35 = .ok (.aload_n 0, 1) := by decide +kernel
theorem dX6_mend_36 : decode cX6_mend 36 = .ok (.getfield 39, 3) := by decide +kernel
theorem dX6_mend_39 : decode cX6_mend 39 = .ok (.aload_n 0, 1) := by decide +kernel
theorem dX6_mend_40 : decode cX6_mend 40 = .ok (.getfield 22, 3) := by decide +kernel
theorem dX6_mend_43 : decode cX6_mend 43 = .ok (.invokevirtual 155, 3) := by decide +kernel
theorem dX6_mend_46 : decode cX6_mend 46 = .ok (.aload_n 0, 1) := by decide +kernel
theorem dX6_mend_47 : decode cX6_mend 47 = .ok (.getfield 22, 3) := by decide +kernel
theorem dX6_mend_50 : decode cX6_mend 50 = .ok (.iload_n 1, 1) := by decide +kernel
theorem dX6_mend_51 : decode cX6_mend 51 = .ok (.invokevirtual 193, 3) := by decide +kernel
theorem dX6_mend_54 : decode cX6_mend 54 = .ok (.iload_n 2, 1) := by decide +kernel
theorem dX6_mend_55 : decode cX6_mend 55 = .ok (.ireturn, 1) := by decide +kernel
theorem dX6_tooth_0 : decode cX6_tooth 0 = .ok (.aload_n 0, 1) := by decide +kernel
theorem dX6_tooth_1 : decode cX6_tooth 1 = .ok (.iload_n 1, 1) := by decide +kernel
theorem dX6_tooth_2 : decode cX6_tooth 2 = .ok (.invokevirtual 175, 3) := by decide +kernel
theorem dX6_tooth_5 : decode cX6_tooth 5 = .ok (.ifCond .ne 6, 3) := by decide +kernel
theorem dX6_tooth_8 : decode cX6_tooth 8 = .ok (.ldc 68, 2) := by decide +kernel
theorem dX6_tooth_10 : decode cX6_tooth 10 = .ok (.ireturn, 1) := by decide +kernel
theorem dX6_tooth_11 : decode cX6_tooth 11 = .ok (.iload_n 2, 1) := by decide +kernel
theorem dX6_tooth_12 : decode cX6_tooth 12 = .ok (.tableswitch 92 0 4 #[36, 46, 56, 66, 83], 36) := by decide +kernel
theorem dX6_tooth_48 : decode cX6_tooth 48 = .ok (.aload_n 0, 1) := by decide +kernel
theorem dX6_tooth_49 : decode cX6_tooth 49 = .ok (.getfield 22, 3) := by decide +kernel
theorem dX6_tooth_52 : decode cX6_tooth 52 = .ok (.getfield 196, 3) := by decide +kernel
theorem dX6_tooth_55 : decode cX6_tooth 55 = .ok (.iload_n 1, 1) := by decide +kernel
theorem dX6_tooth_56 : decode cX6_tooth 56 = .ok (.iaload, 1) := by decide +kernel
theorem dX6_tooth_57 : decode cX6_tooth 57 = .ok (.ireturn, 1) := by decide +kernel
theorem dX6_tooth_58 : decode cX6_tooth 58 = .ok (.aload_n 0, 1) := by decide +kernel
theorem dX6_tooth_59 : decode cX6_tooth 59 = .ok (.getfield 22, 3) := by decide +kernel
theorem dX6_tooth_62 : decode cX6_tooth 62 = .ok (.getfield 199, 3) := by decide +kernel
theorem dX6_tooth_65 : decode cX6_tooth 65 = .ok (.iload_n 1, 1) := by decide +kernel
theorem dX6_tooth_66 : decode cX6_tooth 66 = .ok (.iaload, 1) := by decide +kernel
theorem dX6_tooth_67 : decode cX6_tooth 67 = .ok (.ireturn, 1) := by decide +kernel
theorem dX6_tooth_68 : decode cX6_tooth 68 = .ok (.aload_n 0, 1) := by decide +kernel
theorem dX6_tooth_69 : decode cX6_tooth 69 = .ok (.getfield 22, 3) := by decide +kernel
theorem dX6_tooth_72 : decode cX6_tooth 72 = .ok (.getfield 190, 3) := by decide +kernel
theorem dX6_tooth_75 : decode cX6_tooth 75 = .ok (.iload_n 1, 1) := by decide +kernel
theorem dX6_tooth_76 : decode cX6_tooth 76 = .ok (.iaload, 1) := by decide +kernel
theorem dX6_tooth_77 : decode cX6_tooth 77 = .ok (.ireturn, 1) := by decide +kernel
theorem dX6_tooth_78 : decode cX6_tooth 78 = .ok (.aload_n 0, 1) := by decide +kernel
theorem dX6_tooth_79 : decode cX6_tooth 79 = .ok (.getfield 22, 3) := by decide +kernel
theorem dX6_tooth_82 : decode cX6_tooth 82 = .ok (.iload_n 1, 1) := by decide +kernel
theorem dX6_tooth_83 : decode cX6_tooth 83 = .ok (.invokevirtual 187, 3) := by decide +kernel
theorem dX6_tooth_86 : decode cX6_tooth 86 = .ok (.ifCond .eq 7, 3) := by decide +kernel
theorem dX6_tooth_89 : decode cX6_tooth 89 = .ok (.iconst 1, 1) := by decide +kernel
theorem dX6_tooth_90 : decode cX6_tooth 90 = .ok (.goto 4, 3) := by decide +kernel
theorem dX6_tooth_93 : decode cX6_tooth 93 = .ok (.iconst 0, 1) := by decide +kernel
theorem dX6_tooth_94 : decode cX6_tooth 94 = .ok (.ireturn, 1) := by decide +kernel
theorem dX6_tooth_95 : decode cX6_tooth 95 = .ok (.aload_n 0, 1) := by decide +kernel
theorem dX6_tooth_96 : decode cX6_tooth 96 = .ok (.getfield 22, 3) := by decide +kernel
theorem dX6_tooth_99 : decode cX6_tooth 99 = .ok (.iload_n 1, 1) := by decide +kernel
theorem dX6_tooth_100 : decode cX6_tooth 100 = .ok (.invokevirtual 202, 3) := by decide +kernel
theorem dX6_tooth_103 : decode cX6_tooth 103 = .ok (.ireturn, 1) := by decide +kernel
theorem dX6_tooth_104 : decode cX6_tooth 104 = .ok (.ldc 68, 2) := by decide +kernel
theorem dX6_tooth_106 : decode cX6_tooth 106 = .ok (.ireturn, 1) := by decide +kernel
theorem dX6_pins_0 : decode cX6_pins 0 = .ok (.aload_n 0, 1) := by decide +kernel
theorem dX6_pins_1 : decode cX6_pins 1 = .ok (.iload_n 1, 1) := by decide +kernel
theorem dX6_pins_2 : decode cX6_pins 2 = .ok (.invokevirtual 172, 3) := by decide +kernel
theorem dX6_pins_5 : decode cX6_pins 5 = .ok (.ifCond .eq 15, 3) := by decide +kernel
theorem dX6_pins_8 : decode cX6_pins 8 = .ok (.aload_n 0, 1) := by decide +kernel
theorem dX6_pins_9 : decode cX6_pins 9 = .ok (.getfield 22, 3) := by decide +kernel
theorem dX6_pins_12 : decode cX6_pins 12 = .ok (.getfield 181, 3) := by decide +kernel
theorem dX6_pins_15 : decode cX6_pins 15 = .ok (.iload_n 1, 1) := by decide +kernel
theorem dX6_pins_16 : decode cX6_pins 16 = .ok (.iaload, 1) := by decide +kernel
theorem dX6_pins_17 : decode cX6_pins 17 = .ok (.goto 5, 3) := by decide +kernel
theorem dX6_pins_20 : decode cX6_pins 20 = .ok (.ldc 68, 2) := by decide +kernel
theorem dX6_pins_22 : decode cX6_pins 22 = .ok (.ireturn, 1) := by decide +kernel
theorem dX6_stand_0 : decode cX6_stand 0 = .ok (.aload_n 0, 1) := by decide +kernel
theorem dX6_stand_1 : decode cX6_stand 1 = .ok (.invokevirtual 148, 3) := by decide +kernel
theorem dX6_stand_4 : decode cX6_stand 4 = .ok (.ifCond .ne 6, 3) := by decide +kernel
theorem dX6_stand_7 : decode cX6_stand 7 = .ok (.ldc 144, 2) := by decide +kernel
theorem dX6_stand_9 : decode cX6_stand 9 = .ok (.ireturn, 1) := by decide +kernel
theorem dX6_stand_10 : decode cX6_stand 10 = .ok (.iload_n 1, 1) := by decide +kernel
theorem dX6_stand_11 : decode cX6_stand 11 = .ok (.tableswitch 85 0 5 #[37, 45, 53, 61, 69, 77], 37) := by decide +kernel
theorem dX6_stand_48 : decode cX6_stand 48 = .ok (.aload_n 0, 1) := by decide +kernel
theorem dX6_stand_49 : decode cX6_stand 49 = .ok (.getfield 22, 3) := by decide +kernel
theorem dX6_stand_52 : decode cX6_stand 52 = .ok (.getfield 205, 3) := by decide +kernel
theorem dX6_stand_55 : decode cX6_stand 55 = .ok (.ireturn, 1) := by decide +kernel
theorem dX6_stand_56 : decode cX6_stand 56 = .ok (.aload_n 0, 1) := by decide +kernel
theorem dX6_stand_57 : decode cX6_stand 57 = .ok (.getfield 22, 3) := by decide +kernel
theorem dX6_stand_60 : decode cX6_stand 60 = .ok (.getfield 184, 3) := by decide +kernel
theorem dX6_stand_63 : decode cX6_stand 63 = .ok (.ireturn, 1) := by decide +kernel
theorem dX6_stand_64 : decode cX6_stand 64 = .ok (.aload_n 0, 1) := by decide +kernel
theorem dX6_stand_65 : decode cX6_stand 65 = .ok (.getfield 22, 3) := by decide +kernel
theorem dX6_stand_68 : decode cX6_stand 68 = .ok (.getfield 169, 3) := by decide +kernel
theorem dX6_stand_71 : decode cX6_stand 71 = .ok (.ireturn, 1) := by decide +kernel
theorem dX6_stand_72 : decode cX6_stand 72 = .ok (.aload_n 0, 1) := by decide +kernel
theorem dX6_stand_73 : decode cX6_stand 73 = .ok (.getfield 22, 3) := by decide +kernel
theorem dX6_stand_76 : decode cX6_stand 76 = .ok (.invokevirtual 162, 3) := by decide +kernel
theorem dX6_stand_79 : decode cX6_stand 79 = .ok (.ireturn, 1) := by decide +kernel
theorem dX6_stand_80 : decode cX6_stand 80 = .ok (.aload_n 0, 1) := by decide +kernel
theorem dX6_stand_81 : decode cX6_stand 81 = .ok (.getfield 22, 3) := by decide +kernel
theorem dX6_stand_84 : decode cX6_stand 84 = .ok (.invokevirtual 208, 3) := by decide +kernel
theorem dX6_stand_87 : decode cX6_stand 87 = .ok (.ireturn, 1) := by decide +kernel
theorem dX6_stand_88 : decode cX6_stand 88 = .ok (.aload_n 0, 1) := by decide +kernel
theorem dX6_stand_89 : decode cX6_stand 89 = .ok (.getfield 22, 3) := by decide +kernel
theorem dX6_stand_92 : decode cX6_stand 92 = .ok (.getfield 211, 3) := by decide +kernel
theorem dX6_stand_95 : decode cX6_stand 95 = .ok (.ireturn, 1) := by decide +kernel
theorem dX6_stand_96 : decode cX6_stand 96 = .ok (.ldc 68, 2) := by decide +kernel
theorem dX6_stand_98 : decode cX6_stand 98 = .ok (.ireturn, 1) := by decide +kernel
theorem dX6_ahead_0 : decode cX6_ahead 0 = .ok (.aload_n 0, 1) := by decide +kernel
theorem dX6_ahead_1 : decode cX6_ahead 1 = .ok (.iload_n 1, 1) := by decide +kernel
theorem dX6_ahead_2 : decode cX6_ahead 2 = .ok (.invokevirtual 175, 3) := by decide +kernel
theorem dX6_ahead_5 : decode cX6_ahead 5 = .ok (.ifCond .eq 22, 3) := by decide +kernel
theorem dX6_ahead_8 : decode cX6_ahead 8 = .ok (.iload_n 2, 1) := by decide +kernel
theorem dX6_ahead_9 : decode cX6_ahead 9 = .ok (.iconst 0, 1) := by decide +kernel
theorem dX6_ahead_10 : decode cX6_ahead 10 = .ok (.bipush 60, 2) := by decide +kernel
theorem dX6_ahead_12 : decode cX6_ahead 12 = .ok (.invokestatic 64, 3) := by decide +kernel
theorem dX6_ahead_15 : decode cX6_ahead 15 = .ok (.ifCond .eq 12, 3) := by decide +kernel
theorem dX6_ahead_18 : decode cX6_ahead 18 = .ok (.iload_n 3, 1) := by decide +kernel
theorem dX6_ahead_19 : decode cX6_ahead 19 = .ok (.iconst 0, 1) := by decide +kernel
theorem dX6_ahead_20 : decode cX6_ahead 20 = .ok (.iconst 2, 1) := by decide +kernel
theorem dX6_ahead_21 : decode cX6_ahead 21 = .ok (.invokestatic 64, 3) := by decide +kernel
theorem dX6_ahead_24 : decode cX6_ahead 24 = .ok (.ifCond .ne 6, 3) := by decide +kernel
theorem dX6_ahead_27 : decode cX6_ahead 27 = .ok (.ldc 68, 2) := by decide +kernel
theorem dX6_ahead_29 : decode cX6_ahead 29 = .ok (.ireturn, 1) := by decide +kernel
theorem dX6_ahead_30 : decode cX6_ahead 30 = .ok (.aload_n 0, 1) := by decide +kernel
theorem dX6_ahead_31 : decode cX6_ahead 31 = .ok (.getfield 48, 3) := by decide +kernel
theorem dX6_ahead_34 : decode cX6_ahead 34 = .ok (.iload_n 1, 1) := by decide +kernel
theorem dX6_ahead_35 : decode cX6_ahead 35 = .ok (.iload_n 2, 1) := by decide +kernel
theorem dX6_ahead_36 : decode cX6_ahead 36 = .ok (.iload_n 3, 1) := by decide +kernel
theorem dX6_ahead_37 : decode cX6_ahead 37 = .ok (.invokevirtual 214, 3) := by decide +kernel
theorem dX6_ahead_40 : decode cX6_ahead 40 = .ok (.ireturn, 1) := by decide +kernel
theorem dX6_heard_0 : decode cX6_heard 0 = .ok (.aload_n 0, 1) := by decide +kernel
theorem dX6_heard_1 : decode cX6_heard 1 = .ok (.invokevirtual 148, 3) := by decide +kernel
theorem dX6_heard_4 : decode cX6_heard 4 = .ok (.ifCond .ne 6, 3) := by decide +kernel
theorem dX6_heard_7 : decode cX6_heard 7 = .ok (.ldc 144, 2) := by decide +kernel
theorem dX6_heard_9 : decode cX6_heard 9 = .ok (.ireturn, 1) := by decide +kernel
theorem dX6_heard_10 : decode cX6_heard 10 = .ok (.iload_n 1, 1) := by decide +kernel
theorem dX6_heard_11 : decode cX6_heard 11 = .ok (.iconst 0, 1) := by decide +kernel
theorem dX6_heard_12 : decode cX6_heard 12 = .ok (.bipush 60, 2) := by decide +kernel
theorem dX6_heard_14 : decode cX6_heard 14 = .ok (.invokestatic 64, 3) := by decide +kernel
theorem dX6_heard_17 : decode cX6_heard 17 = .ok (.ifCond .eq 12, 3) := by decide +kernel
theorem dX6_heard_20 : decode cX6_heard 20 = .ok (.iload_n 2, 1) := by decide +kernel
theorem dX6_heard_21 : decode cX6_heard 21 = .ok (.iconst 0, 1) := by decide +kernel
theorem dX6_heard_22 : decode cX6_heard 22 = .ok (.iconst 3, 1) := by decide +kernel
theorem dX6_heard_23 : decode cX6_heard 23 = .ok (.invokestatic 64, 3) := by decide +kernel
theorem dX6_heard_26 : decode cX6_heard 26 = .ok (.ifCond .ne 6, 3) := by decide +kernel
theorem dX6_heard_29 : decode cX6_heard 29 = .ok (.ldc 68, 2) := by decide +kernel
theorem dX6_heard_31 : decode cX6_heard 31 = .ok (.ireturn, 1) := by decide +kernel
theorem dX6_heard_32 : decode cX6_heard 32 = .ok (.aload_n 0, 1) := by decide +kernel
theorem dX6_heard_33 : decode cX6_heard 33 = .ok (.getfield 48, 3) := by decide +kernel
theorem dX6_heard_36 : decode cX6_heard 36 = .ok (.iload_n 1, 1) := by decide +kernel
theorem dX6_heard_37 : decode cX6_heard 37 = .ok (.iload_n 2, 1) := by decide +kernel
theorem dX6_heard_38 : decode cX6_heard 38 = .ok (.invokevirtual 218, 3) := by decide +kernel
theorem dX6_heard_41 : decode cX6_heard 41 = .ok (.ireturn, 1) := by decide +kernel
theorem dX6_when_0 : decode cX6_when 0 = .ok (.aload_n 0, 1) := by decide +kernel
theorem dX6_when_1 : decode cX6_when 1 = .ok (.iload_n 1, 1) := by decide +kernel
theorem dX6_when_2 : decode cX6_when 2 = .ok (.invokevirtual 175, 3) := by decide +kernel
theorem dX6_when_5 : decode cX6_when 5 = .ok (.ifCond .eq 12, 3) := by decide +kernel
theorem dX6_when_8 : decode cX6_when 8 = .ok (.iload_n 2, 1) := by decide +kernel
theorem dX6_when_9 : decode cX6_when 9 = .ok (.iconst 0, 1) := by decide +kernel
theorem dX6_when_10 : decode cX6_when 10 = .ok (.iconst 1, 1) := by decide +kernel
theorem dX6_when_11 : decode cX6_when 11 = .ok (.invokestatic 64, 3) := by decide +kernel
theorem dX6_when_14 : decode cX6_when 14 = .ok (.ifCond .ne 6, 3) := by decide +kernel
theorem dX6_when_17 : decode cX6_when 17 = .ok (.ldc 68, 2) := by decide +kernel
theorem dX6_when_19 : decode cX6_when 19 = .ok (.ireturn, 1) := by decide +kernel
theorem dX6_when_20 : decode cX6_when 20 = .ok (.aload_n 0, 1) := by decide +kernel
theorem dX6_when_21 : decode cX6_when 21 = .ok (.getfield 48, 3) := by decide +kernel
theorem dX6_when_24 : decode cX6_when 24 = .ok (.iload_n 1, 1) := by decide +kernel
theorem dX6_when_25 : decode cX6_when 25 = .ok (.iload_n 2, 1) := by decide +kernel
theorem dX6_when_26 : decode cX6_when 26 = .ok (.invokevirtual 221, 3) := by decide +kernel
theorem dX6_when_29 : decode cX6_when 29 = .ok (.ireturn, 1) := by decide +kernel
theorem dX6_stops_0 : decode cX6_stops 0 = .ok (.aload_n 0, 1) := by decide +kernel
theorem dX6_stops_1 : decode cX6_stops 1 = .ok (.invokevirtual 148, 3) := by decide +kernel
theorem dX6_stops_4 : decode cX6_stops 4 = .ok (.ifCond .eq 13, 3) := by decide +kernel
theorem dX6_stops_7 : decode cX6_stops 7 = .ok (.aload_n 0, 1) := by decide +kernel
theorem dX6_stops_8 : decode cX6_stops 8 = .ok (.getfield 48, 3) := by decide +kernel
theorem dX6_stops_11 : decode cX6_stops 11 = .ok (.invokevirtual 224, 3) := by decide +kernel
theorem dX6_stops_14 : decode cX6_stops 14 = .ok (.goto 5, 3) := by decide +kernel
theorem dX6_stops_17 : decode cX6_stops 17 = .ok (.ldc 144, 2) := by decide +kernel
theorem dX6_stops_19 : decode cX6_stops 19 = .ok (.ireturn, 1) := by decide +kernel
theorem dX6_bestPin_0 : decode cX6_bestPin 0 = .ok (.aload_n 0, 1) := by decide +kernel
theorem dX6_bestPin_1 : decode cX6_bestPin 1 = .ok (.invokevirtual 148, 3) := by decide +kernel
theorem dX6_bestPin_4 : decode cX6_bestPin 4 = .ok (.ifCond .ne 6, 3) := by decide +kernel
theorem dX6_bestPin_7 : decode cX6_bestPin 7 = .ok (.ldc 144, 2) := by decide +kernel
theorem dX6_bestPin_9 : decode cX6_bestPin 9 = .ok (.ireturn, 1) := by decide +kernel
theorem dX6_bestPin_10 : decode cX6_bestPin 10 = .ok (.iload_n 1, 1) := by decide +kernel
theorem dX6_bestPin_11 : decode cX6_bestPin 11 = .ok (.iconst 1, 1) := by decide +kernel
theorem dX6_bestPin_12 : decode cX6_bestPin 12 = .ok (.bipush 20, 2) := by decide +kernel
theorem dX6_bestPin_14 : decode cX6_bestPin 14 = .ok (.invokestatic 64, 3) := by decide +kernel
theorem dX6_bestPin_17 : decode cX6_bestPin 17 = .ok (.ifCond .eq 12, 3) := by decide +kernel
theorem dX6_bestPin_20 : decode cX6_bestPin 20 = .ok (.iload_n 2, 1) := by decide +kernel
theorem dX6_bestPin_21 : decode cX6_bestPin 21 = .ok (.iconst 0, 1) := by decide +kernel
theorem dX6_bestPin_22 : decode cX6_bestPin 22 = .ok (.iconst 1, 1) := by decide +kernel
theorem dX6_bestPin_23 : decode cX6_bestPin 23 = .ok (.invokestatic 64, 3) := by decide +kernel
theorem dX6_bestPin_26 : decode cX6_bestPin 26 = .ok (.ifCond .ne 6, 3) := by decide +kernel
theorem dX6_bestPin_29 : decode cX6_bestPin 29 = .ok (.ldc 68, 2) := by decide +kernel
theorem dX6_bestPin_31 : decode cX6_bestPin 31 = .ok (.ireturn, 1) := by decide +kernel
theorem dX6_bestPin_32 : decode cX6_bestPin 32 = .ok (.aload_n 0, 1) := by decide +kernel
theorem dX6_bestPin_33 : decode cX6_bestPin 33 = .ok (.getfield 48, 3) := by decide +kernel
theorem dX6_bestPin_36 : decode cX6_bestPin 36 = .ok (.iload_n 1, 1) := by decide +kernel
theorem dX6_bestPin_37 : decode cX6_bestPin 37 = .ok (.iload_n 2, 1) := by decide +kernel
theorem dX6_bestPin_38 : decode cX6_bestPin 38 = .ok (.invokevirtual 227, 3) := by decide +kernel
theorem dX6_bestPin_41 : decode cX6_bestPin 41 = .ok (.ireturn, 1) := by decide +kernel
theorem dX6_begin_0 : decode cX6_begin 0 = .ok (.aload_n 0, 1) := by decide +kernel
theorem dX6_begin_1 : decode cX6_begin 1 = .ok (.invokevirtual 148, 3) := by decide +kernel
theorem dX6_begin_4 : decode cX6_begin 4 = .ok (.ifCond .ne 6, 3) := by decide +kernel
theorem dX6_begin_7 : decode cX6_begin 7 = .ok (.ldc 144, 2) := by decide +kernel
theorem dX6_begin_9 : decode cX6_begin 9 = .ok (.ireturn, 1) := by decide +kernel
theorem dX6_begin_10 : decode cX6_begin 10 = .ok (.iload_n 1, 1) := by decide +kernel
theorem dX6_begin_11 : decode cX6_begin 11 = .ok (.iconst 1, 1) := by decide +kernel
theorem dX6_begin_12 : decode cX6_begin 12 = .ok (.bipush 40, 2) := by decide +kernel
theorem dX6_begin_14 : decode cX6_begin 14 = .ok (.invokestatic 64, 3) := by decide +kernel
theorem dX6_begin_17 : decode cX6_begin 17 = .ok (.ifCond .eq 12, 3) := by decide +kernel
theorem dX6_begin_20 : decode cX6_begin 20 = .ok (.iload_n 2, 1) := by decide +kernel
theorem dX6_begin_21 : decode cX6_begin 21 = .ok (.iconst 0, 1) := by decide +kernel
theorem dX6_begin_22 : decode cX6_begin 22 = .ok (.iconst 1, 1) := by decide +kernel
theorem dX6_begin_23 : decode cX6_begin 23 = .ok (.invokestatic 64, 3) := by decide +kernel
theorem dX6_begin_26 : decode cX6_begin 26 = .ok (.ifCond .ne 6, 3) := by decide +kernel
theorem dX6_begin_29 : decode cX6_begin 29 = .ok (.ldc 68, 2) := by decide +kernel
theorem dX6_begin_31 : decode cX6_begin 31 = .ok (.ireturn, 1) := by decide +kernel
theorem dX6_begin_32 : decode cX6_begin 32 = .ok (.aload_n 0, 1) := by decide +kernel
theorem dX6_begin_33 : decode cX6_begin 33 = .ok (.getfield 48, 3) := by decide +kernel
theorem dX6_begin_36 : decode cX6_begin 36 = .ok (.iload_n 1, 1) := by decide +kernel
theorem dX6_begin_37 : decode cX6_begin 37 = .ok (.iload_n 2, 1) := by decide +kernel
theorem dX6_begin_38 : decode cX6_begin 38 = .ok (.invokevirtual 230, 3) := by decide +kernel
theorem dX6_begin_41 : decode cX6_begin 41 = .ok (.ireturn, 1) := by decide +kernel
theorem dX6_least_0 : decode cX6_least 0 = .ok (.aload_n 0, 1) := by decide +kernel
theorem dX6_least_1 : decode cX6_least 1 = .ok (.invokevirtual 148, 3) := by decide +kernel
theorem dX6_least_4 : decode cX6_least 4 = .ok (.ifCond .ne 6, 3) := by decide +kernel
theorem dX6_least_7 : decode cX6_least 7 = .ok (.ldc 144, 2) := by decide +kernel
theorem dX6_least_9 : decode cX6_least 9 = .ok (.ireturn, 1) := by decide +kernel
theorem dX6_least_10 : decode cX6_least 10 = .ok (.iload_n 1, 1) := by decide +kernel
theorem dX6_least_11 : decode cX6_least 11 = .ok (.iconst 1, 1) := by decide +kernel
theorem dX6_least_12 : decode cX6_least 12 = .ok (.bipush 40, 2) := by decide +kernel
theorem dX6_least_14 : decode cX6_least 14 = .ok (.invokestatic 64, 3) := by decide +kernel
theorem dX6_least_17 : decode cX6_least 17 = .ok (.ifCond .ne 6, 3) := by decide +kernel
theorem dX6_least_20 : decode cX6_least 20 = .ok (.ldc 68, 2) := by decide +kernel
theorem dX6_least_22 : decode cX6_least 22 = .ok (.ireturn, 1) := by decide +kernel
theorem dX6_least_23 : decode cX6_least 23 = .ok (.aload_n 0, 1) := by decide +kernel
theorem dX6_least_24 : decode cX6_least 24 = .ok (.getfield 48, 3) := by decide +kernel
theorem dX6_least_27 : decode cX6_least 27 = .ok (.iload_n 1, 1) := by decide +kernel
theorem dX6_least_28 : decode cX6_least 28 = .ok (.invokevirtual 233, 3) := by decide +kernel
theorem dX6_least_31 : decode cX6_least 31 = .ok (.ireturn, 1) := by decide +kernel
theorem dX6_tune_0 : decode cX6_tune 0 = .ok (.aload_n 0, 1) := by decide +kernel
theorem dX6_tune_1 : decode cX6_tune 1 = .ok (.invokevirtual 148, 3) := by decide +kernel
theorem dX6_tune_4 : decode cX6_tune 4 = .ok (.ifCond .ne 6, 3) := by decide +kernel
theorem dX6_tune_7 : decode cX6_tune 7 = .ok (.ldc 144, 2) := by decide +kernel
theorem dX6_tune_9 : decode cX6_tune 9 = .ok (.ireturn, 1) := by decide +kernel
theorem dX6_tune_10 : decode cX6_tune 10 = .ok (.iload_n 1, 1) := by decide +kernel
theorem dX6_tune_11 : decode cX6_tune 11 = .ok (.invokestatic 60, 3) := by decide +kernel
theorem dX6_tune_14 : decode cX6_tune 14 = .ok (.ifCond .eq 13, 3) := by decide +kernel
theorem dX6_tune_17 : decode cX6_tune 17 = .ok (.iload_n 3, 1) := by decide +kernel
theorem dX6_tune_18 : decode cX6_tune 18 = .ok (.iconst 1, 1) := by decide +kernel
theorem dX6_tune_19 : decode cX6_tune 19 = .ok (.bipush 12, 2) := by decide +kernel
theorem dX6_tune_21 : decode cX6_tune 21 = .ok (.invokestatic 64, 3) := by decide +kernel
theorem dX6_tune_24 : decode cX6_tune 24 = .ok (.ifCond .ne 6, 3) := by decide +kernel
theorem dX6_tune_27 : decode cX6_tune 27 = .ok (.ldc 68, 2) := by decide +kernel
theorem dX6_tune_29 : decode cX6_tune 29 = .ok (.ireturn, 1) := by decide +kernel
theorem dX6_tune_30 : decode cX6_tune 30 = .ok (.aload_n 0, 1) := by decide +kernel
theorem dX6_tune_31 : decode cX6_tune 31 = .ok (.getfield 11, 3) := by decide +kernel
theorem dX6_tune_34 : decode cX6_tune 34 = .ok (.iload_n 1, 1) := by decide +kernel
theorem dX6_tune_35 : decode cX6_tune 35 = .ok (.aaload, 1) := by decide +kernel
theorem dX6_tune_36 : decode cX6_tune 36 = .ok (.iload_n 2, 1) := by decide +kernel
theorem dX6_tune_37 : decode cX6_tune 37 = .ok (.iload_n 3, 1) := by decide +kernel
theorem dX6_tune_38 : decode cX6_tune 38 = .ok (.invokestatic 80, 3) := by decide +kernel
theorem dX6_tune_41 : decode cX6_tune 41 = .ok (.istore 4, 2) := by decide +kernel
theorem dX6_tune_43 : decode cX6_tune 43 = .ok (.iload 4, 2) := by decide +kernel
theorem dX6_tune_45 : decode cX6_tune 45 = .ok (.ifCond .eq 10, 3) := by decide +kernel
theorem dX6_tune_48 : decode cX6_tune 48 = .ok (.aload_n 0, 1) := by decide +kernel
theorem dX6_tune_49 : decode cX6_tune 49 = .ok (.iload 4, 2) := by decide +kernel
theorem dX6_tune_51 : decode cX6_tune 51 = .ok (.invokevirtual 69, 3) := by decide +kernel
theorem dX6_tune_54 : decode cX6_tune 54 = .ok (.ireturn, 1) := by decide +kernel
theorem dX6_tune_55 : decode cX6_tune 55 = .ok (.aload_n 0, 1) := by decide +kernel
theorem dX6_tune_56 : decode cX6_tune 56 = .ok (.aload_n 0, 1) := by decide +kernel
theorem dX6_tune_57 : decode cX6_tune 57 = .ok (.getfield 48, 3) := by decide +kernel
theorem dX6_tune_60 : decode cX6_tune 60 = .ok (.aload_n 0, 1) := by decide +kernel
theorem dX6_tune_61 : decode cX6_tune 61 = .ok (.getfield 11, 3) := by decide +kernel
theorem dX6_tune_64 : decode cX6_tune 64 = .ok (.iload_n 1, 1) := by decide +kernel
theorem dX6_tune_65 : decode cX6_tune 65 = .ok (.aaload, 1) := by decide +kernel
theorem dX6_tune_66 : decode cX6_tune 66 = .ok (.iload_n 2, 1) := by decide +kernel
theorem dX6_tune_67 : decode cX6_tune 67 = .ok (.iload_n 3, 1) := by decide +kernel
theorem dX6_tune_68 : decode cX6_tune 68 = .ok (.invokevirtual 236, 3) := by decide +kernel
theorem dX6_tune_71 : decode cX6_tune 71 = .ok (.invokevirtual 77, 3) := by decide +kernel
theorem dX6_tune_74 : decode cX6_tune 74 = .ok (.ireturn, 1) := by decide +kernel
theorem dX6_sets_0 : decode cX6_sets 0 = .ok (.aload_n 0, 1) := by decide +kernel
theorem dX6_sets_1 : decode cX6_sets 1 = .ok (.invokevirtual 148, 3) := by decide +kernel
theorem dX6_sets_4 : decode cX6_sets 4 = .ok (.ifCond .ne 6, 3) := by decide +kernel
theorem dX6_sets_7 : decode cX6_sets 7 = .ok (.ldc 144, 2) := by decide +kernel
theorem dX6_sets_9 : decode cX6_sets 9 = .ok (.ireturn, 1) := by decide +kernel
theorem dX6_sets_10 : decode cX6_sets 10 = .ok (.iload_n 1, 1) := by decide +kernel
theorem dX6_sets_11 : decode cX6_sets 11 = .ok (.iconst 0, 1) := by decide +kernel
theorem dX6_sets_12 : decode cX6_sets 12 = .ok (.bipush 99, 2) := by decide +kernel
theorem dX6_sets_14 : decode cX6_sets 14 = .ok (.invokestatic 64, 3) := by decide +kernel
theorem dX6_sets_17 : decode cX6_sets 17 = .ok (.ifCond .eq 12, 3) := by decide +kernel
theorem dX6_sets_20 : decode cX6_sets 20 = .ok (.iload_n 2, 1) := by decide +kernel
theorem dX6_sets_21 : decode cX6_sets 21 = .ok (.iconst 0, 1) := by decide +kernel
theorem dX6_sets_22 : decode cX6_sets 22 = .ok (.iconst 2, 1) := by decide +kernel
theorem dX6_sets_23 : decode cX6_sets 23 = .ok (.invokestatic 64, 3) := by decide +kernel
theorem dX6_sets_26 : decode cX6_sets 26 = .ok (.ifCond .ne 6, 3) := by decide +kernel
theorem dX6_sets_29 : decode cX6_sets 29 = .ok (.ldc 68, 2) := by decide +kernel
theorem dX6_sets_31 : decode cX6_sets 31 = .ok (.ireturn, 1) := by decide +kernel
theorem dX6_sets_32 : decode cX6_sets 32 = .ok (.aload_n 0, 1) := by decide +kernel
theorem dX6_sets_33 : decode cX6_sets 33 = .ok (.getfield 48, 3) := by decide +kernel
theorem dX6_sets_36 : decode cX6_sets 36 = .ok (.iload_n 1, 1) := by decide +kernel
theorem dX6_sets_37 : decode cX6_sets 37 = .ok (.iload_n 2, 1) := by decide +kernel
theorem dX6_sets_38 : decode cX6_sets 38 = .ok (.invokevirtual 239, 3) := by decide +kernel
theorem dX6_sets_41 : decode cX6_sets 41 = .ok (.ireturn, 1) := by decide +kernel
theorem dX6_share_0 : decode cX6_share 0 = .ok (.aload_n 0, 1) := by decide +kernel
theorem dX6_share_1 : decode cX6_share 1 = .ok (.iload_n 1, 1) := by decide +kernel
theorem dX6_share_2 : decode cX6_share 2 = .ok (.invokevirtual 175, 3) := by decide +kernel
theorem dX6_share_5 : decode cX6_share 5 = .ok (.ifCond .eq 14, 3) := by decide +kernel
theorem dX6_share_8 : decode cX6_share 8 = .ok (.iload_n 2, 1) := by decide +kernel
theorem dX6_share_9 : decode cX6_share 9 = .ok (.iconst 0, 1) := by decide +kernel
theorem dX6_share_10 : decode cX6_share 10 = .ok (.sipush 999, 3) := by decide +kernel
theorem dX6_share_13 : decode cX6_share 13 = .ok (.invokestatic 64, 3) := by decide +kernel
theorem dX6_share_16 : decode cX6_share 16 = .ok (.ifCond .ne 6, 3) := by decide +kernel
theorem dX6_share_19 : decode cX6_share 19 = .ok (.ldc 68, 2) := by decide +kernel
theorem dX6_share_21 : decode cX6_share 21 = .ok (.ireturn, 1) := by decide +kernel
theorem dX6_share_22 : decode cX6_share 22 = .ok (.aload_n 0, 1) := by decide +kernel
theorem dX6_share_23 : decode cX6_share 23 = .ok (.getfield 48, 3) := by decide +kernel
theorem dX6_share_26 : decode cX6_share 26 = .ok (.iload_n 1, 1) := by decide +kernel
theorem dX6_share_27 : decode cX6_share 27 = .ok (.iload_n 2, 1) := by decide +kernel
theorem dX6_share_28 : decode cX6_share 28 = .ok (.invokevirtual 242, 3) := by decide +kernel
theorem dX6_share_31 : decode cX6_share 31 = .ok (.ireturn, 1) := by decide +kernel
theorem dX6_byTurns_0 : decode cX6_byTurns 0 = .ok (.aload_n 0, 1) := by decide +kernel
theorem dX6_byTurns_1 : decode cX6_byTurns 1 = .ok (.invokevirtual 148, 3) := by decide +kernel
theorem dX6_byTurns_4 : decode cX6_byTurns 4 = .ok (.ifCond .ne 6, 3) := by decide +kernel
theorem dX6_byTurns_7 : decode cX6_byTurns 7 = .ok (.ldc 144, 2) := by decide +kernel
theorem dX6_byTurns_9 : decode cX6_byTurns 9 = .ok (.ireturn, 1) := by decide +kernel
theorem dX6_byTurns_10 : decode cX6_byTurns 10 = .ok (.iload_n 1, 1) := by decide +kernel
theorem dX6_byTurns_11 : decode cX6_byTurns 11 = .ok (.iconst 0, 1) := by decide +kernel
theorem dX6_byTurns_12 : decode cX6_byTurns 12 = .ok (.iconst 4, 1) := by decide +kernel
theorem dX6_byTurns_13 : decode cX6_byTurns 13 = .ok (.invokestatic 64, 3) := by decide +kernel
theorem dX6_byTurns_16 : decode cX6_byTurns 16 = .ok (.ifCond .eq 13, 3) := by decide +kernel
theorem dX6_byTurns_19 : decode cX6_byTurns 19 = .ok (.iload_n 2, 1) := by decide +kernel
theorem dX6_byTurns_20 : decode cX6_byTurns 20 = .ok (.iconst 1, 1) := by decide +kernel
theorem dX6_byTurns_21 : decode cX6_byTurns 21 = .ok (.bipush 20, 2) := by decide +kernel
theorem dX6_byTurns_23 : decode cX6_byTurns 23 = .ok (.invokestatic 64, 3) := by decide +kernel
theorem dX6_byTurns_26 : decode cX6_byTurns 26 = .ok (.ifCond .ne 6, 3) := by decide +kernel
theorem dX6_byTurns_29 : decode cX6_byTurns 29 = .ok (.ldc 68, 2) := by decide +kernel
theorem dX6_byTurns_31 : decode cX6_byTurns 31 = .ok (.ireturn, 1) := by decide +kernel
theorem dX6_byTurns_32 : decode cX6_byTurns 32 = .ok (.aload_n 0, 1) := by decide +kernel
theorem dX6_byTurns_33 : decode cX6_byTurns 33 = .ok (.getfield 48, 3) := by decide +kernel
theorem dX6_byTurns_36 : decode cX6_byTurns 36 = .ok (.iload_n 1, 1) := by decide +kernel
theorem dX6_byTurns_37 : decode cX6_byTurns 37 = .ok (.iload_n 2, 1) := by decide +kernel
theorem dX6_byTurns_38 : decode cX6_byTurns 38 = .ok (.invokevirtual 245, 3) := by decide +kernel
theorem dX6_byTurns_41 : decode cX6_byTurns 41 = .ok (.ireturn, 1) := by decide +kernel
theorem dX6_who_0 : decode cX6_who 0 = .ok (.aload_n 0, 1) := by decide +kernel
theorem dX6_who_1 : decode cX6_who 1 = .ok (.iload_n 1, 1) := by decide +kernel
theorem dX6_who_2 : decode cX6_who 2 = .ok (.invokevirtual 175, 3) := by decide +kernel
theorem dX6_who_5 : decode cX6_who 5 = .ok (.ifCond .eq 30, 3) := by decide +kernel
theorem dX6_who_8 : decode cX6_who 8 = .ok (.iload_n 2, 1) := by decide +kernel
theorem dX6_who_9 : decode cX6_who 9 = .ok (.iconst 0, 1) := by decide +kernel
theorem dX6_who_10 : decode cX6_who 10 = .ok (.iconst 4, 1) := by decide +kernel
theorem dX6_who_11 : decode cX6_who 11 = .ok (.invokestatic 64, 3) := by decide +kernel
theorem dX6_who_14 : decode cX6_who 14 = .ok (.ifCond .eq 21, 3) := by decide +kernel
theorem dX6_who_17 : decode cX6_who 17 = .ok (.iload_n 3, 1) := by decide +kernel
theorem dX6_who_18 : decode cX6_who 18 = .ok (.invokestatic 60, 3) := by decide +kernel
theorem dX6_who_21 : decode cX6_who 21 = .ok (.ifCond .eq 14, 3) := by decide +kernel
theorem dX6_who_24 : decode cX6_who 24 = .ok (.iload 5, 2) := by decide +kernel
theorem dX6_who_26 : decode cX6_who 26 = .ok (.iconst 1, 1) := by decide +kernel
theorem dX6_who_27 : decode cX6_who 27 = .ok (.bipush 12, 2) := by decide +kernel
theorem dX6_who_29 : decode cX6_who 29 = .ok (.invokestatic 64, 3) := by decide +kernel
theorem dX6_who_32 : decode cX6_who 32 = .ok (.ifCond .ne 6, 3) := by decide +kernel
theorem dX6_who_35 : decode cX6_who 35 = .ok (.ldc 68, 2) := by decide +kernel
theorem dX6_who_37 : decode cX6_who 37 = .ok (.ireturn, 1) := by decide +kernel
theorem dX6_who_38 : decode cX6_who 38 = .ok (.aload_n 0, 1) := by decide +kernel
theorem dX6_who_39 : decode cX6_who 39 = .ok (.getfield 11, 3) := by decide +kernel
theorem dX6_who_42 : decode cX6_who 42 = .ok (.iload_n 3, 1) := by decide +kernel
theorem dX6_who_43 : decode cX6_who 43 = .ok (.aaload, 1) := by decide +kernel
theorem dX6_who_44 : decode cX6_who 44 = .ok (.iload 4, 2) := by decide +kernel
theorem dX6_who_46 : decode cX6_who 46 = .ok (.iload 5, 2) := by decide +kernel
theorem dX6_who_48 : decode cX6_who 48 = .ok (.invokestatic 80, 3) := by decide +kernel
theorem dX6_who_51 : decode cX6_who 51 = .ok (.istore 6, 2) := by decide +kernel
theorem dX6_who_53 : decode cX6_who 53 = .ok (.iload 6, 2) := by decide +kernel
theorem dX6_who_55 : decode cX6_who 55 = .ok (.ifCond .eq 10, 3) := by decide +kernel
theorem dX6_who_58 : decode cX6_who 58 = .ok (.aload_n 0, 1) := by decide +kernel
theorem dX6_who_59 : decode cX6_who 59 = .ok (.iload 6, 2) := by decide +kernel
theorem dX6_who_61 : decode cX6_who 61 = .ok (.invokevirtual 69, 3) := by decide +kernel
theorem dX6_who_64 : decode cX6_who 64 = .ok (.ireturn, 1) := by decide +kernel
theorem dX6_who_65 : decode cX6_who 65 = .ok (.aload_n 0, 1) := by decide +kernel
theorem dX6_who_66 : decode cX6_who 66 = .ok (.aload_n 0, 1) := by decide +kernel
theorem dX6_who_67 : decode cX6_who 67 = .ok (.getfield 48, 3) := by decide +kernel
theorem dX6_who_70 : decode cX6_who 70 = .ok (.iload_n 1, 1) := by decide +kernel
theorem dX6_who_71 : decode cX6_who 71 = .ok (.iload_n 2, 1) := by decide +kernel
theorem dX6_who_72 : decode cX6_who 72 = .ok (.aload_n 0, 1) := by decide +kernel
theorem dX6_who_73 : decode cX6_who 73 = .ok (.getfield 11, 3) := by decide +kernel
theorem dX6_who_76 : decode cX6_who 76 = .ok (.iload_n 3, 1) := by decide +kernel
theorem dX6_who_77 : decode cX6_who 77 = .ok (.aaload, 1) := by decide +kernel
theorem dX6_who_78 : decode cX6_who 78 = .ok (.iload 4, 2) := by decide +kernel
theorem dX6_who_80 : decode cX6_who 80 = .ok (.iload 5, 2) := by decide +kernel
theorem dX6_who_82 : decode cX6_who 82 = .ok (.invokevirtual 248, 3) := by decide +kernel
theorem dX6_who_85 : decode cX6_who 85 = .ok (.invokevirtual 77, 3) := by decide +kernel
theorem dX6_who_88 : decode cX6_who 88 = .ok (.ireturn, 1) := by decide +kernel
theorem dX6_lost_0 : decode cX6_lost 0 = .ok (.aload_n 0, 1) := by decide +kernel
theorem dX6_lost_1 : decode cX6_lost 1 = .ok (.iload_n 1, 1) := by decide +kernel
theorem dX6_lost_2 : decode cX6_lost 2 = .ok (.invokevirtual 175, 3) := by decide +kernel
theorem dX6_lost_5 : decode cX6_lost 5 = .ok (.ifCond .eq 33, 3) := by decide +kernel
theorem dX6_lost_8 : decode cX6_lost 8 = .ok (.iload_n 2, 1) := by decide +kernel
theorem dX6_lost_9 : decode cX6_lost 9 = .ok (.iconst 0, 1) := by decide +kernel
theorem dX6_lost_10 : decode cX6_lost 10 = .ok (.bipush 20, 2) := by decide +kernel
theorem dX6_lost_12 : decode cX6_lost 12 = .ok (.invokestatic 64, 3) := by decide +kernel
theorem dX6_lost_15 : decode cX6_lost 15 = .ok (.ifCond .eq 23, 3) := by decide +kernel
theorem dX6_lost_18 : decode cX6_lost 18 = .ok (.iload_n 3, 1) := by decide +kernel
theorem dX6_lost_19 : decode cX6_lost 19 = .ok (.iconst 0, 1) := by decide +kernel
theorem dX6_lost_20 : decode cX6_lost 20 = .ok (.bipush 10, 2) := by decide +kernel
theorem dX6_lost_22 : decode cX6_lost 22 = .ok (.invokestatic 64, 3) := by decide +kernel
theorem dX6_lost_25 : decode cX6_lost 25 = .ok (.ifCond .eq 13, 3) := by decide +kernel
theorem dX6_lost_28 : decode cX6_lost 28 = .ok (.iload 4, 2) := by decide +kernel
theorem dX6_lost_30 : decode cX6_lost 30 = .ok (.iconst 0, 1) := by decide +kernel
theorem dX6_lost_31 : decode cX6_lost 31 = .ok (.iconst 1, 1) := by decide +kernel
theorem dX6_lost_32 : decode cX6_lost 32 = .ok (.invokestatic 64, 3) := by decide +kernel
theorem dX6_lost_35 : decode cX6_lost 35 = .ok (.ifCond .ne 7, 3) := by decide +kernel
theorem dX6_lost_38 : decode cX6_lost 38 = .ok (.ldc2_w 252, 3) := by decide +kernel
theorem dX6_lost_41 : decode cX6_lost 41 = .ok (.lreturn, 1) := by decide +kernel
theorem dX6_lost_42 : decode cX6_lost 42 = .ok (.aload_n 0, 1) := by decide +kernel
theorem dX6_lost_43 : decode cX6_lost 43 = .ok (.getfield 48, 3) := by decide +kernel
theorem dX6_lost_46 : decode cX6_lost 46 = .ok (.iload_n 1, 1) := by decide +kernel
theorem dX6_lost_47 : decode cX6_lost 47 = .ok (.iload_n 2, 1) := by decide +kernel
theorem dX6_lost_48 : decode cX6_lost 48 = .ok (.iload_n 3, 1) := by decide +kernel
theorem dX6_lost_49 : decode cX6_lost 49 = .ok (.iload 4, 2) := by decide +kernel
theorem dX6_lost_51 : decode cX6_lost 51 = .ok (.invokevirtual 254, 3) := by decide +kernel
theorem dX6_lost_54 : decode cX6_lost 54 = .ok (.lreturn, 1) := by decide +kernel
theorem dX6_drawn_0 : decode cX6_drawn 0 = .ok (.aload_n 0, 1) := by decide +kernel
theorem dX6_drawn_1 : decode cX6_drawn 1 = .ok (.invokevirtual 148, 3) := by decide +kernel
theorem dX6_drawn_4 : decode cX6_drawn 4 = .ok (.ifCond .ne 6, 3) := by decide +kernel
theorem dX6_drawn_7 : decode cX6_drawn 7 = .ok (.ldc 144, 2) := by decide +kernel
theorem dX6_drawn_9 : decode cX6_drawn 9 = .ok (.ireturn, 1) := by decide +kernel
theorem dX6_drawn_10 : decode cX6_drawn 10 = .ok (.iload_n 1, 1) := by decide +kernel
theorem dX6_drawn_11 : decode cX6_drawn 11 = .ok (.iconst 0, 1) := by decide +kernel
theorem dX6_drawn_12 : decode cX6_drawn 12 = .ok (.bipush 60, 2) := by decide +kernel
theorem dX6_drawn_14 : decode cX6_drawn 14 = .ok (.invokestatic 64, 3) := by decide +kernel
theorem dX6_drawn_17 : decode cX6_drawn 17 = .ok (.ifCond .eq 23, 3) := by decide +kernel
theorem dX6_drawn_20 : decode cX6_drawn 20 = .ok (.iload_n 2, 1) := by decide +kernel
theorem dX6_drawn_21 : decode cX6_drawn 21 = .ok (.iconst 1, 1) := by decide +kernel
theorem dX6_drawn_22 : decode cX6_drawn 22 = .ok (.ldc_w 258, 3) := by decide +kernel
theorem dX6_drawn_25 : decode cX6_drawn 25 = .ok (.invokestatic 64, 3) := by decide +kernel
theorem dX6_drawn_28 : decode cX6_drawn 28 = .ok (.ifCond .eq 12, 3) := by decide +kernel
theorem dX6_drawn_31 : decode cX6_drawn 31 = .ok (.iload_n 3, 1) := by decide +kernel
theorem dX6_drawn_32 : decode cX6_drawn 32 = .ok (.iconst 0, 1) := by decide +kernel
theorem dX6_drawn_33 : decode cX6_drawn 33 = .ok (.iconst 1, 1) := by decide +kernel
theorem dX6_drawn_34 : decode cX6_drawn 34 = .ok (.invokestatic 64, 3) := by decide +kernel
theorem dX6_drawn_37 : decode cX6_drawn 37 = .ok (.ifCond .ne 6, 3) := by decide +kernel
theorem dX6_drawn_40 : decode cX6_drawn 40 = .ok (.ldc 68, 2) := by decide +kernel
theorem dX6_drawn_42 : decode cX6_drawn 42 = .ok (.ireturn, 1) := by decide +kernel
theorem dX6_drawn_43 : decode cX6_drawn 43 = .ok (.aload_n 0, 1) := by decide +kernel
theorem dX6_drawn_44 : decode cX6_drawn 44 = .ok (.getfield 48, 3) := by decide +kernel
theorem dX6_drawn_47 : decode cX6_drawn 47 = .ok (.iload_n 1, 1) := by decide +kernel
theorem dX6_drawn_48 : decode cX6_drawn 48 = .ok (.iload_n 2, 1) := by decide +kernel
theorem dX6_drawn_49 : decode cX6_drawn 49 = .ok (.iload_n 3, 1) := by decide +kernel
theorem dX6_drawn_50 : decode cX6_drawn 50 = .ok (.invokevirtual 259, 3) := by decide +kernel
theorem dX6_drawn_53 : decode cX6_drawn 53 = .ok (.ireturn, 1) := by decide +kernel
theorem dX6_image_0 : decode cX6_image 0 = .ok (.iload_n 1, 1) := by decide +kernel
theorem dX6_image_1 : decode cX6_image 1 = .ok (.iconst 0, 1) := by decide +kernel
theorem dX6_image_2 : decode cX6_image 2 = .ok (.iconst 1, 1) := by decide +kernel
theorem dX6_image_3 : decode cX6_image 3 = .ok (.invokestatic 64, 3) := by decide +kernel
theorem dX6_image_6 : decode cX6_image 6 = .ok (.ifCond .ne 6, 3) := by decide +kernel
theorem dX6_image_9 : decode cX6_image 9 = .ok (.ldc 68, 2) := by decide +kernel
theorem dX6_image_11 : decode cX6_image 11 = .ok (.ireturn, 1) := by decide +kernel
theorem dX6_image_12 : decode cX6_image 12 = .ok (.aload_n 0, 1) := by decide +kernel
theorem dX6_image_13 : decode cX6_image 13 = .ok (.invokevirtual 148, 3) := by decide +kernel
theorem dX6_image_16 : decode cX6_image 16 = .ok (.ifCond .ne 6, 3) := by decide +kernel
theorem dX6_image_19 : decode cX6_image 19 = .ok (.ldc 144, 2) := by decide +kernel
theorem dX6_image_21 : decode cX6_image 21 = .ok (.ireturn, 1) := by decide +kernel
theorem dX6_image_22 : decode cX6_image 22 = .ok (.aload_n 0, 1) := by decide +kernel
theorem dX6_image_23 : decode cX6_image 23 = .ok (.getfield 17, 3) := by decide +kernel
theorem dX6_image_26 : decode cX6_image 26 = .ok (.iload_n 1, 1) := by decide +kernel
theorem dX6_image_27 : decode cX6_image 27 = .ok (.aaload, 1) := by decide +kernel
theorem dX6_image_28 : decode cX6_image 28 = .ok (.aload_n 0, 1) := by decide +kernel
theorem dX6_image_29 : decode cX6_image 29 = .ok (.getfield 22, 3) := by decide +kernel
theorem dX6_image_32 : decode cX6_image 32 = .ok (.invokevirtual 134, 3) := by decide +kernel
theorem dX6_image_35 : decode cX6_image 35 = .ok (.iconst 1, 1) := by decide +kernel
theorem dX6_image_36 : decode cX6_image 36 = .ok (.ireturn, 1) := by decide +kernel
theorem dX6_restore_0 : decode cX6_restore 0 = .ok (.iload_n 1, 1) := by decide +kernel
theorem dX6_restore_1 : decode cX6_restore 1 = .ok (.iconst 0, 1) := by decide +kernel
theorem dX6_restore_2 : decode cX6_restore 2 = .ok (.iconst 1, 1) := by decide +kernel
theorem dX6_restore_3 : decode cX6_restore 3 = .ok (.invokestatic 64, 3) := by decide +kernel
theorem dX6_restore_6 : decode cX6_restore 6 = .ok (.ifCond .ne 6, 3) := by decide +kernel
theorem dX6_restore_9 : decode cX6_restore 9 = .ok (.ldc 68, 2) := by decide +kernel
theorem dX6_restore_11 : decode cX6_restore 11 = .ok (.ireturn, 1) := by decide +kernel
theorem dX6_restore_12 : decode cX6_restore 12 = .ok (.aload_n 0, 1) := by decide +kernel
theorem dX6_restore_13 : decode cX6_restore 13 = .ok (.getfield 17, 3) := by decide +kernel
theorem dX6_restore_16 : decode cX6_restore 16 = .ok (.iload_n 1, 1) := by decide +kernel
theorem dX6_restore_17 : decode cX6_restore 17 = .ok (.aaload, 1) := by decide +kernel
theorem dX6_restore_18 : decode cX6_restore 18 = .ok (.getfield 140, 3) := by decide +kernel
theorem dX6_restore_21 : decode cX6_restore 21 = .ok (.ifCond .ne 6, 3) := by decide +kernel
theorem dX6_restore_24 : decode cX6_restore 24 = .ok (.ldc 144, 2) := by decide +kernel
theorem dX6_restore_26 : decode cX6_restore 26 = .ok (.ireturn, 1) := by decide +kernel
theorem dX6_restore_27 : decode cX6_restore 27 = .ok (.aload_n 0, 1) := by decide +kernel
theorem dX6_restore_28 : decode cX6_restore 28 = .ok (.getfield 22, 3) := by decide +kernel
theorem dX6_restore_31 : decode cX6_restore 31 = .ok (.aload_n 0, 1) := by decide +kernel
theorem dX6_restore_32 : decode cX6_restore 32 = .ok (.getfield 17, 3) := by decide +kernel
theorem dX6_restore_35 : decode cX6_restore 35 = .ok (.iload_n 1, 1) := by decide +kernel
theorem dX6_restore_36 : decode cX6_restore 36 = .ok (.aaload, 1) := by decide +kernel
theorem dX6_restore_37 : decode cX6_restore 37 = .ok (.invokevirtual 134, 3) := by decide +kernel
theorem dX6_restore_40 : decode cX6_restore 40 = .ok (.aload_n 0, 1) := by decide +kernel
theorem dX6_restore_41 : decode cX6_restore 41 = .ok (.getfield 39, 3) := by decide +kernel
theorem dX6_restore_44 : decode cX6_restore 44 = .ok (.invokevirtual 137, 3) := by decide +kernel
theorem dX6_restore_47 : decode cX6_restore 47 = .ok (.iconst 1, 1) := by decide +kernel
theorem dX6_restore_48 : decode cX6_restore 48 = .ok (.ireturn, 1) := by decide +kernel
theorem dX6_kind_0 : decode cX6_kind 0 = .ok (.aload_n 0, 1) := by decide +kernel
theorem dX6_kind_1 : decode cX6_kind 1 = .ok (.iload_n 1, 1) := by decide +kernel
theorem dX6_kind_2 : decode cX6_kind 2 = .ok (.invokevirtual 175, 3) := by decide +kernel
theorem dX6_kind_5 : decode cX6_kind 5 = .ok (.ifCond .eq 15, 3) := by decide +kernel
theorem dX6_kind_8 : decode cX6_kind 8 = .ok (.aload_n 0, 1) := by decide +kernel
theorem dX6_kind_9 : decode cX6_kind 9 = .ok (.getfield 22, 3) := by decide +kernel
theorem dX6_kind_12 : decode cX6_kind 12 = .ok (.getfield 262, 3) := by decide +kernel
theorem dX6_kind_15 : decode cX6_kind 15 = .ok (.iload_n 1, 1) := by decide +kernel
theorem dX6_kind_16 : decode cX6_kind 16 = .ok (.iaload, 1) := by decide +kernel
theorem dX6_kind_17 : decode cX6_kind 17 = .ok (.goto 5, 3) := by decide +kernel
theorem dX6_kind_20 : decode cX6_kind 20 = .ok (.ldc 68, 2) := by decide +kernel
theorem dX6_kind_22 : decode cX6_kind 22 = .ok (.ireturn, 1) := by decide +kernel
theorem dX6_as_0 : decode cX6_as 0 = .ok (.aload_n 0, 1) := by decide +kernel
theorem dX6_as_1 : decode cX6_as 1 = .ok (.iload_n 1, 1) := by decide +kernel
theorem dX6_as_2 : decode cX6_as 2 = .ok (.invokevirtual 175, 3) := by decide +kernel
theorem dX6_as_5 : decode cX6_as 5 = .ok (.ifCond .eq 12, 3) := by decide +kernel
theorem dX6_as_8 : decode cX6_as 8 = .ok (.iload_n 2, 1) := by decide +kernel
theorem dX6_as_9 : decode cX6_as 9 = .ok (.iconst 0, 1) := by decide +kernel
theorem dX6_as_10 : decode cX6_as 10 = .ok (.iconst 5, 1) := by decide +kernel
theorem dX6_as_11 : decode cX6_as 11 = .ok (.invokestatic 64, 3) := by decide +kernel
theorem dX6_as_14 : decode cX6_as 14 = .ok (.ifCond .ne 6, 3) := by decide +kernel
theorem dX6_as_17 : decode cX6_as 17 = .ok (.ldc 68, 2) := by decide +kernel
theorem dX6_as_19 : decode cX6_as 19 = .ok (.ireturn, 1) := by decide +kernel
theorem dX6_as_20 : decode cX6_as 20 = .ok (.aload_n 0, 1) := by decide +kernel
theorem dX6_as_21 : decode cX6_as 21 = .ok (.getfield 22, 3) := by decide +kernel
theorem dX6_as_24 : decode cX6_as 24 = .ok (.getfield 262, 3) := by decide +kernel
theorem dX6_as_27 : decode cX6_as 27 = .ok (.iload_n 1, 1) := by decide +kernel
theorem dX6_as_28 : decode cX6_as 28 = .ok (.iaload, 1) := by decide +kernel
theorem dX6_as_29 : decode cX6_as 29 = .ok (.iload_n 2, 1) := by decide +kernel
theorem dX6_as_30 : decode cX6_as 30 = .ok (.invokestatic 265, 3) := by decide +kernel
theorem dX6_as_33 : decode cX6_as 33 = .ok (.ifCond .eq 11, 3) := by decide +kernel
theorem dX6_as_36 : decode cX6_as 36 = .ok (.aload_n 0, 1) := by decide +kernel
theorem dX6_as_37 : decode cX6_as 37 = .ok (.iload_n 1, 1) := by decide +kernel
theorem dX6_as_38 : decode cX6_as 38 = .ok (.invokevirtual 77, 3) := by decide +kernel
theorem dX6_as_41 : decode cX6_as 41 = .ok (.goto 8, 3) := by decide +kernel
theorem dX6_as_44 : decode cX6_as 44 = .ok (.aload_n 0, 1) := by decide +kernel
theorem dX6_as_45 : decode cX6_as 45 = .ok (.iconst 3, 1) := by decide +kernel
theorem dX6_as_46 : decode cX6_as 46 = .ok (.invokevirtual 69, 3) := by decide +kernel
theorem dX6_as_49 : decode cX6_as 49 = .ok (.ireturn, 1) := by decide +kernel
theorem dX6_ask_0 : decode cX6_ask 0 = .ok (.aload_n 0, 1) := by decide +kernel
theorem dX6_ask_1 : decode cX6_ask 1 = .ok (.iload_n 1, 1) := by decide +kernel
theorem dX6_ask_2 : decode cX6_ask 2 = .ok (.invokevirtual 175, 3) := by decide +kernel
theorem dX6_ask_5 : decode cX6_ask 5 = .ok (.ifCond .eq 12, 3) := by decide +kernel
theorem dX6_ask_8 : decode cX6_ask 8 = .ok (.iload_n 2, 1) := by decide +kernel
theorem dX6_ask_9 : decode cX6_ask 9 = .ok (.iconst 0, 1) := by decide +kernel
theorem dX6_ask_10 : decode cX6_ask 10 = .ok (.iconst 1, 1) := by decide +kernel
theorem dX6_ask_11 : decode cX6_ask 11 = .ok (.invokestatic 64, 3) := by decide +kernel
theorem dX6_ask_14 : decode cX6_ask 14 = .ok (.ifCond .ne 6, 3) := by decide +kernel
theorem dX6_ask_17 : decode cX6_ask 17 = .ok (.ldc 68, 2) := by decide +kernel
theorem dX6_ask_19 : decode cX6_ask 19 = .ok (.ireturn, 1) := by decide +kernel
theorem dX6_ask_20 : decode cX6_ask 20 = .ok (.aload_n 0, 1) := by decide +kernel
theorem dX6_ask_21 : decode cX6_ask 21 = .ok (.getfield 55, 3) := by decide +kernel
theorem dX6_ask_24 : decode cX6_ask 24 = .ok (.iload_n 2, 1) := by decide +kernel
theorem dX6_ask_25 : decode cX6_ask 25 = .ok (.iload_n 1, 1) := by decide +kernel
theorem dX6_ask_26 : decode cX6_ask 26 = .ok (.invokevirtual 268, 3) := by decide +kernel
theorem dX6_ask_29 : decode cX6_ask 29 = .ok (.ireturn, 1) := by decide +kernel
theorem dX6_trace_0 : decode cX6_trace 0 = .ok (.iload_n 1, 1) := by decide +kernel
theorem dX6_trace_1 : decode cX6_trace 1 = .ok (.iconst 0, 1) := by decide +kernel
theorem dX6_trace_2 : decode cX6_trace 2 = .ok (.aload_n 0, 1) := by decide +kernel
theorem dX6_trace_3 : decode cX6_trace 3 = .ok (.getfield 55, 3) := by decide +kernel
theorem dX6_trace_6 : decode cX6_trace 6 = .ok (.getfield 271, 3) := by decide +kernel
theorem dX6_trace_9 : decode cX6_trace 9 = .ok (.iconst 1, 1) := by decide +kernel
theorem dX6_trace_10 : decode cX6_trace 10 = .ok (.isub, 1) := by decide +kernel
theorem dX6_trace_11 : decode cX6_trace 11 = .ok (.invokestatic 64, 3) := by decide +kernel
theorem dX6_trace_14 : decode cX6_trace 14 = .ok (.ifCond .eq 15, 3) := by decide +kernel
theorem dX6_trace_17 : decode cX6_trace 17 = .ok (.aload_n 0, 1) := by decide +kernel
theorem dX6_trace_18 : decode cX6_trace 18 = .ok (.getfield 55, 3) := by decide +kernel
theorem dX6_trace_21 : decode cX6_trace 21 = .ok (.getfield 272, 3) := by decide +kernel
theorem dX6_trace_24 : decode cX6_trace 24 = .ok (.iload_n 1, 1) := by decide +kernel
theorem dX6_trace_25 : decode cX6_trace 25 = .ok (.iaload, 1) := by decide +kernel
theorem dX6_trace_26 : decode cX6_trace 26 = .ok (.goto 6, 3) := by decide +kernel
theorem dX6_trace_29 : decode cX6_trace 29 = .ok (.ldc_w 275, 3) := by decide +kernel
theorem dX6_trace_32 : decode cX6_trace 32 = .ok (.ireturn, 1) := by decide +kernel
theorem dX6_count_0 : decode cX6_count 0 = .ok (.iload_n 1, 1) := by decide +kernel
theorem dX6_count_1 : decode cX6_count 1 = .ok (.tableswitch 108 0 7 #[47, 52, 60, 68, 76, 84, 92, 100], 47) := by decide +kernel
theorem dX6_count_48 : decode cX6_count 48 = .ok (.aload_n 0, 1) := by decide +kernel
theorem dX6_count_49 : decode cX6_count 49 = .ok (.invokevirtual 276, 3) := by decide +kernel
theorem dX6_count_52 : decode cX6_count 52 = .ok (.ireturn, 1) := by decide +kernel
theorem dX6_count_53 : decode cX6_count 53 = .ok (.aload_n 0, 1) := by decide +kernel
theorem dX6_count_54 : decode cX6_count 54 = .ok (.getfield 22, 3) := by decide +kernel
theorem dX6_count_57 : decode cX6_count 57 = .ok (.getfield 140, 3) := by decide +kernel
theorem dX6_count_60 : decode cX6_count 60 = .ok (.ireturn, 1) := by decide +kernel
theorem dX6_count_61 : decode cX6_count 61 = .ok (.aload_n 0, 1) := by decide +kernel
theorem dX6_count_62 : decode cX6_count 62 = .ok (.getfield 22, 3) := by decide +kernel
theorem dX6_count_65 : decode cX6_count 65 = .ok (.getfield 205, 3) := by decide +kernel
theorem dX6_count_68 : decode cX6_count 68 = .ok (.ireturn, 1) := by decide +kernel
theorem dX6_count_69 : decode cX6_count 69 = .ok (.aload_n 0, 1) := by decide +kernel
theorem dX6_count_70 : decode cX6_count 70 = .ok (.getfield 22, 3) := by decide +kernel
theorem dX6_count_73 : decode cX6_count 73 = .ok (.getfield 152, 3) := by decide +kernel
theorem dX6_count_76 : decode cX6_count 76 = .ok (.ireturn, 1) := by decide +kernel
theorem dX6_count_77 : decode cX6_count 77 = .ok (.aload_n 0, 1) := by decide +kernel
theorem dX6_count_78 : decode cX6_count 78 = .ok (.getfield 22, 3) := by decide +kernel
theorem dX6_count_81 : decode cX6_count 81 = .ok (.getfield 169, 3) := by decide +kernel
theorem dX6_count_84 : decode cX6_count 84 = .ok (.ireturn, 1) := by decide +kernel
theorem dX6_count_85 : decode cX6_count 85 = .ok (.aload_n 0, 1) := by decide +kernel
theorem dX6_count_86 : decode cX6_count 86 = .ok (.getfield 22, 3) := by decide +kernel
theorem dX6_count_89 : decode cX6_count 89 = .ok (.invokevirtual 279, 3) := by decide +kernel
theorem dX6_count_92 : decode cX6_count 92 = .ok (.ireturn, 1) := by decide +kernel
theorem dX6_count_93 : decode cX6_count 93 = .ok (.aload_n 0, 1) := by decide +kernel
theorem dX6_count_94 : decode cX6_count 94 = .ok (.getfield 39, 3) := by decide +kernel
theorem dX6_count_97 : decode cX6_count 97 = .ok (.getfield 143, 3) := by decide +kernel
theorem dX6_count_100 : decode cX6_count 100 = .ok (.ireturn, 1) := by decide +kernel
theorem dX6_count_101 : decode cX6_count 101 = .ok (.aload_n 0, 1) := by decide +kernel
theorem dX6_count_102 : decode cX6_count 102 = .ok (.getfield 32, 3) := by decide +kernel
theorem dX6_count_105 : decode cX6_count 105 = .ok (.getfield 113, 3) := by decide +kernel
theorem dX6_count_108 : decode cX6_count 108 = .ok (.ireturn, 1) := by decide +kernel
theorem dX6_count_109 : decode cX6_count 109 = .ok (.ldc 68, 2) := by decide +kernel
theorem dX6_count_111 : decode cX6_count 111 = .ok (.ireturn, 1) := by decide +kernel
theorem dX6_status_0 : decode cX6_status 0 = .ok (.aload_n 0, 1) := by decide +kernel
theorem dX6_status_1 : decode cX6_status 1 = .ok (.getfield 282, 3) := by decide +kernel
theorem dX6_status_4 : decode cX6_status 4 = .ok (.ireturn, 1) := by decide +kernel
theorem dX6_within_0 : decode cX6_within 0 = .ok (.iload_n 0, 1) := by decide +kernel
theorem dX6_within_1 : decode cX6_within 1 = .ok (.iload_n 1, 1) := by decide +kernel
theorem dX6_within_2 : decode cX6_within 2 = .ok (.if_icmp .lt 12, 3) := by decide +kernel
theorem dX6_within_5 : decode cX6_within 5 = .ok (.iload_n 0, 1) := by decide +kernel
theorem dX6_within_6 : decode cX6_within 6 = .ok (.iload_n 2, 1) := by decide +kernel
theorem dX6_within_7 : decode cX6_within 7 = .ok (.if_icmp .gt 7, 3) := by decide +kernel
theorem dX6_within_10 : decode cX6_within 10 = .ok (.iconst 1, 1) := by decide +kernel
theorem dX6_within_11 : decode cX6_within 11 = .ok (.goto 4, 3) := by decide +kernel
theorem dX6_within_14 : decode cX6_within 14 = .ok (.iconst 0, 1) := by decide +kernel
theorem dX6_within_15 : decode cX6_within 15 = .ok (.ireturn, 1) := by decide +kernel
theorem dX6_isRow_0 : decode cX6_isRow 0 = .ok (.iload_n 0, 1) := by decide +kernel
theorem dX6_isRow_1 : decode cX6_isRow 1 = .ok (.iconst 0, 1) := by decide +kernel
theorem dX6_isRow_2 : decode cX6_isRow 2 = .ok (.bipush 7, 2) := by decide +kernel
theorem dX6_isRow_4 : decode cX6_isRow 4 = .ok (.invokestatic 64, 3) := by decide +kernel
theorem dX6_isRow_7 : decode cX6_isRow 7 = .ok (.ireturn, 1) := by decide +kernel
theorem dX6_isOfKind_0 : decode cX6_isOfKind 0 = .ok (.iload_n 1, 1) := by decide +kernel
theorem dX6_isOfKind_1 : decode cX6_isOfKind 1 = .ok (.ifCond .eq 17, 3) := by decide +kernel
theorem dX6_isOfKind_4 : decode cX6_isOfKind 4 = .ok (.iload_n 1, 1) := by decide +kernel
theorem dX6_isOfKind_5 : decode cX6_isOfKind 5 = .ok (.iload_n 0, 1) := by decide +kernel
theorem dX6_isOfKind_6 : decode cX6_isOfKind 6 = .ok (.if_icmp .eq 12, 3) := by decide +kernel
theorem dX6_isOfKind_9 : decode cX6_isOfKind 9 = .ok (.iload_n 1, 1) := by decide +kernel
theorem dX6_isOfKind_10 : decode cX6_isOfKind 10 = .ok (.getstatic 285, 3) := by decide +kernel
theorem dX6_isOfKind_13 : decode cX6_isOfKind 13 = .ok (.iload_n 0, 1) := by decide +kernel
theorem dX6_isOfKind_14 : decode cX6_isOfKind 14 = .ok (.iaload, 1) := by decide +kernel
theorem dX6_isOfKind_15 : decode cX6_isOfKind 15 = .ok (.if_icmp .ne 7, 3) := by decide +kernel
theorem dX6_isOfKind_18 : decode cX6_isOfKind 18 = .ok (.iconst 1, 1) := by decide +kernel
theorem dX6_isOfKind_19 : decode cX6_isOfKind 19 = .ok (.goto 4, 3) := by decide +kernel
theorem dX6_isOfKind_22 : decode cX6_isOfKind 22 = .ok (.iconst 0, 1) := by decide +kernel
theorem dX6_isOfKind_23 : decode cX6_isOfKind 23 = .ok (.ireturn, 1) := by decide +kernel
theorem dX6_hasBox_0 : decode cX6_hasBox 0 = .ok (.aload_n 0, 1) := by decide +kernel
theorem dX6_hasBox_1 : decode cX6_hasBox 1 = .ok (.getfield 22, 3) := by decide +kernel
theorem dX6_hasBox_4 : decode cX6_hasBox 4 = .ok (.getfield 140, 3) := by decide +kernel
theorem dX6_hasBox_7 : decode cX6_hasBox 7 = .ok (.ifCond .le 7, 3) := by decide +kernel
theorem dX6_hasBox_10 : decode cX6_hasBox 10 = .ok (.iconst 1, 1) := by decide +kernel
theorem dX6_hasBox_11 : decode cX6_hasBox 11 = .ok (.goto 4, 3) := by decide +kernel
theorem dX6_hasBox_14 : decode cX6_hasBox 14 = .ok (.iconst 0, 1) := by decide +kernel
theorem dX6_hasBox_15 : decode cX6_hasBox 15 = .ok (.ireturn, 1) := by decide +kernel
theorem dX6_hasTooth_0 : decode cX6_hasTooth 0 = .ok (.iload_n 1, 1) := by decide +kernel
theorem dX6_hasTooth_1 : decode cX6_hasTooth 1 = .ok (.iconst 0, 1) := by decide +kernel
theorem dX6_hasTooth_2 : decode cX6_hasTooth 2 = .ok (.aload_n 0, 1) := by decide +kernel
theorem dX6_hasTooth_3 : decode cX6_hasTooth 3 = .ok (.getfield 22, 3) := by decide +kernel
theorem dX6_hasTooth_6 : decode cX6_hasTooth 6 = .ok (.getfield 140, 3) := by decide +kernel
theorem dX6_hasTooth_9 : decode cX6_hasTooth 9 = .ok (.iconst 1, 1) := by decide +kernel
theorem dX6_hasTooth_10 : decode cX6_hasTooth 10 = .ok (.isub, 1) := by decide +kernel
theorem dX6_hasTooth_11 : decode cX6_hasTooth 11 = .ok (.invokestatic 64, 3) := by decide +kernel
theorem dX6_hasTooth_14 : decode cX6_hasTooth 14 = .ok (.ireturn, 1) := by decide +kernel
theorem dX6_hasColumn_0 : decode cX6_hasColumn 0 = .ok (.iload_n 1, 1) := by decide +kernel
theorem dX6_hasColumn_1 : decode cX6_hasColumn 1 = .ok (.iconst 0, 1) := by decide +kernel
theorem dX6_hasColumn_2 : decode cX6_hasColumn 2 = .ok (.aload_n 0, 1) := by decide +kernel
theorem dX6_hasColumn_3 : decode cX6_hasColumn 3 = .ok (.getfield 22, 3) := by decide +kernel
theorem dX6_hasColumn_6 : decode cX6_hasColumn 6 = .ok (.getfield 205, 3) := by decide +kernel
theorem dX6_hasColumn_9 : decode cX6_hasColumn 9 = .ok (.iconst 1, 1) := by decide +kernel
theorem dX6_hasColumn_10 : decode cX6_hasColumn 10 = .ok (.isub, 1) := by decide +kernel
theorem dX6_hasColumn_11 : decode cX6_hasColumn 11 = .ok (.invokestatic 64, 3) := by decide +kernel
theorem dX6_hasColumn_14 : decode cX6_hasColumn 14 = .ok (.ireturn, 1) := by decide +kernel
theorem dX6_rowsThere_0 : decode cX6_rowsThere 0 = .ok (.iconst 0, 1) := by decide +kernel
theorem dX6_rowsThere_1 : decode cX6_rowsThere 1 = .ok (.istore_n 1, 1) := by decide +kernel
theorem dX6_rowsThere_2 : decode cX6_rowsThere 2 = .ok (.iconst 0, 1) := by decide +kernel
theorem dX6_rowsThere_3 : decode cX6_rowsThere 3 = .ok (.istore_n 2, 1) := by decide +kernel
theorem dX6_rowsThere_4 : decode cX6_rowsThere 4 = .ok (.iload_n 2, 1) := by decide +kernel
theorem dX6_rowsThere_5 : decode cX6_rowsThere 5 = .ok (.bipush 8, 2) := by decide +kernel
theorem dX6_rowsThere_7 : decode cX6_rowsThere 7 = .ok (.if_icmp .ge 24, 3) := by decide +kernel
theorem dX6_rowsThere_10 : decode cX6_rowsThere 10 = .ok (.aload_n 0, 1) := by decide +kernel
theorem dX6_rowsThere_11 : decode cX6_rowsThere 11 = .ok (.getfield 11, 3) := by decide +kernel
theorem dX6_rowsThere_14 : decode cX6_rowsThere 14 = .ok (.iload_n 2, 1) := by decide +kernel
theorem dX6_rowsThere_15 : decode cX6_rowsThere 15 = .ok (.aaload, 1) := by decide +kernel
theorem dX6_rowsThere_16 : decode cX6_rowsThere 16 = .ok (.getfield 88, 3) := by decide +kernel
theorem dX6_rowsThere_19 : decode cX6_rowsThere 19 = .ok (.ifCond .eq 6, 3) := by decide +kernel
theorem dX6_rowsThere_22 : decode cX6_rowsThere 22 = .ok (.iinc 1 1, 3) := by decide +kernel
theorem dX6_rowsThere_25 : decode cX6_rowsThere 25 = .ok (.iinc 2 1, 3) := by decide +kernel
theorem dX6_rowsThere_28 : decode cX6_rowsThere 28 = .ok (.goto (-24), 3) := by decide +kernel
theorem dX6_rowsThere_31 : decode cX6_rowsThere 31 = .ok (.iload_n 1, 1) := by decide +kernel
theorem dX6_rowsThere_32 : decode cX6_rowsThere 32 = .ok (.ireturn, 1) := by decide +kernel
theorem dX6_findingOf_0 : decode cX6_findingOf 0 = .ok (.aload_n 0, 1) := by decide +kernel
theorem dX6_findingOf_1 : decode cX6_findingOf 1 = .ok (.getfield 88, 3) := by decide +kernel
theorem dX6_findingOf_4 : decode cX6_findingOf 4 = .ok (.ifCond .ne 5, 3) := by decide +kernel
theorem dX6_findingOf_7 : decode cX6_findingOf 7 = .ok (.iconst 1, 1) := by decide +kernel
theorem dX6_findingOf_8 : decode cX6_findingOf 8 = .ok (.ireturn, 1) := by decide +kernel
theorem dX6_findingOf_9 : decode cX6_findingOf 9 = .ok (.aload_n 0, 1) := by decide +kernel
theorem dX6_findingOf_10 : decode cX6_findingOf 10 = .ok (.iload_n 1, 1) := by decide +kernel
theorem dX6_findingOf_11 : decode cX6_findingOf 11 = .ok (.iload_n 2, 1) := by decide +kernel
theorem dX6_findingOf_12 : decode cX6_findingOf 12 = .ok (.invokevirtual 96, 3) := by decide +kernel
theorem dX6_findingOf_15 : decode cX6_findingOf 15 = .ok (.ifCond .eq 7, 3) := by decide +kernel
theorem dX6_findingOf_18 : decode cX6_findingOf 18 = .ok (.iconst 0, 1) := by decide +kernel
theorem dX6_findingOf_19 : decode cX6_findingOf 19 = .ok (.goto 4, 3) := by decide +kernel
theorem dX6_findingOf_22 : decode cX6_findingOf 22 = .ok (.iconst 2, 1) := by decide +kernel
theorem dX6_findingOf_23 : decode cX6_findingOf 23 = .ok (.ireturn, 1) := by decide +kernel
theorem dX6_found_0 : decode cX6_found 0 = .ok (.aload_n 0, 1) := by decide +kernel
theorem dX6_found_1 : decode cX6_found 1 = .ok (.iload_n 1, 1) := by decide +kernel
theorem dX6_found_2 : decode cX6_found 2 = .ok (.putfield 282, 3) := by decide +kernel
theorem dX6_found_5 : decode cX6_found 5 = .ok (.ldc_w 288, 3) := by decide +kernel
theorem dX6_found_8 : decode cX6_found 8 = .ok (.iload_n 1, 1) := by decide +kernel
theorem dX6_found_9 : decode cX6_found 9 = .ok (.isub, 1) := by decide +kernel
theorem dX6_found_10 : decode cX6_found 10 = .ok (.ireturn, 1) := by decide +kernel
theorem dX6_unfound_0 : decode cX6_unfound 0 = .ok (.aload_n 0, 1) := by decide +kernel
theorem dX6_unfound_1 : decode cX6_unfound 1 = .ok (.iconst 0, 1) := by decide +kernel
theorem dX6_unfound_2 : decode cX6_unfound 2 = .ok (.putfield 282, 3) := by decide +kernel
theorem dX6_unfound_5 : decode cX6_unfound 5 = .ok (.iload_n 1, 1) := by decide +kernel
theorem dX6_unfound_6 : decode cX6_unfound 6 = .ok (.ireturn, 1) := by decide +kernel
theorem dX7_init_0 : decode cX7_init 0 = .ok (.aload_n 0, 1) := by decide +kernel
theorem dX7_init_1 : decode cX7_init 1 = .ok (.invokespecial 1, 3) := by decide +kernel
theorem dX7_init_4 : decode cX7_init 4 = .ok (.aload_n 0, 1) := by decide +kernel
theorem dX7_init_5 : decode cX7_init 5 = .ok (.sipush 1247, 3) := by decide +kernel
theorem dX7_init_8 : decode cX7_init 8 = .ok (.newarray .int, 2) := by decide +kernel
theorem dX7_init_10 : decode cX7_init 10 = .ok (.putfield 7, 3) := by decide +kernel
theorem dX7_init_13 : decode cX7_init 13 = .ok (.aload_n 0, 1) := by decide +kernel
theorem dX7_init_14 : decode cX7_init 14 = .ok (.bipush 100, 2) := by decide +kernel
theorem dX7_init_16 : decode cX7_init 16 = .ok (.newarray .int, 2) := by decide +kernel
theorem dX7_init_18 : decode cX7_init 18 = .ok (.putfield 13, 3) := by decide +kernel
theorem dX7_init_21 : decode cX7_init 21 = .ok (.aload_n 0, 1) := by decide +kernel
theorem dX7_init_22 : decode cX7_init 22 = .ok (.bipush 8, 2) := by decide +kernel
theorem dX7_init_24 : decode cX7_init 24 = .ok (.newarray .int, 2) := by decide +kernel
theorem dX7_init_26 : decode cX7_init 26 = .ok (.putfield 16, 3) := by decide +kernel
theorem dX7_init_29 : decode cX7_init 29 = .ok (.aload_n 0, 1) := by decide +kernel
theorem dX7_init_30 : decode cX7_init 30 = .ok (.bipush 8, 2) := by decide +kernel
theorem dX7_init_32 : decode cX7_init 32 = .ok (.newarray .int, 2) := by decide +kernel
theorem dX7_init_34 : decode cX7_init 34 = .ok (.putfield 19, 3) := by decide +kernel
theorem dX7_init_37 : decode cX7_init 37 = .ok (.aload_n 0, 1) := by decide +kernel
theorem dX7_init_38 : decode cX7_init 38 = .ok (.sipush 320, 3) := by decide +kernel
theorem dX7_init_41 : decode cX7_init 41 = .ok (.newarray .int, 2) := by decide +kernel
theorem dX7_init_43 : decode cX7_init 43 = .ok (.putfield 22, 3) := by decide +kernel
theorem dX7_init_46 : decode cX7_init 46 = .ok (.aload_n 0, 1) := by decide +kernel
theorem dX7_init_47 : decode cX7_init 47 = .ok (.bipush 40, 2) := by decide +kernel
theorem dX7_init_49 : decode cX7_init 49 = .ok (.newarray .int, 2) := by decide +kernel
theorem dX7_init_51 : decode cX7_init 51 = .ok (.putfield 25, 3) := by decide +kernel
theorem dX7_init_54 : decode cX7_init 54 = .ok (.aload_n 0, 1) := by decide +kernel
theorem dX7_init_55 : decode cX7_init 55 = .ok (.bipush 30, 2) := by decide +kernel
theorem dX7_init_57 : decode cX7_init 57 = .ok (.newarray .int, 2) := by decide +kernel
theorem dX7_init_59 : decode cX7_init 59 = .ok (.putfield 28, 3) := by decide +kernel
theorem dX7_init_62 : decode cX7_init 62 = .ok (.aload_n 0, 1) := by decide +kernel
theorem dX7_init_63 : decode cX7_init 63 = .ok (.bipush 12, 2) := by decide +kernel
theorem dX7_init_65 : decode cX7_init 65 = .ok (.newarray .int, 2) := by decide +kernel
theorem dX7_init_67 : decode cX7_init 67 = .ok (.putfield 31, 3) := by decide +kernel
theorem dX7_init_70 : decode cX7_init 70 = .ok (.aload_n 0, 1) := by decide +kernel
theorem dX7_init_71 : decode cX7_init 71 = .ok (.iconst 2, 1) := by decide +kernel
theorem dX7_init_72 : decode cX7_init 72 = .ok (.newarray .boolean, 2) := by decide +kernel
theorem dX7_init_74 : decode cX7_init 74 = .ok (.putfield 34, 3) := by decide +kernel
theorem dX7_init_77 : decode cX7_init 77 = .ok (.aload_n 0, 1) := by decide +kernel
theorem dX7_init_78 : decode cX7_init 78 = .ok (.bipush 16, 2) := by decide +kernel
theorem dX7_init_80 : decode cX7_init 80 = .ok (.newarray .int, 2) := by decide +kernel
theorem dX7_init_82 : decode cX7_init 82 = .ok (.putfield 38, 3) := by decide +kernel
theorem dX7_init_85 : decode cX7_init 85 = .ok (.iconst 0, 1) := by decide +kernel
theorem dX7_init_86 : decode cX7_init 86 = .ok (.istore_n 1, 1) := by decide +kernel
theorem dX7_init_87 : decode cX7_init 87 = .ok (.iload_n 1, 1) := by decide +kernel
theorem dX7_init_88 : decode cX7_init 88 = .ok (.bipush 8, 2) := by decide +kernel
theorem dX7_init_90 : decode cX7_init 90 = .ok (.if_icmp .ge 16, 3) := by decide +kernel
theorem dX7_init_93 : decode cX7_init 93 = .ok (.aload_n 0, 1) := by decide +kernel
theorem dX7_init_94 : decode cX7_init 94 = .ok (.getfield 16, 3) := by decide +kernel
theorem dX7_init_97 : decode cX7_init 97 = .ok (.iload_n 1, 1) := by decide +kernel
theorem dX7_init_98 : decode cX7_init 98 = .ok (.iconst (-1), 1) := by decide +kernel
theorem dX7_init_99 : decode cX7_init 99 = .ok (.iastore, 1) := by decide +kernel
theorem dX7_init_100 : decode cX7_init 100 = .ok (.iinc 1 1, 3) := by decide +kernel
theorem dX7_init_103 : decode cX7_init 103 = .ok (.goto (-16), 3) := by decide +kernel
theorem dX7_init_106 : decode cX7_init 106 = .ok (.return_, 1) := by decide +kernel
theorem dX7_in_0 : decode cX7_in 0 = .ok (.lload_n 0, 1) := by decide +kernel
theorem dX7_in_1 : decode cX7_in 1 = .ok (.lload_n 2, 1) := by decide +kernel
theorem dX7_in_2 : decode cX7_in 2 = .ok (.lcmp, 1) := by decide +kernel
theorem dX7_in_3 : decode cX7_in 3 = .ok (.ifCond .lt 14, 3) := by decide +kernel
theorem dX7_in_6 : decode cX7_in 6 = .ok (.lload_n 0, 1) := by decide +kernel
theorem dX7_in_7 : decode cX7_in 7 = .ok (.lload 4, 2) := by decide +kernel
theorem dX7_in_9 : decode cX7_in 9 = .ok (.lcmp, 1) := by decide +kernel
theorem dX7_in_10 : decode cX7_in 10 = .ok (.ifCond .gt 7, 3) := by decide +kernel
theorem dX7_in_13 : decode cX7_in 13 = .ok (.iconst 1, 1) := by decide +kernel
theorem dX7_in_14 : decode cX7_in 14 = .ok (.goto 4, 3) := by decide +kernel
theorem dX7_in_17 : decode cX7_in 17 = .ok (.iconst 0, 1) := by decide +kernel
theorem dX7_in_18 : decode cX7_in 18 = .ok (.ireturn, 1) := by decide +kernel
theorem dX7_has_0 : decode cX7_has 0 = .ok (.iload_n 0, 1) := by decide +kernel
theorem dX7_has_1 : decode cX7_has 1 = .ok (.iload_n 1, 1) := by decide +kernel
theorem dX7_has_2 : decode cX7_has 2 = .ok (.ishr, 1) := by decide +kernel
theorem dX7_has_3 : decode cX7_has 3 = .ok (.iconst 1, 1) := by decide +kernel
theorem dX7_has_4 : decode cX7_has 4 = .ok (.iand, 1) := by decide +kernel
theorem dX7_has_5 : decode cX7_has 5 = .ok (.iconst 1, 1) := by decide +kernel
theorem dX7_has_6 : decode cX7_has 6 = .ok (.if_icmp .ne 7, 3) := by decide +kernel
theorem dX7_has_9 : decode cX7_has 9 = .ok (.iconst 1, 1) := by decide +kernel
theorem dX7_has_10 : decode cX7_has 10 = .ok (.goto 4, 3) := by decide +kernel
theorem dX7_has_13 : decode cX7_has 13 = .ok (.iconst 0, 1) := by decide +kernel
theorem dX7_has_14 : decode cX7_has 14 = .ok (.ireturn, 1) := by decide +kernel
theorem dX7_copyOf_0 : decode cX7_copyOf 0 = .ok (.iconst 0, 1) := by decide +kernel
theorem dX7_copyOf_1 : decode cX7_copyOf 1 = .ok (.istore_n 3, 1) := by decide +kernel
theorem dX7_copyOf_2 : decode cX7_copyOf 2 = .ok (.iload_n 3, 1) := by decide +kernel
theorem dX7_copyOf_3 : decode cX7_copyOf 3 = .ok (.bipush 43, 2) := by decide +kernel
theorem dX7_copyOf_5 : decode cX7_copyOf 5 = .ok (.if_icmp .ge 25, 3) := by decide +kernel
theorem dX7_copyOf_8 : decode cX7_copyOf 8 = .ok (.aload_n 0, 1) := by decide +kernel
theorem dX7_copyOf_9 : decode cX7_copyOf 9 = .ok (.getfield 7, 3) := by decide +kernel
theorem dX7_copyOf_12 : decode cX7_copyOf 12 = .ok (.iload_n 2, 1) := by decide +kernel
theorem dX7_copyOf_13 : decode cX7_copyOf 13 = .ok (.iload_n 3, 1) := by decide +kernel
theorem dX7_copyOf_14 : decode cX7_copyOf 14 = .ok (.iadd, 1) := by decide +kernel
theorem dX7_copyOf_15 : decode cX7_copyOf 15 = .ok (.aload_n 0, 1) := by decide +kernel
theorem dX7_copyOf_16 : decode cX7_copyOf 16 = .ok (.getfield 7, 3) := by decide +kernel
theorem dX7_copyOf_19 : decode cX7_copyOf 19 = .ok (.iload_n 1, 1) := by decide +kernel
theorem dX7_copyOf_20 : decode cX7_copyOf 20 = .ok (.iload_n 3, 1) := by decide +kernel
theorem dX7_copyOf_21 : decode cX7_copyOf 21 = .ok (.iadd, 1) := by decide +kernel
theorem dX7_copyOf_22 : decode cX7_copyOf 22 = .ok (.iaload, 1) := by decide +kernel
theorem dX7_copyOf_23 : decode cX7_copyOf 23 = .ok (.iastore, 1) := by decide +kernel
theorem dX7_copyOf_24 : decode cX7_copyOf 24 = .ok (.iinc 3 1, 3) := by decide +kernel
theorem dX7_copyOf_27 : decode cX7_copyOf 27 = .ok (.goto (-25), 3) := by decide +kernel
theorem dX7_copyOf_30 : decode cX7_copyOf 30 = .ok (.return_, 1) := by decide +kernel
theorem dX7_isTooth_0 : decode cX7_isTooth 0 = .ok (.iload_n 1, 1) := by decide +kernel
theorem dX7_isTooth_1 : decode cX7_isTooth 1 = .ok (.i2l, 1) := by decide +kernel
theorem dX7_isTooth_2 : decode cX7_isTooth 2 = .ok (.lconst 0, 1) := by decide +kernel
theorem dX7_isTooth_3 : decode cX7_isTooth 3 = .ok (.aload_n 0, 1) := by decide +kernel
theorem dX7_isTooth_4 : decode cX7_isTooth 4 = .ok (.getfield 7, 3) := by decide +kernel
theorem dX7_isTooth_7 : decode cX7_isTooth 7 = .ok (.iconst 0, 1) := by decide +kernel
theorem dX7_isTooth_8 : decode cX7_isTooth 8 = .ok (.iaload, 1) := by decide +kernel
theorem dX7_isTooth_9 : decode cX7_isTooth 9 = .ok (.iconst 1, 1) := by decide +kernel
theorem dX7_isTooth_10 : decode cX7_isTooth 10 = .ok (.isub, 1) := by decide +kernel
theorem dX7_isTooth_11 : decode cX7_isTooth 11 = .ok (.i2l, 1) := by decide +kernel
theorem dX7_isTooth_12 : decode cX7_isTooth 12 = .ok (.invokestatic 41, 3) := by decide +kernel
theorem dX7_isTooth_15 : decode cX7_isTooth 15 = .ok (.ireturn, 1) := by decide +kernel
theorem dX7_isColumn_0 : decode cX7_isColumn 0 = .ok (.iload_n 1, 1) := by decide +kernel
theorem dX7_isColumn_1 : decode cX7_isColumn 1 = .ok (.i2l, 1) := by decide +kernel
theorem dX7_isColumn_2 : decode cX7_isColumn 2 = .ok (.lconst 0, 1) := by decide +kernel
theorem dX7_isColumn_3 : decode cX7_isColumn 3 = .ok (.aload_n 0, 1) := by decide +kernel
theorem dX7_isColumn_4 : decode cX7_isColumn 4 = .ok (.getfield 7, 3) := by decide +kernel
theorem dX7_isColumn_7 : decode cX7_isColumn 7 = .ok (.iconst 1, 1) := by decide +kernel
theorem dX7_isColumn_8 : decode cX7_isColumn 8 = .ok (.iaload, 1) := by decide +kernel
theorem dX7_isColumn_9 : decode cX7_isColumn 9 = .ok (.iconst 1, 1) := by decide +kernel
theorem dX7_isColumn_10 : decode cX7_isColumn 10 = .ok (.isub, 1) := by decide +kernel
theorem dX7_isColumn_11 : decode cX7_isColumn 11 = .ok (.i2l, 1) := by decide +kernel
theorem dX7_isColumn_12 : decode cX7_isColumn 12 = .ok (.invokestatic 41, 3) := by decide +kernel
theorem dX7_isColumn_15 : decode cX7_isColumn 15 = .ok (.ireturn, 1) := by decide +kernel
theorem dX7_isBox_0 : decode cX7_isBox 0 = .ok (.aload_n 0, 1) := by decide +kernel
theorem dX7_isBox_1 : decode cX7_isBox 1 = .ok (.getfield 7, 3) := by decide +kernel
theorem dX7_isBox_4 : decode cX7_isBox 4 = .ok (.iconst 0, 1) := by decide +kernel
theorem dX7_isBox_5 : decode cX7_isBox 5 = .ok (.iaload, 1) := by decide +kernel
theorem dX7_isBox_6 : decode cX7_isBox 6 = .ok (.ifCond .le 7, 3) := by decide +kernel
theorem dX7_isBox_9 : decode cX7_isBox 9 = .ok (.iconst 1, 1) := by decide +kernel
theorem dX7_isBox_10 : decode cX7_isBox 10 = .ok (.goto 4, 3) := by decide +kernel
theorem dX7_isBox_13 : decode cX7_isBox 13 = .ok (.iconst 0, 1) := by decide +kernel
theorem dX7_isBox_14 : decode cX7_isBox 14 = .ok (.ireturn, 1) := by decide +kernel
theorem dX7_isRow_0 : decode cX7_isRow 0 = .ok (.iload_n 0, 1) := by decide +kernel
theorem dX7_isRow_1 : decode cX7_isRow 1 = .ok (.i2l, 1) := by decide +kernel
theorem dX7_isRow_2 : decode cX7_isRow 2 = .ok (.lconst 0, 1) := by decide +kernel
theorem dX7_isRow_3 : decode cX7_isRow 3 = .ok (.ldc2_w 45, 3) := by decide +kernel
theorem dX7_isRow_6 : decode cX7_isRow 6 = .ok (.invokestatic 41, 3) := by decide +kernel
theorem dX7_isRow_9 : decode cX7_isRow 9 = .ok (.ireturn, 1) := by decide +kernel
theorem dX7_finds_0 : decode cX7_finds 0 = .ok (.aload_n 0, 1) := by decide +kernel
theorem dX7_finds_1 : decode cX7_finds 1 = .ok (.iload_n 1, 1) := by decide +kernel
theorem dX7_finds_2 : decode cX7_finds 2 = .ok (.putfield 47, 3) := by decide +kernel
theorem dX7_finds_5 : decode cX7_finds 5 = .ok (.ldc 51, 2) := by decide +kernel
theorem dX7_finds_7 : decode cX7_finds 7 = .ok (.iload_n 1, 1) := by decide +kernel
theorem dX7_finds_8 : decode cX7_finds 8 = .ok (.isub, 1) := by decide +kernel
theorem dX7_finds_9 : decode cX7_finds 9 = .ok (.ireturn, 1) := by decide +kernel
theorem dX7_against_0 : decode cX7_against 0 = .ok (.aload_n 0, 1) := by decide +kernel
theorem dX7_against_1 : decode cX7_against 1 = .ok (.getfield 16, 3) := by decide +kernel
theorem dX7_against_4 : decode cX7_against 4 = .ok (.iload_n 1, 1) := by decide +kernel
theorem dX7_against_5 : decode cX7_against 5 = .ok (.iaload, 1) := by decide +kernel
theorem dX7_against_6 : decode cX7_against 6 = .ok (.ifCond .ge 7, 3) := by decide +kernel
theorem dX7_against_9 : decode cX7_against 9 = .ok (.iconst 1, 1) := by decide +kernel
theorem dX7_against_10 : decode cX7_against 10 = .ok (.goto 32, 3) := by decide +kernel
theorem dX7_against_13 : decode cX7_against 13 = .ok (.iload_n 2, 1) := by decide +kernel
theorem dX7_against_14 : decode cX7_against 14 = .ok (.ifCond .lt 23, 3) := by decide +kernel
theorem dX7_against_17 : decode cX7_against 17 = .ok (.iload_n 3, 1) := by decide +kernel
theorem dX7_against_18 : decode cX7_against 18 = .ok (.ifCond .lt 19, 3) := by decide +kernel
theorem dX7_against_21 : decode cX7_against 21 = .ok (.iload_n 2, 1) := by decide +kernel
theorem dX7_against_22 : decode cX7_against 22 = .ok (.i2l, 1) := by decide +kernel
theorem dX7_against_23 : decode cX7_against 23 = .ok (.iload_n 3, 1) := by decide +kernel
theorem dX7_against_24 : decode cX7_against 24 = .ok (.i2l, 1) := by decide +kernel
theorem dX7_against_25 : decode cX7_against 25 = .ok (.ladd, 1) := by decide +kernel
theorem dX7_against_26 : decode cX7_against 26 = .ok (.aload_n 0, 1) := by decide +kernel
theorem dX7_against_27 : decode cX7_against 27 = .ok (.getfield 16, 3) := by decide +kernel
theorem dX7_against_30 : decode cX7_against 30 = .ok (.iload_n 1, 1) := by decide +kernel
theorem dX7_against_31 : decode cX7_against 31 = .ok (.iaload, 1) := by decide +kernel
theorem dX7_against_32 : decode cX7_against 32 = .ok (.i2l, 1) := by decide +kernel
theorem dX7_against_33 : decode cX7_against 33 = .ok (.lcmp, 1) := by decide +kernel
theorem dX7_against_34 : decode cX7_against 34 = .ok (.ifCond .le 7, 3) := by decide +kernel
theorem dX7_against_37 : decode cX7_against 37 = .ok (.iconst 2, 1) := by decide +kernel
theorem dX7_against_38 : decode cX7_against 38 = .ok (.goto 4, 3) := by decide +kernel
theorem dX7_against_41 : decode cX7_against 41 = .ok (.iconst 0, 1) := by decide +kernel
theorem dX7_against_42 : decode cX7_against 42 = .ok (.ireturn, 1) := by decide +kernel
theorem dX7_row_0 : decode cX7_row 0 = .ok (.iload_n 1, 1) := by decide +kernel
theorem dX7_row_1 : decode cX7_row 1 = .ok (.invokestatic 52, 3) := by decide +kernel
theorem dX7_row_4 : decode cX7_row 4 = .ok (.ifCond .eq 21, 3) := by decide +kernel
theorem dX7_row_7 : decode cX7_row 7 = .ok (.iload_n 2, 1) := by decide +kernel
theorem dX7_row_8 : decode cX7_row 8 = .ok (.i2l, 1) := by decide +kernel
theorem dX7_row_9 : decode cX7_row 9 = .ok (.lconst 0, 1) := by decide +kernel
theorem dX7_row_10 : decode cX7_row 10 = .ok (.ldc2_w 56, 3) := by decide +kernel
theorem dX7_row_13 : decode cX7_row 13 = .ok (.invokestatic 41, 3) := by decide +kernel
theorem dX7_row_16 : decode cX7_row 16 = .ok (.ifCond .eq 9, 3) := by decide +kernel
theorem dX7_row_19 : decode cX7_row 19 = .ok (.iload_n 3, 1) := by decide +kernel
theorem dX7_row_20 : decode cX7_row 20 = .ok (.bipush 40, 2) := by decide +kernel
theorem dX7_row_22 : decode cX7_row 22 = .ok (.if_icmp .le 6, 3) := by decide +kernel
theorem dX7_row_25 : decode cX7_row 25 = .ok (.ldc 58, 2) := by decide +kernel
theorem dX7_row_27 : decode cX7_row 27 = .ok (.ireturn, 1) := by decide +kernel
theorem dX7_row_28 : decode cX7_row 28 = .ok (.iload_n 3, 1) := by decide +kernel
theorem dX7_row_29 : decode cX7_row 29 = .ok (.ifCond .ge 9, 3) := by decide +kernel
theorem dX7_row_32 : decode cX7_row 32 = .ok (.aload_n 0, 1) := by decide +kernel
theorem dX7_row_33 : decode cX7_row 33 = .ok (.iconst 4, 1) := by decide +kernel
theorem dX7_row_34 : decode cX7_row 34 = .ok (.invokevirtual 59, 3) := by decide +kernel
theorem dX7_row_37 : decode cX7_row 37 = .ok (.ireturn, 1) := by decide +kernel
theorem dX7_row_38 : decode cX7_row 38 = .ok (.aload_n 0, 1) := by decide +kernel
theorem dX7_row_39 : decode cX7_row 39 = .ok (.iconst 0, 1) := by decide +kernel
theorem dX7_row_40 : decode cX7_row 40 = .ok (.putfield 47, 3) := by decide +kernel
theorem dX7_row_43 : decode cX7_row 43 = .ok (.aload_n 0, 1) := by decide +kernel
theorem dX7_row_44 : decode cX7_row 44 = .ok (.getfield 16, 3) := by decide +kernel
theorem dX7_row_47 : decode cX7_row 47 = .ok (.iload_n 1, 1) := by decide +kernel
theorem dX7_row_48 : decode cX7_row 48 = .ok (.iload_n 3, 1) := by decide +kernel
theorem dX7_row_49 : decode cX7_row 49 = .ok (.iastore, 1) := by decide +kernel
theorem dX7_row_50 : decode cX7_row 50 = .ok (.aload_n 0, 1) := by decide +kernel
theorem dX7_row_51 : decode cX7_row 51 = .ok (.getfield 19, 3) := by decide +kernel
theorem dX7_row_54 : decode cX7_row 54 = .ok (.iload_n 1, 1) := by decide +kernel
theorem dX7_row_55 : decode cX7_row 55 = .ok (.iload_n 2, 1) := by decide +kernel
theorem dX7_row_56 : decode cX7_row 56 = .ok (.iastore, 1) := by decide +kernel
theorem dX7_row_57 : decode cX7_row 57 = .ok (.iconst 0, 1) := by decide +kernel
theorem dX7_row_58 : decode cX7_row 58 = .ok (.istore 4, 2) := by decide +kernel
theorem dX7_row_60 : decode cX7_row 60 = .ok (.iload 4, 2) := by decide +kernel
theorem dX7_row_62 : decode cX7_row 62 = .ok (.bipush 40, 2) := by decide +kernel
theorem dX7_row_64 : decode cX7_row 64 = .ok (.if_icmp .ge 22, 3) := by decide +kernel
theorem dX7_row_67 : decode cX7_row 67 = .ok (.aload_n 0, 1) := by decide +kernel
theorem dX7_row_68 : decode cX7_row 68 = .ok (.getfield 22, 3) := by decide +kernel
theorem dX7_row_71 : decode cX7_row 71 = .ok (.bipush 40, 2) := by decide +kernel
theorem dX7_row_73 : decode cX7_row 73 = .ok (.iload_n 1, 1) := by decide +kernel
theorem dX7_row_74 : decode cX7_row 74 = .ok (.imul, 1) := by decide +kernel
theorem dX7_row_75 : decode cX7_row 75 = .ok (.iload 4, 2) := by decide +kernel
theorem dX7_row_77 : decode cX7_row 77 = .ok (.iadd, 1) := by decide +kernel
theorem dX7_row_78 : decode cX7_row 78 = .ok (.iconst 0, 1) := by decide +kernel
theorem dX7_row_79 : decode cX7_row 79 = .ok (.iastore, 1) := by decide +kernel
theorem dX7_row_80 : decode cX7_row 80 = .ok (.iinc 4 1, 3) := by decide +kernel
theorem dX7_row_83 : decode cX7_row 83 = .ok (.goto (-23), 3) := by decide +kernel
theorem dX7_row_86 : decode cX7_row 86 = .ok (.iload_n 3, 1) := by decide +kernel
theorem dX7_row_87 : decode cX7_row 87 = .ok (.ireturn, 1) := by decide +kernel
theorem dX7_set_0 : decode cX7_set 0 = .ok (.iload_n 1, 1) := by decide +kernel
theorem dX7_set_1 : decode cX7_set 1 = .ok (.invokestatic 52, 3) := by decide +kernel
theorem dX7_set_4 : decode cX7_set 4 = .ok (.ifCond .ne 6, 3) := by decide +kernel
theorem dX7_set_7 : decode cX7_set 7 = .ok (.ldc 58, 2) := by decide +kernel
theorem dX7_set_9 : decode cX7_set 9 = .ok (.ireturn, 1) := by decide +kernel
theorem dX7_set_10 : decode cX7_set 10 = .ok (.aload_n 0, 1) := by decide +kernel
theorem dX7_set_11 : decode cX7_set 11 = .ok (.iload_n 1, 1) := by decide +kernel
theorem dX7_set_12 : decode cX7_set 12 = .ok (.iload_n 2, 1) := by decide +kernel
theorem dX7_set_13 : decode cX7_set 13 = .ok (.iconst 1, 1) := by decide +kernel
theorem dX7_set_14 : decode cX7_set 14 = .ok (.invokevirtual 63, 3) := by decide +kernel
theorem dX7_set_17 : decode cX7_set 17 = .ok (.istore 4, 2) := by decide +kernel
theorem dX7_set_19 : decode cX7_set 19 = .ok (.iload 4, 2) := by decide +kernel
theorem dX7_set_21 : decode cX7_set 21 = .ok (.ifCond .le 10, 3) := by decide +kernel
theorem dX7_set_24 : decode cX7_set 24 = .ok (.aload_n 0, 1) := by decide +kernel
theorem dX7_set_25 : decode cX7_set 25 = .ok (.iload 4, 2) := by decide +kernel
theorem dX7_set_27 : decode cX7_set 27 = .ok (.invokevirtual 59, 3) := by decide +kernel
theorem dX7_set_30 : decode cX7_set 30 = .ok (.ireturn, 1) := by decide +kernel
theorem dX7_set_31 : decode cX7_set 31 = .ok (.aload_n 0, 1) := by decide +kernel
theorem dX7_set_32 : decode cX7_set 32 = .ok (.iconst 0, 1) := by decide +kernel
theorem dX7_set_33 : decode cX7_set 33 = .ok (.putfield 47, 3) := by decide +kernel
theorem dX7_set_36 : decode cX7_set 36 = .ok (.aload_n 0, 1) := by decide +kernel
theorem dX7_set_37 : decode cX7_set 37 = .ok (.getfield 22, 3) := by decide +kernel
theorem dX7_set_40 : decode cX7_set 40 = .ok (.bipush 40, 2) := by decide +kernel
theorem dX7_set_42 : decode cX7_set 42 = .ok (.iload_n 1, 1) := by decide +kernel
theorem dX7_set_43 : decode cX7_set 43 = .ok (.imul, 1) := by decide +kernel
theorem dX7_set_44 : decode cX7_set 44 = .ok (.iload_n 2, 1) := by decide +kernel
theorem dX7_set_45 : decode cX7_set 45 = .ok (.iadd, 1) := by decide +kernel
theorem dX7_set_46 : decode cX7_set 46 = .ok (.aload_n 0, 1) := by decide +kernel
theorem dX7_set_47 : decode cX7_set 47 = .ok (.getfield 19, 3) := by decide +kernel
theorem dX7_set_50 : decode cX7_set 50 = .ok (.iload_n 1, 1) := by decide +kernel
theorem dX7_set_51 : decode cX7_set 51 = .ok (.iaload, 1) := by decide +kernel
theorem dX7_set_52 : decode cX7_set 52 = .ok (.ifCond .ne 8, 3) := by decide +kernel
theorem dX7_set_55 : decode cX7_set 55 = .ok (.iload_n 3, 1) := by decide +kernel
theorem dX7_set_56 : decode cX7_set 56 = .ok (.i2b, 1) := by decide +kernel
theorem dX7_set_57 : decode cX7_set 57 = .ok (.goto 19, 3) := by decide +kernel
theorem dX7_set_60 : decode cX7_set 60 = .ok (.aload_n 0, 1) := by decide +kernel
theorem dX7_set_61 : decode cX7_set 61 = .ok (.getfield 19, 3) := by decide +kernel
theorem dX7_set_64 : decode cX7_set 64 = .ok (.iload_n 1, 1) := by decide +kernel
theorem dX7_set_65 : decode cX7_set 65 = .ok (.iaload, 1) := by decide +kernel
theorem dX7_set_66 : decode cX7_set 66 = .ok (.iconst 1, 1) := by decide +kernel
theorem dX7_set_67 : decode cX7_set 67 = .ok (.if_icmp .ne 8, 3) := by decide +kernel
theorem dX7_set_70 : decode cX7_set 70 = .ok (.iload_n 3, 1) := by decide +kernel
theorem dX7_set_71 : decode cX7_set 71 = .ok (.i2s, 1) := by decide +kernel
theorem dX7_set_72 : decode cX7_set 72 = .ok (.goto 4, 3) := by decide +kernel
theorem dX7_set_75 : decode cX7_set 75 = .ok (.iload_n 3, 1) := by decide +kernel
theorem dX7_set_76 : decode cX7_set 76 = .ok (.iastore, 1) := by decide +kernel
theorem dX7_set_77 : decode cX7_set 77 = .ok (.aload_n 0, 1) := by decide +kernel
theorem dX7_set_78 : decode cX7_set 78 = .ok (.getfield 22, 3) := by decide +kernel
theorem dX7_set_81 : decode cX7_set 81 = .ok (.bipush 40, 2) := by decide +kernel
theorem dX7_set_83 : decode cX7_set 83 = .ok (.iload_n 1, 1) := by decide +kernel
theorem dX7_set_84 : decode cX7_set 84 = .ok (.imul, 1) := by decide +kernel
theorem dX7_set_85 : decode cX7_set 85 = .ok (.iload_n 2, 1) := by decide +kernel
theorem dX7_set_86 : decode cX7_set 86 = .ok (.iadd, 1) := by decide +kernel
theorem dX7_set_87 : decode cX7_set 87 = .ok (.iaload, 1) := by decide +kernel
theorem dX7_set_88 : decode cX7_set 88 = .ok (.ireturn, 1) := by decide +kernel
theorem dX7_copy_0 : decode cX7_copy 0 = .ok (.iload_n 1, 1) := by decide +kernel
theorem dX7_copy_1 : decode cX7_copy 1 = .ok (.invokestatic 52, 3) := by decide +kernel
theorem dX7_copy_4 : decode cX7_copy 4 = .ok (.ifCond .eq 10, 3) := by decide +kernel
theorem dX7_copy_7 : decode cX7_copy 7 = .ok (.iload_n 3, 1) := by decide +kernel
theorem dX7_copy_8 : decode cX7_copy 8 = .ok (.invokestatic 52, 3) := by decide +kernel
theorem dX7_copy_11 : decode cX7_copy 11 = .ok (.ifCond .ne 6, 3) := by decide +kernel
theorem dX7_copy_14 : decode cX7_copy 14 = .ok (.ldc 58, 2) := by decide +kernel
theorem dX7_copy_16 : decode cX7_copy 16 = .ok (.ireturn, 1) := by decide +kernel
theorem dX7_copy_17 : decode cX7_copy 17 = .ok (.aload_n 0, 1) := by decide +kernel
theorem dX7_copy_18 : decode cX7_copy 18 = .ok (.getfield 16, 3) := by decide +kernel
theorem dX7_copy_21 : decode cX7_copy 21 = .ok (.iload_n 1, 1) := by decide +kernel
theorem dX7_copy_22 : decode cX7_copy 22 = .ok (.iaload, 1) := by decide +kernel
theorem dX7_copy_23 : decode cX7_copy 23 = .ok (.ifCond .lt 12, 3) := by decide +kernel
theorem dX7_copy_26 : decode cX7_copy 26 = .ok (.aload_n 0, 1) := by decide +kernel
theorem dX7_copy_27 : decode cX7_copy 27 = .ok (.getfield 16, 3) := by decide +kernel
theorem dX7_copy_30 : decode cX7_copy 30 = .ok (.iload_n 3, 1) := by decide +kernel
theorem dX7_copy_31 : decode cX7_copy 31 = .ok (.iaload, 1) := by decide +kernel
theorem dX7_copy_32 : decode cX7_copy 32 = .ok (.ifCond .ge 9, 3) := by decide +kernel
theorem dX7_copy_35 : decode cX7_copy 35 = .ok (.aload_n 0, 1) := by decide +kernel
theorem dX7_copy_36 : decode cX7_copy 36 = .ok (.iconst 1, 1) := by decide +kernel
theorem dX7_copy_37 : decode cX7_copy 37 = .ok (.invokevirtual 59, 3) := by decide +kernel
theorem dX7_copy_40 : decode cX7_copy 40 = .ok (.ireturn, 1) := by decide +kernel
theorem dX7_copy_41 : decode cX7_copy 41 = .ok (.aload_n 0, 1) := by decide +kernel
theorem dX7_copy_42 : decode cX7_copy 42 = .ok (.getfield 19, 3) := by decide +kernel
theorem dX7_copy_45 : decode cX7_copy 45 = .ok (.iload_n 1, 1) := by decide +kernel
theorem dX7_copy_46 : decode cX7_copy 46 = .ok (.iaload, 1) := by decide +kernel
theorem dX7_copy_47 : decode cX7_copy 47 = .ok (.aload_n 0, 1) := by decide +kernel
theorem dX7_copy_48 : decode cX7_copy 48 = .ok (.getfield 19, 3) := by decide +kernel
theorem dX7_copy_51 : decode cX7_copy 51 = .ok (.iload_n 3, 1) := by decide +kernel
theorem dX7_copy_52 : decode cX7_copy 52 = .ok (.iaload, 1) := by decide +kernel
theorem dX7_copy_53 : decode cX7_copy 53 = .ok (.if_icmp .eq 9, 3) := by decide +kernel
theorem dX7_copy_56 : decode cX7_copy 56 = .ok (.aload_n 0, 1) := by decide +kernel
theorem dX7_copy_57 : decode cX7_copy 57 = .ok (.iconst 5, 1) := by decide +kernel
theorem dX7_copy_58 : decode cX7_copy 58 = .ok (.invokevirtual 59, 3) := by decide +kernel
theorem dX7_copy_61 : decode cX7_copy 61 = .ok (.ireturn, 1) := by decide +kernel
theorem dX7_copy_62 : decode cX7_copy 62 = .ok (.aload_n 0, 1) := by decide +kernel
theorem dX7_copy_63 : decode cX7_copy 63 = .ok (.iload_n 1, 1) := by decide +kernel
theorem dX7_copy_64 : decode cX7_copy 64 = .ok (.iload_n 2, 1) := by decide +kernel
theorem dX7_copy_65 : decode cX7_copy 65 = .ok (.iload 5, 2) := by decide +kernel
theorem dX7_copy_67 : decode cX7_copy 67 = .ok (.invokevirtual 63, 3) := by decide +kernel
theorem dX7_copy_70 : decode cX7_copy 70 = .ok (.ifCond .gt 15, 3) := by decide +kernel
theorem dX7_copy_73 : decode cX7_copy 73 = .ok (.aload_n 0, 1) := by decide +kernel
theorem dX7_copy_74 : decode cX7_copy 74 = .ok (.iload_n 3, 1) := by decide +kernel
theorem dX7_copy_75 : decode cX7_copy 75 = .ok (.iload 4, 2) := by decide +kernel
theorem dX7_copy_77 : decode cX7_copy 77 = .ok (.iload 5, 2) := by decide +kernel
theorem dX7_copy_79 : decode cX7_copy 79 = .ok (.invokevirtual 63, 3) := by decide +kernel
theorem dX7_copy_82 : decode cX7_copy 82 = .ok (.ifCond .le 9, 3) := by decide +kernel
theorem dX7_copy_85 : decode cX7_copy 85 = .ok (.aload_n 0, 1) := by decide +kernel
theorem dX7_copy_86 : decode cX7_copy 86 = .ok (.iconst 2, 1) := by decide +kernel
theorem dX7_copy_87 : decode cX7_copy 87 = .ok (.invokevirtual 59, 3) := by decide +kernel
theorem dX7_copy_90 : decode cX7_copy 90 = .ok (.ireturn, 1) := by decide +kernel
theorem dX7_copy_91 : decode cX7_copy 91 = .ok (.aload_n 0, 1) := by decide +kernel
theorem dX7_copy_92 : decode cX7_copy 92 = .ok (.iconst 0, 1) := by decide +kernel
theorem dX7_copy_93 : decode cX7_copy 93 = .ok (.putfield 47, 3) := by decide +kernel
theorem dX7_copy_96 : decode cX7_copy 96 = .ok (.iconst 0, 1) := by decide +kernel
theorem dX7_copy_97 : decode cX7_copy 97 = .ok (.istore 6, 2) := by decide +kernel
theorem dX7_copy_99 : decode cX7_copy 99 = .ok (.iload 6, 2) := by decide +kernel
theorem dX7_copy_101 : decode cX7_copy 101 = .ok (.iload 5, 2) := by decide +kernel
theorem dX7_copy_103 : decode cX7_copy 103 = .ok (.if_icmp .ge 30, 3) := by decide +kernel
theorem dX7_copy_106 : decode cX7_copy 106 = .ok (.aload_n 0, 1) := by decide +kernel
theorem dX7_copy_107 : decode cX7_copy 107 = .ok (.getfield 25, 3) := by decide +kernel
theorem dX7_copy_110 : decode cX7_copy 110 = .ok (.iload 6, 2) := by decide +kernel
theorem dX7_copy_112 : decode cX7_copy 112 = .ok (.aload_n 0, 1) := by decide +kernel
theorem dX7_copy_113 : decode cX7_copy 113 = .ok (.getfield 22, 3) := by decide +kernel
theorem dX7_copy_116 : decode cX7_copy 116 = .ok (.bipush 40, 2) := by decide +kernel
theorem dX7_copy_118 : decode cX7_copy 118 = .ok (.iload_n 1, 1) := by decide +kernel
theorem dX7_copy_119 : decode cX7_copy 119 = .ok (.imul, 1) := by decide +kernel
theorem dX7_copy_120 : decode cX7_copy 120 = .ok (.iload_n 2, 1) := by decide +kernel
theorem dX7_copy_121 : decode cX7_copy 121 = .ok (.iadd, 1) := by decide +kernel
theorem dX7_copy_122 : decode cX7_copy 122 = .ok (.iload 6, 2) := by decide +kernel
theorem dX7_copy_124 : decode cX7_copy 124 = .ok (.iadd, 1) := by decide +kernel
theorem dX7_copy_125 : decode cX7_copy 125 = .ok (.iaload, 1) := by decide +kernel
theorem dX7_copy_126 : decode cX7_copy 126 = .ok (.iastore, 1) := by decide +kernel
theorem dX7_copy_127 : decode cX7_copy 127 = .ok (.iinc 6 1, 3) := by decide +kernel
theorem dX7_copy_130 : decode cX7_copy 130 = .ok (.goto (-31), 3) := by decide +kernel
theorem dX7_copy_133 : decode cX7_copy 133 = .ok (.iconst 0, 1) := by decide +kernel
theorem dX7_copy_134 : decode cX7_copy 134 = .ok (.istore 6, 2) := by decide +kernel
theorem dX7_copy_136 : decode cX7_copy 136 = .ok (.iload 6, 2) := by decide +kernel
theorem dX7_copy_138 : decode cX7_copy 138 = .ok (.iload 5, 2) := by decide +kernel
theorem dX7_copy_140 : decode cX7_copy 140 = .ok (.if_icmp .ge 31, 3) := by decide +kernel
theorem dX7_copy_143 : decode cX7_copy 143 = .ok (.aload_n 0, 1) := by decide +kernel
theorem dX7_copy_144 : decode cX7_copy 144 = .ok (.getfield 22, 3) := by decide +kernel
theorem dX7_copy_147 : decode cX7_copy 147 = .ok (.bipush 40, 2) := by decide +kernel
theorem dX7_copy_149 : decode cX7_copy 149 = .ok (.iload_n 3, 1) := by decide +kernel
theorem dX7_copy_150 : decode cX7_copy 150 = .ok (.imul, 1) := by decide +kernel
theorem dX7_copy_151 : decode cX7_copy 151 = .ok (.iload 4, 2) := by decide +kernel
theorem dX7_copy_153 : decode cX7_copy 153 = .ok (.iadd, 1) := by decide +kernel
theorem dX7_copy_154 : decode cX7_copy 154 = .ok (.iload 6, 2) := by decide +kernel
theorem dX7_copy_156 : decode cX7_copy 156 = .ok (.iadd, 1) := by decide +kernel
theorem dX7_copy_157 : decode cX7_copy 157 = .ok (.aload_n 0, 1) := by decide +kernel
theorem dX7_copy_158 : decode cX7_copy 158 = .ok (.getfield 25, 3) := by decide +kernel
theorem dX7_copy_161 : decode cX7_copy 161 = .ok (.iload 6, 2) := by decide +kernel
theorem dX7_copy_163 : decode cX7_copy 163 = .ok (.iaload, 1) := by decide +kernel
theorem dX7_copy_164 : decode cX7_copy 164 = .ok (.iastore, 1) := by decide +kernel
theorem dX7_copy_165 : decode cX7_copy 165 = .ok (.iinc 6 1, 3) := by decide +kernel
theorem dX7_copy_168 : decode cX7_copy 168 = .ok (.goto (-32), 3) := by decide +kernel
theorem dX7_copy_171 : decode cX7_copy 171 = .ok (.iload 5, 2) := by decide +kernel
theorem dX7_copy_173 : decode cX7_copy 173 = .ok (.ireturn, 1) := by decide +kernel
theorem dX7_drop_0 : decode cX7_drop 0 = .ok (.iload_n 1, 1) := by decide +kernel
theorem dX7_drop_1 : decode cX7_drop 1 = .ok (.invokestatic 52, 3) := by decide +kernel
theorem dX7_drop_4 : decode cX7_drop 4 = .ok (.ifCond .ne 6, 3) := by decide +kernel
theorem dX7_drop_7 : decode cX7_drop 7 = .ok (.ldc 58, 2) := by decide +kernel
theorem dX7_drop_9 : decode cX7_drop 9 = .ok (.ireturn, 1) := by decide +kernel
theorem dX7_drop_10 : decode cX7_drop 10 = .ok (.aload_n 0, 1) := by decide +kernel
theorem dX7_drop_11 : decode cX7_drop 11 = .ok (.getfield 16, 3) := by decide +kernel
theorem dX7_drop_14 : decode cX7_drop 14 = .ok (.iload_n 1, 1) := by decide +kernel
theorem dX7_drop_15 : decode cX7_drop 15 = .ok (.iaload, 1) := by decide +kernel
theorem dX7_drop_16 : decode cX7_drop 16 = .ok (.ifCond .ge 9, 3) := by decide +kernel
theorem dX7_drop_19 : decode cX7_drop 19 = .ok (.aload_n 0, 1) := by decide +kernel
theorem dX7_drop_20 : decode cX7_drop 20 = .ok (.iconst 1, 1) := by decide +kernel
theorem dX7_drop_21 : decode cX7_drop 21 = .ok (.invokevirtual 59, 3) := by decide +kernel
theorem dX7_drop_24 : decode cX7_drop 24 = .ok (.ireturn, 1) := by decide +kernel
theorem dX7_drop_25 : decode cX7_drop 25 = .ok (.aload_n 0, 1) := by decide +kernel
theorem dX7_drop_26 : decode cX7_drop 26 = .ok (.iconst 0, 1) := by decide +kernel
theorem dX7_drop_27 : decode cX7_drop 27 = .ok (.putfield 47, 3) := by decide +kernel
theorem dX7_drop_30 : decode cX7_drop 30 = .ok (.aload_n 0, 1) := by decide +kernel
theorem dX7_drop_31 : decode cX7_drop 31 = .ok (.getfield 16, 3) := by decide +kernel
theorem dX7_drop_34 : decode cX7_drop 34 = .ok (.iload_n 1, 1) := by decide +kernel
theorem dX7_drop_35 : decode cX7_drop 35 = .ok (.iaload, 1) := by decide +kernel
theorem dX7_drop_36 : decode cX7_drop 36 = .ok (.istore_n 2, 1) := by decide +kernel
theorem dX7_drop_37 : decode cX7_drop 37 = .ok (.aload_n 0, 1) := by decide +kernel
theorem dX7_drop_38 : decode cX7_drop 38 = .ok (.getfield 16, 3) := by decide +kernel
theorem dX7_drop_41 : decode cX7_drop 41 = .ok (.iload_n 1, 1) := by decide +kernel
theorem dX7_drop_42 : decode cX7_drop 42 = .ok (.iconst (-1), 1) := by decide +kernel
theorem dX7_drop_43 : decode cX7_drop 43 = .ok (.iastore, 1) := by decide +kernel
theorem dX7_drop_44 : decode cX7_drop 44 = .ok (.iload_n 2, 1) := by decide +kernel
theorem dX7_drop_45 : decode cX7_drop 45 = .ok (.ireturn, 1) := by decide +kernel
theorem dX7_feed_0 : decode cX7_feed 0 = .ok (.iload_n 1, 1) := by decide +kernel
theorem dX7_feed_1 : decode cX7_feed 1 = .ok (.i2l, 1) := by decide +kernel
theorem dX7_feed_2 : decode cX7_feed 2 = .ok (.lconst 0, 1) := by decide +kernel
theorem dX7_feed_3 : decode cX7_feed 3 = .ok (.ldc2_w 67, 3) := by decide +kernel
theorem dX7_feed_6 : decode cX7_feed 6 = .ok (.invokestatic 41, 3) := by decide +kernel
theorem dX7_feed_9 : decode cX7_feed 9 = .ok (.ifCond .ne 6, 3) := by decide +kernel
theorem dX7_feed_12 : decode cX7_feed 12 = .ok (.ldc 58, 2) := by decide +kernel
theorem dX7_feed_14 : decode cX7_feed 14 = .ok (.ireturn, 1) := by decide +kernel
theorem dX7_feed_15 : decode cX7_feed 15 = .ok (.aload_n 0, 1) := by decide +kernel
theorem dX7_feed_16 : decode cX7_feed 16 = .ok (.getfield 69, 3) := by decide +kernel
theorem dX7_feed_19 : decode cX7_feed 19 = .ok (.bipush 100, 2) := by decide +kernel
theorem dX7_feed_21 : decode cX7_feed 21 = .ok (.if_icmp .ne 6, 3) := by decide +kernel
theorem dX7_feed_24 : decode cX7_feed 24 = .ok (.ldc 72, 2) := by decide +kernel
theorem dX7_feed_26 : decode cX7_feed 26 = .ok (.ireturn, 1) := by decide +kernel
theorem dX7_feed_27 : decode cX7_feed 27 = .ok (.aload_n 0, 1) := by decide +kernel
theorem dX7_feed_28 : decode cX7_feed 28 = .ok (.getfield 13, 3) := by decide +kernel
theorem dX7_feed_31 : decode cX7_feed 31 = .ok (.aload_n 0, 1) := by decide +kernel
theorem dX7_feed_32 : decode cX7_feed 32 = .ok (.getfield 69, 3) := by decide +kernel
theorem dX7_feed_35 : decode cX7_feed 35 = .ok (.iload_n 1, 1) := by decide +kernel
theorem dX7_feed_36 : decode cX7_feed 36 = .ok (.iastore, 1) := by decide +kernel
theorem dX7_feed_37 : decode cX7_feed 37 = .ok (.aload_n 0, 1) := by decide +kernel
theorem dX7_feed_38 : decode cX7_feed 38 = .ok (.dup, 1) := by decide +kernel
theorem dX7_feed_39 : decode cX7_feed 39 = .ok (.getfield 69, 3) := by decide +kernel
theorem dX7_feed_42 : decode cX7_feed 42 = .ok (.iconst 1, 1) := by decide +kernel
theorem dX7_feed_43 : decode cX7_feed 43 = .ok (.iadd, 1) := by decide +kernel
theorem dX7_feed_44 : decode cX7_feed 44 = .ok (.putfield 69, 3) := by decide +kernel
theorem dX7_feed_47 : decode cX7_feed 47 = .ok (.aload_n 0, 1) := by decide +kernel
theorem dX7_feed_48 : decode cX7_feed 48 = .ok (.getfield 69, 3) := by decide +kernel
theorem dX7_feed_51 : decode cX7_feed 51 = .ok (.ireturn, 1) := by decide +kernel
theorem dX7_here_0 : decode cX7_here 0 = .ok (.aload_n 0, 1) := by decide +kernel
theorem dX7_here_1 : decode cX7_here 1 = .ok (.getfield 73, 3) := by decide +kernel
theorem dX7_here_4 : decode cX7_here 4 = .ok (.aload_n 0, 1) := by decide +kernel
theorem dX7_here_5 : decode cX7_here 5 = .ok (.getfield 69, 3) := by decide +kernel
theorem dX7_here_8 : decode cX7_here 8 = .ok (.if_icmp .ge 15, 3) := by decide +kernel
theorem dX7_here_11 : decode cX7_here 11 = .ok (.aload_n 0, 1) := by decide +kernel
theorem dX7_here_12 : decode cX7_here 12 = .ok (.getfield 13, 3) := by decide +kernel
theorem dX7_here_15 : decode cX7_here 15 = .ok (.aload_n 0, 1) := by decide +kernel
theorem dX7_here_16 : decode cX7_here 16 = .ok (.getfield 73, 3) := by decide +kernel
theorem dX7_here_19 : decode cX7_here 19 = .ok (.iaload, 1) := by decide +kernel
theorem dX7_here_20 : decode cX7_here 20 = .ok (.goto 4, 3) := by decide +kernel
theorem dX7_here_23 : decode cX7_here 23 = .ok (.iconst (-1), 1) := by decide +kernel
theorem dX7_here_24 : decode cX7_here 24 = .ok (.ireturn, 1) := by decide +kernel
theorem dX7_fails_0 : decode cX7_fails 0 = .ok (.aload_n 0, 1) := by decide +kernel
theorem dX7_fails_1 : decode cX7_fails 1 = .ok (.iload_n 1, 1) := by decide +kernel
theorem dX7_fails_2 : decode cX7_fails 2 = .ok (.putfield 76, 3) := by decide +kernel
theorem dX7_fails_5 : decode cX7_fails 5 = .ok (.aload_n 0, 1) := by decide +kernel
theorem dX7_fails_6 : decode cX7_fails 6 = .ok (.iload_n 2, 1) := by decide +kernel
theorem dX7_fails_7 : decode cX7_fails 7 = .ok (.putfield 79, 3) := by decide +kernel
theorem dX7_fails_10 : decode cX7_fails 10 = .ok (.iconst 0, 1) := by decide +kernel
theorem dX7_fails_11 : decode cX7_fails 11 = .ok (.ireturn, 1) := by decide +kernel
theorem dX7_takes_0 : decode cX7_takes 0 = .ok (.aload_n 0, 1) := by decide +kernel
theorem dX7_takes_1 : decode cX7_takes 1 = .ok (.invokevirtual 82, 3) := by decide +kernel
theorem dX7_takes_4 : decode cX7_takes 4 = .ok (.iload_n 1, 1) := by decide +kernel
theorem dX7_takes_5 : decode cX7_takes 5 = .ok (.if_icmp .eq 13, 3) := by decide +kernel
theorem dX7_takes_8 : decode cX7_takes 8 = .ok (.aload_n 0, 1) := by decide +kernel
theorem dX7_takes_9 : decode cX7_takes 9 = .ok (.iconst 1, 1) := by decide +kernel
theorem dX7_takes_10 : decode cX7_takes 10 = .ok (.aload_n 0, 1) := by decide +kernel
theorem dX7_takes_11 : decode cX7_takes 11 = .ok (.getfield 73, 3) := by decide +kernel
theorem dX7_takes_14 : decode cX7_takes 14 = .ok (.invokevirtual 86, 3) := by decide +kernel
theorem dX7_takes_17 : decode cX7_takes 17 = .ok (.ireturn, 1) := by decide +kernel
theorem dX7_takes_18 : decode cX7_takes 18 = .ok (.aload_n 0, 1) := by decide +kernel
theorem dX7_takes_19 : decode cX7_takes 19 = .ok (.dup, 1) := by decide +kernel
theorem dX7_takes_20 : decode cX7_takes 20 = .ok (.getfield 73, 3) := by decide +kernel
theorem dX7_takes_23 : decode cX7_takes 23 = .ok (.iconst 1, 1) := by decide +kernel
theorem dX7_takes_24 : decode cX7_takes 24 = .ok (.iadd, 1) := by decide +kernel
theorem dX7_takes_25 : decode cX7_takes 25 = .ok (.putfield 73, 3) := by decide +kernel
theorem dX7_takes_28 : decode cX7_takes 28 = .ok (.iconst 1, 1) := by decide +kernel
theorem dX7_takes_29 : decode cX7_takes 29 = .ok (.ireturn, 1) := by decide +kernel
theorem dX7_takesNumber_0 : decode cX7_takesNumber 0 = .ok (.aload_n 0, 1) := by decide +kernel
theorem dX7_takesNumber_1 : decode cX7_takesNumber 1 = .ok (.getfield 73, 3) := by decide +kernel
theorem dX7_takesNumber_4 : decode cX7_takesNumber 4 = .ok (.istore_n 3, 1) := by decide +kernel
theorem dX7_takesNumber_5 : decode cX7_takesNumber 5 = .ok (.aload_n 0, 1) := by decide +kernel
theorem dX7_takesNumber_6 : decode cX7_takesNumber 6 = .ok (.iconst 0, 1) := by decide +kernel
theorem dX7_takesNumber_7 : decode cX7_takesNumber 7 = .ok (.putfield 90, 3) := by decide +kernel
theorem dX7_takesNumber_10 : decode cX7_takesNumber 10 = .ok (.aload_n 0, 1) := by decide +kernel
theorem dX7_takesNumber_11 : decode cX7_takesNumber 11 = .ok (.invokevirtual 82, 3) := by decide +kernel
theorem dX7_takesNumber_14 : decode cX7_takesNumber 14 = .ok (.i2l, 1) := by decide +kernel
theorem dX7_takesNumber_15 : decode cX7_takesNumber 15 = .ok (.ldc2_w 93, 3) := by decide +kernel
theorem dX7_takesNumber_18 : decode cX7_takesNumber 18 = .ok (.ldc2_w 95, 3) := by decide +kernel
theorem dX7_takesNumber_21 : decode cX7_takesNumber 21 = .ok (.invokestatic 41, 3) := by decide +kernel
theorem dX7_takesNumber_24 : decode cX7_takesNumber 24 = .ok (.ifCond .eq 52, 3) := by decide +kernel
theorem dX7_takesNumber_27 : decode cX7_takesNumber 27 = .ok (.aload_n 0, 1) := by decide +kernel
theorem dX7_takesNumber_28 : decode cX7_takesNumber 28 = .ok (.aload_n 0, 1) := by decide +kernel
theorem dX7_takesNumber_29 : decode cX7_takesNumber 29 = .ok (.getfield 73, 3) := by decide +kernel
theorem dX7_takesNumber_32 : decode cX7_takesNumber 32 = .ok (.iload_n 3, 1) := by decide +kernel
theorem dX7_takesNumber_33 : decode cX7_takesNumber 33 = .ok (.isub, 1) := by decide +kernel
theorem dX7_takesNumber_34 : decode cX7_takesNumber 34 = .ok (.iconst 2, 1) := by decide +kernel
theorem dX7_takesNumber_35 : decode cX7_takesNumber 35 = .ok (.if_icmp .ge 21, 3) := by decide +kernel
theorem dX7_takesNumber_38 : decode cX7_takesNumber 38 = .ok (.bipush 10, 2) := by decide +kernel
theorem dX7_takesNumber_40 : decode cX7_takesNumber 40 = .ok (.aload_n 0, 1) := by decide +kernel
theorem dX7_takesNumber_41 : decode cX7_takesNumber 41 = .ok (.getfield 90, 3) := by decide +kernel
theorem dX7_takesNumber_44 : decode cX7_takesNumber 44 = .ok (.imul, 1) := by decide +kernel
theorem dX7_takesNumber_45 : decode cX7_takesNumber 45 = .ok (.aload_n 0, 1) := by decide +kernel
theorem dX7_takesNumber_46 : decode cX7_takesNumber 46 = .ok (.invokevirtual 82, 3) := by decide +kernel
theorem dX7_takesNumber_49 : decode cX7_takesNumber 49 = .ok (.iadd, 1) := by decide +kernel
theorem dX7_takesNumber_50 : decode cX7_takesNumber 50 = .ok (.bipush 48, 2) := by decide +kernel
theorem dX7_takesNumber_52 : decode cX7_takesNumber 52 = .ok (.isub, 1) := by decide +kernel
theorem dX7_takesNumber_53 : decode cX7_takesNumber 53 = .ok (.goto 7, 3) := by decide +kernel
theorem dX7_takesNumber_56 : decode cX7_takesNumber 56 = .ok (.aload_n 0, 1) := by decide +kernel
theorem dX7_takesNumber_57 : decode cX7_takesNumber 57 = .ok (.getfield 90, 3) := by decide +kernel
theorem dX7_takesNumber_60 : decode cX7_takesNumber 60 = .ok (.putfield 90, 3) := by decide +kernel
theorem dX7_takesNumber_63 : decode cX7_takesNumber 63 = .ok (.aload_n 0, 1) := by decide +kernel
theorem dX7_takesNumber_64 : decode cX7_takesNumber 64 = .ok (.dup, 1) := by decide +kernel
theorem dX7_takesNumber_65 : decode cX7_takesNumber 65 = .ok (.getfield 73, 3) := by decide +kernel
theorem dX7_takesNumber_68 : decode cX7_takesNumber 68 = .ok (.iconst 1, 1) := by decide +kernel
theorem dX7_takesNumber_69 : decode cX7_takesNumber 69 = .ok (.iadd, 1) := by decide +kernel
theorem dX7_takesNumber_70 : decode cX7_takesNumber 70 = .ok (.putfield 73, 3) := by decide +kernel
theorem dX7_takesNumber_73 : decode cX7_takesNumber 73 = .ok (.goto (-63), 3) := by decide +kernel
theorem dX7_takesNumber_76 : decode cX7_takesNumber 76 = .ok (.aload_n 0, 1) := by decide +kernel
theorem dX7_takesNumber_77 : decode cX7_takesNumber 77 = .ok (.getfield 73, 3) := by decide +kernel
theorem dX7_takesNumber_80 : decode cX7_takesNumber 80 = .ok (.iload_n 3, 1) := by decide +kernel
theorem dX7_takesNumber_81 : decode cX7_takesNumber 81 = .ok (.isub, 1) := by decide +kernel
theorem dX7_takesNumber_82 : decode cX7_takesNumber 82 = .ok (.i2l, 1) := by decide +kernel
theorem dX7_takesNumber_83 : decode cX7_takesNumber 83 = .ok (.lconst 1, 1) := by decide +kernel
theorem dX7_takesNumber_84 : decode cX7_takesNumber 84 = .ok (.ldc2_w 56, 3) := by decide +kernel
theorem dX7_takesNumber_87 : decode cX7_takesNumber 87 = .ok (.invokestatic 41, 3) := by decide +kernel
theorem dX7_takesNumber_90 : decode cX7_takesNumber 90 = .ok (.ifCond .ne 10, 3) := by decide +kernel
theorem dX7_takesNumber_93 : decode cX7_takesNumber 93 = .ok (.aload_n 0, 1) := by decide +kernel
theorem dX7_takesNumber_94 : decode cX7_takesNumber 94 = .ok (.iconst 1, 1) := by decide +kernel
theorem dX7_takesNumber_95 : decode cX7_takesNumber 95 = .ok (.iload_n 3, 1) := by decide +kernel
theorem dX7_takesNumber_96 : decode cX7_takesNumber 96 = .ok (.invokevirtual 86, 3) := by decide +kernel
theorem dX7_takesNumber_99 : decode cX7_takesNumber 99 = .ok (.ireturn, 1) := by decide +kernel
theorem dX7_takesNumber_100 : decode cX7_takesNumber 100 = .ok (.aload_n 0, 1) := by decide +kernel
theorem dX7_takesNumber_101 : decode cX7_takesNumber 101 = .ok (.getfield 90, 3) := by decide +kernel
theorem dX7_takesNumber_104 : decode cX7_takesNumber 104 = .ok (.i2l, 1) := by decide +kernel
theorem dX7_takesNumber_105 : decode cX7_takesNumber 105 = .ok (.iload_n 1, 1) := by decide +kernel
theorem dX7_takesNumber_106 : decode cX7_takesNumber 106 = .ok (.i2l, 1) := by decide +kernel
theorem dX7_takesNumber_107 : decode cX7_takesNumber 107 = .ok (.iload_n 2, 1) := by decide +kernel
theorem dX7_takesNumber_108 : decode cX7_takesNumber 108 = .ok (.i2l, 1) := by decide +kernel
theorem dX7_takesNumber_109 : decode cX7_takesNumber 109 = .ok (.invokestatic 41, 3) := by decide +kernel
theorem dX7_takesNumber_112 : decode cX7_takesNumber 112 = .ok (.ifCond .ne 10, 3) := by decide +kernel
theorem dX7_takesNumber_115 : decode cX7_takesNumber 115 = .ok (.aload_n 0, 1) := by decide +kernel
theorem dX7_takesNumber_116 : decode cX7_takesNumber 116 = .ok (.iconst 2, 1) := by decide +kernel
theorem dX7_takesNumber_117 : decode cX7_takesNumber 117 = .ok (.iload_n 3, 1) := by decide +kernel
theorem dX7_takesNumber_118 : decode cX7_takesNumber 118 = .ok (.invokevirtual 86, 3) := by decide +kernel
theorem dX7_takesNumber_121 : decode cX7_takesNumber 121 = .ok (.ireturn, 1) := by decide +kernel
theorem dX7_takesNumber_122 : decode cX7_takesNumber 122 = .ok (.iconst 1, 1) := by decide +kernel
theorem dX7_takesNumber_123 : decode cX7_takesNumber 123 = .ok (.ireturn, 1) := by decide +kernel
theorem dX7_kindOf_0 : decode cX7_kindOf 0 = .ok (.iload_n 0, 1) := by decide +kernel
theorem dX7_kindOf_1 : decode cX7_kindOf 1 = .ok (.bipush 115, 2) := by decide +kernel
theorem dX7_kindOf_3 : decode cX7_kindOf 3 = .ok (.if_icmp .ne 7, 3) := by decide +kernel
theorem dX7_kindOf_6 : decode cX7_kindOf 6 = .ok (.iconst 1, 1) := by decide +kernel
theorem dX7_kindOf_7 : decode cX7_kindOf 7 = .ok (.goto 44, 3) := by decide +kernel
theorem dX7_kindOf_10 : decode cX7_kindOf 10 = .ok (.iload_n 0, 1) := by decide +kernel
theorem dX7_kindOf_11 : decode cX7_kindOf 11 = .ok (.bipush 100, 2) := by decide +kernel
theorem dX7_kindOf_13 : decode cX7_kindOf 13 = .ok (.if_icmp .ne 7, 3) := by decide +kernel
theorem dX7_kindOf_16 : decode cX7_kindOf 16 = .ok (.iconst 2, 1) := by decide +kernel
theorem dX7_kindOf_17 : decode cX7_kindOf 17 = .ok (.goto 34, 3) := by decide +kernel
theorem dX7_kindOf_20 : decode cX7_kindOf 20 = .ok (.iload_n 0, 1) := by decide +kernel
theorem dX7_kindOf_21 : decode cX7_kindOf 21 = .ok (.bipush 116, 2) := by decide +kernel
theorem dX7_kindOf_23 : decode cX7_kindOf 23 = .ok (.if_icmp .ne 7, 3) := by decide +kernel
theorem dX7_kindOf_26 : decode cX7_kindOf 26 = .ok (.iconst 3, 1) := by decide +kernel
theorem dX7_kindOf_27 : decode cX7_kindOf 27 = .ok (.goto 24, 3) := by decide +kernel
theorem dX7_kindOf_30 : decode cX7_kindOf 30 = .ok (.iload_n 0, 1) := by decide +kernel
theorem dX7_kindOf_31 : decode cX7_kindOf 31 = .ok (.bipush 114, 2) := by decide +kernel
theorem dX7_kindOf_33 : decode cX7_kindOf 33 = .ok (.if_icmp .ne 7, 3) := by decide +kernel
theorem dX7_kindOf_36 : decode cX7_kindOf 36 = .ok (.iconst 4, 1) := by decide +kernel
theorem dX7_kindOf_37 : decode cX7_kindOf 37 = .ok (.goto 14, 3) := by decide +kernel
theorem dX7_kindOf_40 : decode cX7_kindOf 40 = .ok (.iload_n 0, 1) := by decide +kernel
theorem dX7_kindOf_41 : decode cX7_kindOf 41 = .ok (.bipush 99, 2) := by decide +kernel
theorem dX7_kindOf_43 : decode cX7_kindOf 43 = .ok (.if_icmp .ne 7, 3) := by decide +kernel
theorem dX7_kindOf_46 : decode cX7_kindOf 46 = .ok (.iconst 5, 1) := by decide +kernel
theorem dX7_kindOf_47 : decode cX7_kindOf 47 = .ok (.goto 4, 3) := by decide +kernel
theorem dX7_kindOf_50 : decode cX7_kindOf 50 = .ok (.iconst 0, 1) := by decide +kernel
theorem dX7_kindOf_51 : decode cX7_kindOf 51 = .ok (.ireturn, 1) := by decide +kernel
theorem dX7_takesLaw_0 : decode cX7_takesLaw 0 = .ok (.aload_n 0, 1) := by decide +kernel
theorem dX7_takesLaw_1 : decode cX7_takesLaw 1 = .ok (.bipush 109, 2) := by decide +kernel
theorem dX7_takesLaw_3 : decode cX7_takesLaw 3 = .ok (.invokevirtual 97, 3) := by decide +kernel
theorem dX7_takesLaw_6 : decode cX7_takesLaw 6 = .ok (.ifCond .eq 13, 3) := by decide +kernel
theorem dX7_takesLaw_9 : decode cX7_takesLaw 9 = .ok (.aload_n 0, 1) := by decide +kernel
theorem dX7_takesLaw_10 : decode cX7_takesLaw 10 = .ok (.iconst 0, 1) := by decide +kernel
theorem dX7_takesLaw_11 : decode cX7_takesLaw 11 = .ok (.bipush 99, 2) := by decide +kernel
theorem dX7_takesLaw_13 : decode cX7_takesLaw 13 = .ok (.invokevirtual 100, 3) := by decide +kernel
theorem dX7_takesLaw_16 : decode cX7_takesLaw 16 = .ok (.ifCond .ne 5, 3) := by decide +kernel
theorem dX7_takesLaw_19 : decode cX7_takesLaw 19 = .ok (.iconst 0, 1) := by decide +kernel
theorem dX7_takesLaw_20 : decode cX7_takesLaw 20 = .ok (.ireturn, 1) := by decide +kernel
theorem dX7_takesLaw_21 : decode cX7_takesLaw 21 = .ok (.aload_n 0, 1) := by decide +kernel
theorem dX7_takesLaw_22 : decode cX7_takesLaw 22 = .ok (.getfield 7, 3) := by decide +kernel
theorem dX7_takesLaw_25 : decode cX7_takesLaw 25 = .ok (.sipush 174, 3) := by decide +kernel
theorem dX7_takesLaw_28 : decode cX7_takesLaw 28 = .ok (.aload_n 0, 1) := by decide +kernel
theorem dX7_takesLaw_29 : decode cX7_takesLaw 29 = .ok (.getfield 90, 3) := by decide +kernel
theorem dX7_takesLaw_32 : decode cX7_takesLaw 32 = .ok (.iastore, 1) := by decide +kernel
end
section
theorem dX7_takesLaw_33 : decode cX7_takesLaw 33 = .ok (.aload_n 0, 1) := by decide +kernel
theorem dX7_takesLaw_34 : decode cX7_takesLaw 34 = .ok (.bipush 44, 2) := by decide +kernel
theorem dX7_takesLaw_36 : decode cX7_takesLaw 36 = .ok (.invokevirtual 97, 3) := by decide +kernel
theorem dX7_takesLaw_39 : decode cX7_takesLaw 39 = .ok (.ifCond .eq 12, 3) := by decide +kernel
theorem dX7_takesLaw_42 : decode cX7_takesLaw 42 = .ok (.aload_n 0, 1) := by decide +kernel
theorem dX7_takesLaw_43 : decode cX7_takesLaw 43 = .ok (.iconst 0, 1) := by decide +kernel
theorem dX7_takesLaw_44 : decode cX7_takesLaw 44 = .ok (.iconst 3, 1) := by decide +kernel
theorem dX7_takesLaw_45 : decode cX7_takesLaw 45 = .ok (.invokevirtual 100, 3) := by decide +kernel
theorem dX7_takesLaw_48 : decode cX7_takesLaw 48 = .ok (.ifCond .ne 5, 3) := by decide +kernel
theorem dX7_takesLaw_51 : decode cX7_takesLaw 51 = .ok (.iconst 0, 1) := by decide +kernel
theorem dX7_takesLaw_52 : decode cX7_takesLaw 52 = .ok (.ireturn, 1) := by decide +kernel
theorem dX7_takesLaw_53 : decode cX7_takesLaw 53 = .ok (.aload_n 0, 1) := by decide +kernel
theorem dX7_takesLaw_54 : decode cX7_takesLaw 54 = .ok (.getfield 7, 3) := by decide +kernel
theorem dX7_takesLaw_57 : decode cX7_takesLaw 57 = .ok (.sipush 175, 3) := by decide +kernel
theorem dX7_takesLaw_60 : decode cX7_takesLaw 60 = .ok (.aload_n 0, 1) := by decide +kernel
theorem dX7_takesLaw_61 : decode cX7_takesLaw 61 = .ok (.getfield 90, 3) := by decide +kernel
theorem dX7_takesLaw_64 : decode cX7_takesLaw 64 = .ok (.iastore, 1) := by decide +kernel
theorem dX7_takesLaw_65 : decode cX7_takesLaw 65 = .ok (.aload_n 0, 1) := by decide +kernel
theorem dX7_takesLaw_66 : decode cX7_takesLaw 66 = .ok (.bipush 59, 2) := by decide +kernel
theorem dX7_takesLaw_68 : decode cX7_takesLaw 68 = .ok (.invokevirtual 97, 3) := by decide +kernel
theorem dX7_takesLaw_71 : decode cX7_takesLaw 71 = .ok (.ireturn, 1) := by decide +kernel
theorem dX7_takesColumn_0 : decode cX7_takesColumn 0 = .ok (.aload_n 0, 1) := by decide +kernel
theorem dX7_takesColumn_1 : decode cX7_takesColumn 1 = .ok (.invokevirtual 82, 3) := by decide +kernel
theorem dX7_takesColumn_4 : decode cX7_takesColumn 4 = .ok (.bipush 112, 2) := by decide +kernel
theorem dX7_takesColumn_6 : decode cX7_takesColumn 6 = .ok (.if_icmp .eq 13, 3) := by decide +kernel
theorem dX7_takesColumn_9 : decode cX7_takesColumn 9 = .ok (.aload_n 0, 1) := by decide +kernel
theorem dX7_takesColumn_10 : decode cX7_takesColumn 10 = .ok (.iconst 1, 1) := by decide +kernel
theorem dX7_takesColumn_11 : decode cX7_takesColumn 11 = .ok (.aload_n 0, 1) := by decide +kernel
theorem dX7_takesColumn_12 : decode cX7_takesColumn 12 = .ok (.getfield 73, 3) := by decide +kernel
theorem dX7_takesColumn_15 : decode cX7_takesColumn 15 = .ok (.invokevirtual 86, 3) := by decide +kernel
theorem dX7_takesColumn_18 : decode cX7_takesColumn 18 = .ok (.ireturn, 1) := by decide +kernel
theorem dX7_takesColumn_19 : decode cX7_takesColumn 19 = .ok (.aload_n 0, 1) := by decide +kernel
theorem dX7_takesColumn_20 : decode cX7_takesColumn 20 = .ok (.getfield 7, 3) := by decide +kernel
theorem dX7_takesColumn_23 : decode cX7_takesColumn 23 = .ok (.sipush 173, 3) := by decide +kernel
theorem dX7_takesColumn_26 : decode cX7_takesColumn 26 = .ok (.iaload, 1) := by decide +kernel
theorem dX7_takesColumn_27 : decode cX7_takesColumn 27 = .ok (.bipush 12, 2) := by decide +kernel
theorem dX7_takesColumn_29 : decode cX7_takesColumn 29 = .ok (.if_icmp .ne 13, 3) := by decide +kernel
theorem dX7_takesColumn_32 : decode cX7_takesColumn 32 = .ok (.aload_n 0, 1) := by decide +kernel
theorem dX7_takesColumn_33 : decode cX7_takesColumn 33 = .ok (.iconst 3, 1) := by decide +kernel
theorem dX7_takesColumn_34 : decode cX7_takesColumn 34 = .ok (.aload_n 0, 1) := by decide +kernel
theorem dX7_takesColumn_35 : decode cX7_takesColumn 35 = .ok (.getfield 73, 3) := by decide +kernel
theorem dX7_takesColumn_38 : decode cX7_takesColumn 38 = .ok (.invokevirtual 86, 3) := by decide +kernel
theorem dX7_takesColumn_41 : decode cX7_takesColumn 41 = .ok (.ireturn, 1) := by decide +kernel
theorem dX7_takesColumn_42 : decode cX7_takesColumn 42 = .ok (.aload_n 0, 1) := by decide +kernel
theorem dX7_takesColumn_43 : decode cX7_takesColumn 43 = .ok (.dup, 1) := by decide +kernel
theorem dX7_takesColumn_44 : decode cX7_takesColumn 44 = .ok (.getfield 73, 3) := by decide +kernel
theorem dX7_takesColumn_47 : decode cX7_takesColumn 47 = .ok (.iconst 1, 1) := by decide +kernel
theorem dX7_takesColumn_48 : decode cX7_takesColumn 48 = .ok (.iadd, 1) := by decide +kernel
theorem dX7_takesColumn_49 : decode cX7_takesColumn 49 = .ok (.putfield 73, 3) := by decide +kernel
theorem dX7_takesColumn_52 : decode cX7_takesColumn 52 = .ok (.aload_n 0, 1) := by decide +kernel
theorem dX7_takesColumn_53 : decode cX7_takesColumn 53 = .ok (.iconst 0, 1) := by decide +kernel
theorem dX7_takesColumn_54 : decode cX7_takesColumn 54 = .ok (.bipush 63, 2) := by decide +kernel
theorem dX7_takesColumn_56 : decode cX7_takesColumn 56 = .ok (.invokevirtual 100, 3) := by decide +kernel
theorem dX7_takesColumn_59 : decode cX7_takesColumn 59 = .ok (.ifCond .ne 5, 3) := by decide +kernel
theorem dX7_takesColumn_62 : decode cX7_takesColumn 62 = .ok (.iconst 0, 1) := by decide +kernel
theorem dX7_takesColumn_63 : decode cX7_takesColumn 63 = .ok (.ireturn, 1) := by decide +kernel
theorem dX7_takesColumn_64 : decode cX7_takesColumn 64 = .ok (.aload_n 0, 1) := by decide +kernel
theorem dX7_takesColumn_65 : decode cX7_takesColumn 65 = .ok (.getfield 7, 3) := by decide +kernel
theorem dX7_takesColumn_68 : decode cX7_takesColumn 68 = .ok (.sipush 202, 3) := by decide +kernel
theorem dX7_takesColumn_71 : decode cX7_takesColumn 71 = .ok (.aload_n 0, 1) := by decide +kernel
theorem dX7_takesColumn_72 : decode cX7_takesColumn 72 = .ok (.getfield 7, 3) := by decide +kernel
theorem dX7_takesColumn_75 : decode cX7_takesColumn 75 = .ok (.sipush 173, 3) := by decide +kernel
theorem dX7_takesColumn_78 : decode cX7_takesColumn 78 = .ok (.iaload, 1) := by decide +kernel
theorem dX7_takesColumn_79 : decode cX7_takesColumn 79 = .ok (.iadd, 1) := by decide +kernel
theorem dX7_takesColumn_80 : decode cX7_takesColumn 80 = .ok (.aload_n 0, 1) := by decide +kernel
theorem dX7_takesColumn_81 : decode cX7_takesColumn 81 = .ok (.getfield 90, 3) := by decide +kernel
theorem dX7_takesColumn_84 : decode cX7_takesColumn 84 = .ok (.iastore, 1) := by decide +kernel
theorem dX7_takesColumn_85 : decode cX7_takesColumn 85 = .ok (.aload_n 0, 1) := by decide +kernel
theorem dX7_takesColumn_86 : decode cX7_takesColumn 86 = .ok (.getfield 7, 3) := by decide +kernel
theorem dX7_takesColumn_89 : decode cX7_takesColumn 89 = .ok (.sipush 173, 3) := by decide +kernel
theorem dX7_takesColumn_92 : decode cX7_takesColumn 92 = .ok (.dup2, 1) := by decide +kernel
theorem dX7_takesColumn_93 : decode cX7_takesColumn 93 = .ok (.iaload, 1) := by decide +kernel
theorem dX7_takesColumn_94 : decode cX7_takesColumn 94 = .ok (.iconst 1, 1) := by decide +kernel
theorem dX7_takesColumn_95 : decode cX7_takesColumn 95 = .ok (.iadd, 1) := by decide +kernel
theorem dX7_takesColumn_96 : decode cX7_takesColumn 96 = .ok (.iastore, 1) := by decide +kernel
theorem dX7_takesColumn_97 : decode cX7_takesColumn 97 = .ok (.aload_n 0, 1) := by decide +kernel
theorem dX7_takesColumn_98 : decode cX7_takesColumn 98 = .ok (.bipush 59, 2) := by decide +kernel
theorem dX7_takesColumn_100 : decode cX7_takesColumn 100 = .ok (.invokevirtual 97, 3) := by decide +kernel
theorem dX7_takesColumn_103 : decode cX7_takesColumn 103 = .ok (.ireturn, 1) := by decide +kernel
theorem dX7_takesTooth_0 : decode cX7_takesTooth 0 = .ok (.aload_n 0, 1) := by decide +kernel
theorem dX7_takesTooth_1 : decode cX7_takesTooth 1 = .ok (.invokevirtual 82, 3) := by decide +kernel
theorem dX7_takesTooth_4 : decode cX7_takesTooth 4 = .ok (.invokestatic 103, 3) := by decide +kernel
theorem dX7_takesTooth_7 : decode cX7_takesTooth 7 = .ok (.istore_n 1, 1) := by decide +kernel
theorem dX7_takesTooth_8 : decode cX7_takesTooth 8 = .ok (.iload_n 1, 1) := by decide +kernel
theorem dX7_takesTooth_9 : decode cX7_takesTooth 9 = .ok (.ifCond .ne 13, 3) := by decide +kernel
theorem dX7_takesTooth_12 : decode cX7_takesTooth 12 = .ok (.aload_n 0, 1) := by decide +kernel
theorem dX7_takesTooth_13 : decode cX7_takesTooth 13 = .ok (.iconst 1, 1) := by decide +kernel
theorem dX7_takesTooth_14 : decode cX7_takesTooth 14 = .ok (.aload_n 0, 1) := by decide +kernel
theorem dX7_takesTooth_15 : decode cX7_takesTooth 15 = .ok (.getfield 73, 3) := by decide +kernel
theorem dX7_takesTooth_18 : decode cX7_takesTooth 18 = .ok (.invokevirtual 86, 3) := by decide +kernel
theorem dX7_takesTooth_21 : decode cX7_takesTooth 21 = .ok (.ireturn, 1) := by decide +kernel
theorem dX7_takesTooth_22 : decode cX7_takesTooth 22 = .ok (.aload_n 0, 1) := by decide +kernel
theorem dX7_takesTooth_23 : decode cX7_takesTooth 23 = .ok (.getfield 7, 3) := by decide +kernel
theorem dX7_takesTooth_26 : decode cX7_takesTooth 26 = .ok (.sipush 172, 3) := by decide +kernel
theorem dX7_takesTooth_29 : decode cX7_takesTooth 29 = .ok (.iaload, 1) := by decide +kernel
theorem dX7_takesTooth_30 : decode cX7_takesTooth 30 = .ok (.bipush 6, 2) := by decide +kernel
theorem dX7_takesTooth_32 : decode cX7_takesTooth 32 = .ok (.if_icmp .ne 13, 3) := by decide +kernel
theorem dX7_takesTooth_35 : decode cX7_takesTooth 35 = .ok (.aload_n 0, 1) := by decide +kernel
theorem dX7_takesTooth_36 : decode cX7_takesTooth 36 = .ok (.iconst 3, 1) := by decide +kernel
theorem dX7_takesTooth_37 : decode cX7_takesTooth 37 = .ok (.aload_n 0, 1) := by decide +kernel
theorem dX7_takesTooth_38 : decode cX7_takesTooth 38 = .ok (.getfield 73, 3) := by decide +kernel
theorem dX7_takesTooth_41 : decode cX7_takesTooth 41 = .ok (.invokevirtual 86, 3) := by decide +kernel
theorem dX7_takesTooth_44 : decode cX7_takesTooth 44 = .ok (.ireturn, 1) := by decide +kernel
theorem dX7_takesTooth_45 : decode cX7_takesTooth 45 = .ok (.aload_n 0, 1) := by decide +kernel
theorem dX7_takesTooth_46 : decode cX7_takesTooth 46 = .ok (.dup, 1) := by decide +kernel
theorem dX7_takesTooth_47 : decode cX7_takesTooth 47 = .ok (.getfield 73, 3) := by decide +kernel
theorem dX7_takesTooth_50 : decode cX7_takesTooth 50 = .ok (.iconst 1, 1) := by decide +kernel
theorem dX7_takesTooth_51 : decode cX7_takesTooth 51 = .ok (.iadd, 1) := by decide +kernel
theorem dX7_takesTooth_52 : decode cX7_takesTooth 52 = .ok (.putfield 73, 3) := by decide +kernel
theorem dX7_takesTooth_55 : decode cX7_takesTooth 55 = .ok (.aload_n 0, 1) := by decide +kernel
theorem dX7_takesTooth_56 : decode cX7_takesTooth 56 = .ok (.getfield 7, 3) := by decide +kernel
theorem dX7_takesTooth_59 : decode cX7_takesTooth 59 = .ok (.sipush 178, 3) := by decide +kernel
theorem dX7_takesTooth_62 : decode cX7_takesTooth 62 = .ok (.aload_n 0, 1) := by decide +kernel
theorem dX7_takesTooth_63 : decode cX7_takesTooth 63 = .ok (.getfield 7, 3) := by decide +kernel
theorem dX7_takesTooth_66 : decode cX7_takesTooth 66 = .ok (.sipush 172, 3) := by decide +kernel
theorem dX7_takesTooth_69 : decode cX7_takesTooth 69 = .ok (.iaload, 1) := by decide +kernel
theorem dX7_takesTooth_70 : decode cX7_takesTooth 70 = .ok (.iadd, 1) := by decide +kernel
theorem dX7_takesTooth_71 : decode cX7_takesTooth 71 = .ok (.iload_n 1, 1) := by decide +kernel
theorem dX7_takesTooth_72 : decode cX7_takesTooth 72 = .ok (.iastore, 1) := by decide +kernel
theorem dX7_takesTooth_73 : decode cX7_takesTooth 73 = .ok (.aload_n 0, 1) := by decide +kernel
theorem dX7_takesTooth_74 : decode cX7_takesTooth 74 = .ok (.iconst 1, 1) := by decide +kernel
theorem dX7_takesTooth_75 : decode cX7_takesTooth 75 = .ok (.bipush 9, 2) := by decide +kernel
theorem dX7_takesTooth_77 : decode cX7_takesTooth 77 = .ok (.invokevirtual 100, 3) := by decide +kernel
theorem dX7_takesTooth_80 : decode cX7_takesTooth 80 = .ok (.ifCond .ne 5, 3) := by decide +kernel
theorem dX7_takesTooth_83 : decode cX7_takesTooth 83 = .ok (.iconst 0, 1) := by decide +kernel
theorem dX7_takesTooth_84 : decode cX7_takesTooth 84 = .ok (.ireturn, 1) := by decide +kernel
theorem dX7_takesTooth_85 : decode cX7_takesTooth 85 = .ok (.aload_n 0, 1) := by decide +kernel
theorem dX7_takesTooth_86 : decode cX7_takesTooth 86 = .ok (.getfield 7, 3) := by decide +kernel
theorem dX7_takesTooth_89 : decode cX7_takesTooth 89 = .ok (.sipush 184, 3) := by decide +kernel
theorem dX7_takesTooth_92 : decode cX7_takesTooth 92 = .ok (.aload_n 0, 1) := by decide +kernel
theorem dX7_takesTooth_93 : decode cX7_takesTooth 93 = .ok (.getfield 7, 3) := by decide +kernel
theorem dX7_takesTooth_96 : decode cX7_takesTooth 96 = .ok (.sipush 172, 3) := by decide +kernel
theorem dX7_takesTooth_99 : decode cX7_takesTooth 99 = .ok (.iaload, 1) := by decide +kernel
theorem dX7_takesTooth_100 : decode cX7_takesTooth 100 = .ok (.iadd, 1) := by decide +kernel
theorem dX7_takesTooth_101 : decode cX7_takesTooth 101 = .ok (.aload_n 0, 1) := by decide +kernel
theorem dX7_takesTooth_102 : decode cX7_takesTooth 102 = .ok (.getfield 90, 3) := by decide +kernel
theorem dX7_takesTooth_105 : decode cX7_takesTooth 105 = .ok (.iastore, 1) := by decide +kernel
theorem dX7_takesTooth_106 : decode cX7_takesTooth 106 = .ok (.aload_n 0, 1) := by decide +kernel
theorem dX7_takesTooth_107 : decode cX7_takesTooth 107 = .ok (.getfield 7, 3) := by decide +kernel
theorem dX7_takesTooth_110 : decode cX7_takesTooth 110 = .ok (.sipush 172, 3) := by decide +kernel
theorem dX7_takesTooth_113 : decode cX7_takesTooth 113 = .ok (.dup2, 1) := by decide +kernel
theorem dX7_takesTooth_114 : decode cX7_takesTooth 114 = .ok (.iaload, 1) := by decide +kernel
theorem dX7_takesTooth_115 : decode cX7_takesTooth 115 = .ok (.iconst 1, 1) := by decide +kernel
theorem dX7_takesTooth_116 : decode cX7_takesTooth 116 = .ok (.iadd, 1) := by decide +kernel
theorem dX7_takesTooth_117 : decode cX7_takesTooth 117 = .ok (.iastore, 1) := by decide +kernel
theorem dX7_takesTooth_118 : decode cX7_takesTooth 118 = .ok (.aload_n 0, 1) := by decide +kernel
theorem dX7_takesTooth_119 : decode cX7_takesTooth 119 = .ok (.bipush 59, 2) := by decide +kernel
theorem dX7_takesTooth_121 : decode cX7_takesTooth 121 = .ok (.invokevirtual 97, 3) := by decide +kernel
theorem dX7_takesTooth_124 : decode cX7_takesTooth 124 = .ok (.ireturn, 1) := by decide +kernel
theorem dX7_takesAll_0 : decode cX7_takesAll 0 = .ok (.aload_n 0, 1) := by decide +kernel
theorem dX7_takesAll_1 : decode cX7_takesAll 1 = .ok (.invokevirtual 106, 3) := by decide +kernel
theorem dX7_takesAll_4 : decode cX7_takesAll 4 = .ok (.ifCond .ne 5, 3) := by decide +kernel
theorem dX7_takesAll_7 : decode cX7_takesAll 7 = .ok (.iconst 0, 1) := by decide +kernel
theorem dX7_takesAll_8 : decode cX7_takesAll 8 = .ok (.ireturn, 1) := by decide +kernel
theorem dX7_takesAll_9 : decode cX7_takesAll 9 = .ok (.aload_n 0, 1) := by decide +kernel
theorem dX7_takesAll_10 : decode cX7_takesAll 10 = .ok (.getfield 7, 3) := by decide +kernel
theorem dX7_takesAll_13 : decode cX7_takesAll 13 = .ok (.sipush 173, 3) := by decide +kernel
theorem dX7_takesAll_16 : decode cX7_takesAll 16 = .ok (.iaload, 1) := by decide +kernel
theorem dX7_takesAll_17 : decode cX7_takesAll 17 = .ok (.iconst 4, 1) := by decide +kernel
theorem dX7_takesAll_18 : decode cX7_takesAll 18 = .ok (.if_icmp .lt 12, 3) := by decide +kernel
theorem dX7_takesAll_21 : decode cX7_takesAll 21 = .ok (.aload_n 0, 1) := by decide +kernel
theorem dX7_takesAll_22 : decode cX7_takesAll 22 = .ok (.invokevirtual 82, 3) := by decide +kernel
theorem dX7_takesAll_25 : decode cX7_takesAll 25 = .ok (.bipush 112, 2) := by decide +kernel
theorem dX7_takesAll_27 : decode cX7_takesAll 27 = .ok (.if_icmp .ne 12, 3) := by decide +kernel
theorem dX7_takesAll_30 : decode cX7_takesAll 30 = .ok (.aload_n 0, 1) := by decide +kernel
theorem dX7_takesAll_31 : decode cX7_takesAll 31 = .ok (.invokevirtual 110, 3) := by decide +kernel
theorem dX7_takesAll_34 : decode cX7_takesAll 34 = .ok (.ifCond .ne (-25), 3) := by decide +kernel
theorem dX7_takesAll_37 : decode cX7_takesAll 37 = .ok (.iconst 0, 1) := by decide +kernel
theorem dX7_takesAll_38 : decode cX7_takesAll 38 = .ok (.ireturn, 1) := by decide +kernel
theorem dX7_takesAll_39 : decode cX7_takesAll 39 = .ok (.aload_n 0, 1) := by decide +kernel
theorem dX7_takesAll_40 : decode cX7_takesAll 40 = .ok (.getfield 7, 3) := by decide +kernel
theorem dX7_takesAll_43 : decode cX7_takesAll 43 = .ok (.sipush 172, 3) := by decide +kernel
theorem dX7_takesAll_46 : decode cX7_takesAll 46 = .ok (.iaload, 1) := by decide +kernel
theorem dX7_takesAll_47 : decode cX7_takesAll 47 = .ok (.ifCond .eq 14, 3) := by decide +kernel
theorem dX7_takesAll_50 : decode cX7_takesAll 50 = .ok (.aload_n 0, 1) := by decide +kernel
theorem dX7_takesAll_51 : decode cX7_takesAll 51 = .ok (.getfield 73, 3) := by decide +kernel
theorem dX7_takesAll_54 : decode cX7_takesAll 54 = .ok (.aload_n 0, 1) := by decide +kernel
theorem dX7_takesAll_55 : decode cX7_takesAll 55 = .ok (.getfield 69, 3) := by decide +kernel
theorem dX7_takesAll_58 : decode cX7_takesAll 58 = .ok (.if_icmp .ge 12, 3) := by decide +kernel
theorem dX7_takesAll_61 : decode cX7_takesAll 61 = .ok (.aload_n 0, 1) := by decide +kernel
theorem dX7_takesAll_62 : decode cX7_takesAll 62 = .ok (.invokevirtual 113, 3) := by decide +kernel
theorem dX7_takesAll_65 : decode cX7_takesAll 65 = .ok (.ifCond .ne (-26), 3) := by decide +kernel
theorem dX7_takesAll_68 : decode cX7_takesAll 68 = .ok (.iconst 0, 1) := by decide +kernel
theorem dX7_takesAll_69 : decode cX7_takesAll 69 = .ok (.ireturn, 1) := by decide +kernel
theorem dX7_takesAll_70 : decode cX7_takesAll 70 = .ok (.iconst 1, 1) := by decide +kernel
theorem dX7_takesAll_71 : decode cX7_takesAll 71 = .ok (.ireturn, 1) := by decide +kernel
theorem dX7_box_0 : decode cX7_box 0 = .ok (.iconst 0, 1) := by decide +kernel
theorem dX7_box_1 : decode cX7_box 1 = .ok (.istore_n 1, 1) := by decide +kernel
theorem dX7_box_2 : decode cX7_box 2 = .ok (.iload_n 1, 1) := by decide +kernel
theorem dX7_box_3 : decode cX7_box 3 = .ok (.bipush 43, 2) := by decide +kernel
theorem dX7_box_5 : decode cX7_box 5 = .ok (.if_icmp .ge 20, 3) := by decide +kernel
theorem dX7_box_8 : decode cX7_box 8 = .ok (.aload_n 0, 1) := by decide +kernel
theorem dX7_box_9 : decode cX7_box 9 = .ok (.getfield 7, 3) := by decide +kernel
theorem dX7_box_12 : decode cX7_box 12 = .ok (.sipush 172, 3) := by decide +kernel
theorem dX7_box_15 : decode cX7_box 15 = .ok (.iload_n 1, 1) := by decide +kernel
theorem dX7_box_16 : decode cX7_box 16 = .ok (.iadd, 1) := by decide +kernel
theorem dX7_box_17 : decode cX7_box 17 = .ok (.iconst 0, 1) := by decide +kernel
theorem dX7_box_18 : decode cX7_box 18 = .ok (.iastore, 1) := by decide +kernel
theorem dX7_box_19 : decode cX7_box 19 = .ok (.iinc 1 1, 3) := by decide +kernel
theorem dX7_box_22 : decode cX7_box 22 = .ok (.goto (-20), 3) := by decide +kernel
theorem dX7_box_25 : decode cX7_box 25 = .ok (.aload_n 0, 1) := by decide +kernel
theorem dX7_box_26 : decode cX7_box 26 = .ok (.iconst 0, 1) := by decide +kernel
theorem dX7_box_27 : decode cX7_box 27 = .ok (.putfield 73, 3) := by decide +kernel
theorem dX7_box_30 : decode cX7_box 30 = .ok (.aload_n 0, 1) := by decide +kernel
theorem dX7_box_31 : decode cX7_box 31 = .ok (.invokevirtual 116, 3) := by decide +kernel
theorem dX7_box_34 : decode cX7_box 34 = .ok (.istore_n 1, 1) := by decide +kernel
theorem dX7_box_35 : decode cX7_box 35 = .ok (.aload_n 0, 1) := by decide +kernel
theorem dX7_box_36 : decode cX7_box 36 = .ok (.iconst 0, 1) := by decide +kernel
theorem dX7_box_37 : decode cX7_box 37 = .ok (.putfield 69, 3) := by decide +kernel
theorem dX7_box_40 : decode cX7_box 40 = .ok (.iload_n 1, 1) := by decide +kernel
theorem dX7_box_41 : decode cX7_box 41 = .ok (.ifCond .ne 11, 3) := by decide +kernel
theorem dX7_box_44 : decode cX7_box 44 = .ok (.ldc 119, 2) := by decide +kernel
theorem dX7_box_46 : decode cX7_box 46 = .ok (.aload_n 0, 1) := by decide +kernel
theorem dX7_box_47 : decode cX7_box 47 = .ok (.getfield 79, 3) := by decide +kernel
theorem dX7_box_50 : decode cX7_box 50 = .ok (.isub, 1) := by decide +kernel
theorem dX7_box_51 : decode cX7_box 51 = .ok (.ireturn, 1) := by decide +kernel
theorem dX7_box_52 : decode cX7_box 52 = .ok (.aload_n 0, 1) := by decide +kernel
theorem dX7_box_53 : decode cX7_box 53 = .ok (.sipush 172, 3) := by decide +kernel
theorem dX7_box_56 : decode cX7_box 56 = .ok (.iconst 0, 1) := by decide +kernel
theorem dX7_box_57 : decode cX7_box 57 = .ok (.invokevirtual 120, 3) := by decide +kernel
theorem dX7_box_60 : decode cX7_box 60 = .ok (.aload_n 0, 1) := by decide +kernel
theorem dX7_box_61 : decode cX7_box 61 = .ok (.iconst 0, 1) := by decide +kernel
theorem dX7_box_62 : decode cX7_box 62 = .ok (.putfield 124, 3) := by decide +kernel
theorem dX7_box_65 : decode cX7_box 65 = .ok (.aload_n 0, 1) := by decide +kernel
theorem dX7_box_66 : decode cX7_box 66 = .ok (.getfield 7, 3) := by decide +kernel
theorem dX7_box_69 : decode cX7_box 69 = .ok (.iconst 0, 1) := by decide +kernel
theorem dX7_box_70 : decode cX7_box 70 = .ok (.iaload, 1) := by decide +kernel
theorem dX7_box_71 : decode cX7_box 71 = .ok (.ireturn, 1) := by decide +kernel
theorem dX7_fault_0 : decode cX7_fault 0 = .ok (.aload_n 0, 1) := by decide +kernel
theorem dX7_fault_1 : decode cX7_fault 1 = .ok (.getfield 76, 3) := by decide +kernel
theorem dX7_fault_4 : decode cX7_fault 4 = .ok (.ireturn, 1) := by decide +kernel
theorem dX7_fades_0 : decode cX7_fades 0 = .ok (.iconst 0, 1) := by decide +kernel
theorem dX7_fades_1 : decode cX7_fades 1 = .ok (.istore_n 2, 1) := by decide +kernel
theorem dX7_fades_2 : decode cX7_fades 2 = .ok (.iload_n 2, 1) := by decide +kernel
theorem dX7_fades_3 : decode cX7_fades 3 = .ok (.aload_n 0, 1) := by decide +kernel
theorem dX7_fades_4 : decode cX7_fades 4 = .ok (.getfield 7, 3) := by decide +kernel
theorem dX7_fades_7 : decode cX7_fades 7 = .ok (.iload_n 1, 1) := by decide +kernel
theorem dX7_fades_8 : decode cX7_fades 8 = .ok (.iconst 0, 1) := by decide +kernel
theorem dX7_fades_9 : decode cX7_fades 9 = .ok (.iadd, 1) := by decide +kernel
theorem dX7_fades_10 : decode cX7_fades 10 = .ok (.iaload, 1) := by decide +kernel
theorem dX7_fades_11 : decode cX7_fades 11 = .ok (.if_icmp .ge 95, 3) := by decide +kernel
theorem dX7_fades_14 : decode cX7_fades 14 = .ok (.aload_n 0, 1) := by decide +kernel
theorem dX7_fades_15 : decode cX7_fades 15 = .ok (.getfield 7, 3) := by decide +kernel
theorem dX7_fades_18 : decode cX7_fades 18 = .ok (.iload_n 1, 1) := by decide +kernel
theorem dX7_fades_19 : decode cX7_fades 19 = .ok (.bipush 18, 2) := by decide +kernel
theorem dX7_fades_21 : decode cX7_fades 21 = .ok (.iadd, 1) := by decide +kernel
theorem dX7_fades_22 : decode cX7_fades 22 = .ok (.iload_n 2, 1) := by decide +kernel
theorem dX7_fades_23 : decode cX7_fades 23 = .ok (.iadd, 1) := by decide +kernel
theorem dX7_fades_24 : decode cX7_fades 24 = .ok (.iaload, 1) := by decide +kernel
theorem dX7_fades_25 : decode cX7_fades 25 = .ok (.istore_n 3, 1) := by decide +kernel
theorem dX7_fades_26 : decode cX7_fades 26 = .ok (.aload_n 0, 1) := by decide +kernel
theorem dX7_fades_27 : decode cX7_fades 27 = .ok (.getfield 7, 3) := by decide +kernel
theorem dX7_fades_30 : decode cX7_fades 30 = .ok (.iload_n 1, 1) := by decide +kernel
theorem dX7_fades_31 : decode cX7_fades 31 = .ok (.bipush 6, 2) := by decide +kernel
theorem dX7_fades_33 : decode cX7_fades 33 = .ok (.iadd, 1) := by decide +kernel
theorem dX7_fades_34 : decode cX7_fades 34 = .ok (.iload_n 2, 1) := by decide +kernel
theorem dX7_fades_35 : decode cX7_fades 35 = .ok (.iadd, 1) := by decide +kernel
theorem dX7_fades_36 : decode cX7_fades 36 = .ok (.iaload, 1) := by decide +kernel
theorem dX7_fades_37 : decode cX7_fades 37 = .ok (.istore 4, 2) := by decide +kernel
theorem dX7_fades_39 : decode cX7_fades 39 = .ok (.iload 4, 2) := by decide +kernel
theorem dX7_fades_41 : decode cX7_fades 41 = .ok (.iconst 2, 1) := by decide +kernel
theorem dX7_fades_42 : decode cX7_fades 42 = .ok (.if_icmp .ne 7, 3) := by decide +kernel
theorem dX7_fades_45 : decode cX7_fades 45 = .ok (.iconst 0, 1) := by decide +kernel
theorem dX7_fades_46 : decode cX7_fades 46 = .ok (.goto 30, 3) := by decide +kernel
theorem dX7_fades_49 : decode cX7_fades 49 = .ok (.iload 4, 2) := by decide +kernel
theorem dX7_fades_51 : decode cX7_fades 51 = .ok (.iconst 4, 1) := by decide +kernel
theorem dX7_fades_52 : decode cX7_fades 52 = .ok (.if_icmp .ne 9, 3) := by decide +kernel
theorem dX7_fades_55 : decode cX7_fades 55 = .ok (.iload_n 3, 1) := by decide +kernel
theorem dX7_fades_56 : decode cX7_fades 56 = .ok (.iconst 1, 1) := by decide +kernel
theorem dX7_fades_57 : decode cX7_fades 57 = .ok (.isub, 1) := by decide +kernel
theorem dX7_fades_58 : decode cX7_fades 58 = .ok (.goto 18, 3) := by decide +kernel
theorem dX7_fades_61 : decode cX7_fades 61 = .ok (.iload 4, 2) := by decide +kernel
theorem dX7_fades_63 : decode cX7_fades 63 = .ok (.iconst 5, 1) := by decide +kernel
theorem dX7_fades_64 : decode cX7_fades 64 = .ok (.if_icmp .ne 9, 3) := by decide +kernel
theorem dX7_fades_67 : decode cX7_fades 67 = .ok (.iload_n 3, 1) := by decide +kernel
theorem dX7_fades_68 : decode cX7_fades 68 = .ok (.iconst 2, 1) := by decide +kernel
theorem dX7_fades_69 : decode cX7_fades 69 = .ok (.idiv, 1) := by decide +kernel
theorem dX7_fades_70 : decode cX7_fades 70 = .ok (.goto 6, 3) := by decide +kernel
theorem dX7_fades_73 : decode cX7_fades 73 = .ok (.iload_n 3, 1) := by decide +kernel
theorem dX7_fades_74 : decode cX7_fades 74 = .ok (.iconst 2, 1) := by decide +kernel
theorem dX7_fades_75 : decode cX7_fades 75 = .ok (.isub, 1) := by decide +kernel
theorem dX7_fades_76 : decode cX7_fades 76 = .ok (.istore 5, 2) := by decide +kernel
theorem dX7_fades_78 : decode cX7_fades 78 = .ok (.aload_n 0, 1) := by decide +kernel
theorem dX7_fades_79 : decode cX7_fades 79 = .ok (.getfield 7, 3) := by decide +kernel
theorem dX7_fades_82 : decode cX7_fades 82 = .ok (.iload_n 1, 1) := by decide +kernel
theorem dX7_fades_83 : decode cX7_fades 83 = .ok (.bipush 18, 2) := by decide +kernel
theorem dX7_fades_85 : decode cX7_fades 85 = .ok (.iadd, 1) := by decide +kernel
theorem dX7_fades_86 : decode cX7_fades 86 = .ok (.iload_n 2, 1) := by decide +kernel
theorem dX7_fades_87 : decode cX7_fades 87 = .ok (.iadd, 1) := by decide +kernel
theorem dX7_fades_88 : decode cX7_fades 88 = .ok (.iload 5, 2) := by decide +kernel
theorem dX7_fades_90 : decode cX7_fades 90 = .ok (.ifCond .ge 7, 3) := by decide +kernel
theorem dX7_fades_93 : decode cX7_fades 93 = .ok (.iconst 0, 1) := by decide +kernel
theorem dX7_fades_94 : decode cX7_fades 94 = .ok (.goto 5, 3) := by decide +kernel
theorem dX7_fades_97 : decode cX7_fades 97 = .ok (.iload 5, 2) := by decide +kernel
theorem dX7_fades_99 : decode cX7_fades 99 = .ok (.iastore, 1) := by decide +kernel
theorem dX7_fades_100 : decode cX7_fades 100 = .ok (.iinc 2 1, 3) := by decide +kernel
theorem dX7_fades_103 : decode cX7_fades 103 = .ok (.goto (-101), 3) := by decide +kernel
theorem dX7_fades_106 : decode cX7_fades 106 = .ok (.return_, 1) := by decide +kernel
theorem dX7_plucks_0 : decode cX7_plucks 0 = .ok (.aload_n 0, 1) := by decide +kernel
theorem dX7_plucks_1 : decode cX7_plucks 1 = .ok (.getfield 7, 3) := by decide +kernel
theorem dX7_plucks_4 : decode cX7_plucks 4 = .ok (.iload_n 1, 1) := by decide +kernel
theorem dX7_plucks_5 : decode cX7_plucks 5 = .ok (.iconst 2, 1) := by decide +kernel
theorem dX7_plucks_6 : decode cX7_plucks 6 = .ok (.iadd, 1) := by decide +kernel
theorem dX7_plucks_7 : decode cX7_plucks 7 = .ok (.dup2, 1) := by decide +kernel
theorem dX7_plucks_8 : decode cX7_plucks 8 = .ok (.iaload, 1) := by decide +kernel
theorem dX7_plucks_9 : decode cX7_plucks 9 = .ok (.iconst 1, 1) := by decide +kernel
theorem dX7_plucks_10 : decode cX7_plucks 10 = .ok (.isub, 1) := by decide +kernel
theorem dX7_plucks_11 : decode cX7_plucks 11 = .ok (.iastore, 1) := by decide +kernel
theorem dX7_plucks_12 : decode cX7_plucks 12 = .ok (.aload_n 0, 1) := by decide +kernel
theorem dX7_plucks_13 : decode cX7_plucks 13 = .ok (.getfield 7, 3) := by decide +kernel
theorem dX7_plucks_16 : decode cX7_plucks 16 = .ok (.iload_n 1, 1) := by decide +kernel
theorem dX7_plucks_17 : decode cX7_plucks 17 = .ok (.bipush 42, 2) := by decide +kernel
theorem dX7_plucks_19 : decode cX7_plucks 19 = .ok (.iadd, 1) := by decide +kernel
theorem dX7_plucks_20 : decode cX7_plucks 20 = .ok (.dup2, 1) := by decide +kernel
theorem dX7_plucks_21 : decode cX7_plucks 21 = .ok (.iaload, 1) := by decide +kernel
theorem dX7_plucks_22 : decode cX7_plucks 22 = .ok (.iconst 1, 1) := by decide +kernel
theorem dX7_plucks_23 : decode cX7_plucks 23 = .ok (.iadd, 1) := by decide +kernel
theorem dX7_plucks_24 : decode cX7_plucks 24 = .ok (.iastore, 1) := by decide +kernel
theorem dX7_plucks_25 : decode cX7_plucks 25 = .ok (.aload_n 0, 1) := by decide +kernel
theorem dX7_plucks_26 : decode cX7_plucks 26 = .ok (.getfield 7, 3) := by decide +kernel
theorem dX7_plucks_29 : decode cX7_plucks 29 = .ok (.iload_n 1, 1) := by decide +kernel
theorem dX7_plucks_30 : decode cX7_plucks 30 = .ok (.bipush 24, 2) := by decide +kernel
theorem dX7_plucks_32 : decode cX7_plucks 32 = .ok (.iadd, 1) := by decide +kernel
theorem dX7_plucks_33 : decode cX7_plucks 33 = .ok (.iload_n 2, 1) := by decide +kernel
theorem dX7_plucks_34 : decode cX7_plucks 34 = .ok (.iadd, 1) := by decide +kernel
theorem dX7_plucks_35 : decode cX7_plucks 35 = .ok (.dup2, 1) := by decide +kernel
theorem dX7_plucks_36 : decode cX7_plucks 36 = .ok (.iaload, 1) := by decide +kernel
theorem dX7_plucks_37 : decode cX7_plucks 37 = .ok (.aload_n 0, 1) := by decide +kernel
theorem dX7_plucks_38 : decode cX7_plucks 38 = .ok (.getfield 7, 3) := by decide +kernel
theorem dX7_plucks_41 : decode cX7_plucks 41 = .ok (.iload_n 1, 1) := by decide +kernel
theorem dX7_plucks_42 : decode cX7_plucks 42 = .ok (.bipush 24, 2) := by decide +kernel
theorem dX7_plucks_44 : decode cX7_plucks 44 = .ok (.iadd, 1) := by decide +kernel
theorem dX7_plucks_45 : decode cX7_plucks 45 = .ok (.iload_n 2, 1) := by decide +kernel
theorem dX7_plucks_46 : decode cX7_plucks 46 = .ok (.iadd, 1) := by decide +kernel
theorem dX7_plucks_47 : decode cX7_plucks 47 = .ok (.iaload, 1) := by decide +kernel
theorem dX7_plucks_48 : decode cX7_plucks 48 = .ok (.bipush 99, 2) := by decide +kernel
theorem dX7_plucks_50 : decode cX7_plucks 50 = .ok (.if_icmp .ge 7, 3) := by decide +kernel
theorem dX7_plucks_53 : decode cX7_plucks 53 = .ok (.iconst 1, 1) := by decide +kernel
theorem dX7_plucks_54 : decode cX7_plucks 54 = .ok (.goto 4, 3) := by decide +kernel
theorem dX7_plucks_57 : decode cX7_plucks 57 = .ok (.iconst 0, 1) := by decide +kernel
theorem dX7_plucks_58 : decode cX7_plucks 58 = .ok (.iadd, 1) := by decide +kernel
theorem dX7_plucks_59 : decode cX7_plucks 59 = .ok (.iastore, 1) := by decide +kernel
theorem dX7_plucks_60 : decode cX7_plucks 60 = .ok (.aload_n 0, 1) := by decide +kernel
theorem dX7_plucks_61 : decode cX7_plucks 61 = .ok (.getfield 7, 3) := by decide +kernel
theorem dX7_plucks_64 : decode cX7_plucks 64 = .ok (.iload_n 1, 1) := by decide +kernel
theorem dX7_plucks_65 : decode cX7_plucks 65 = .ok (.bipush 6, 2) := by decide +kernel
theorem dX7_plucks_67 : decode cX7_plucks 67 = .ok (.iadd, 1) := by decide +kernel
theorem dX7_plucks_68 : decode cX7_plucks 68 = .ok (.iload_n 2, 1) := by decide +kernel
theorem dX7_plucks_69 : decode cX7_plucks 69 = .ok (.iadd, 1) := by decide +kernel
theorem dX7_plucks_70 : decode cX7_plucks 70 = .ok (.iaload, 1) := by decide +kernel
theorem dX7_plucks_71 : decode cX7_plucks 71 = .ok (.istore_n 3, 1) := by decide +kernel
theorem dX7_plucks_72 : decode cX7_plucks 72 = .ok (.aload_n 0, 1) := by decide +kernel
theorem dX7_plucks_73 : decode cX7_plucks 73 = .ok (.getfield 7, 3) := by decide +kernel
theorem dX7_plucks_76 : decode cX7_plucks 76 = .ok (.iload_n 1, 1) := by decide +kernel
theorem dX7_plucks_77 : decode cX7_plucks 77 = .ok (.bipush 12, 2) := by decide +kernel
theorem dX7_plucks_79 : decode cX7_plucks 79 = .ok (.iadd, 1) := by decide +kernel
theorem dX7_plucks_80 : decode cX7_plucks 80 = .ok (.iload_n 2, 1) := by decide +kernel
theorem dX7_plucks_81 : decode cX7_plucks 81 = .ok (.iadd, 1) := by decide +kernel
theorem dX7_plucks_82 : decode cX7_plucks 82 = .ok (.iaload, 1) := by decide +kernel
theorem dX7_plucks_83 : decode cX7_plucks 83 = .ok (.istore 4, 2) := by decide +kernel
theorem dX7_plucks_85 : decode cX7_plucks 85 = .ok (.aload_n 0, 1) := by decide +kernel
theorem dX7_plucks_86 : decode cX7_plucks 86 = .ok (.getfield 7, 3) := by decide +kernel
theorem dX7_plucks_89 : decode cX7_plucks 89 = .ok (.iload_n 1, 1) := by decide +kernel
theorem dX7_plucks_90 : decode cX7_plucks 90 = .ok (.bipush 18, 2) := by decide +kernel
theorem dX7_plucks_92 : decode cX7_plucks 92 = .ok (.iadd, 1) := by decide +kernel
theorem dX7_plucks_93 : decode cX7_plucks 93 = .ok (.iload_n 2, 1) := by decide +kernel
theorem dX7_plucks_94 : decode cX7_plucks 94 = .ok (.iadd, 1) := by decide +kernel
theorem dX7_plucks_95 : decode cX7_plucks 95 = .ok (.iload_n 3, 1) := by decide +kernel
theorem dX7_plucks_96 : decode cX7_plucks 96 = .ok (.iconst 2, 1) := by decide +kernel
theorem dX7_plucks_97 : decode cX7_plucks 97 = .ok (.if_icmp .ne 8, 3) := by decide +kernel
theorem dX7_plucks_100 : decode cX7_plucks 100 = .ok (.iload 4, 2) := by decide +kernel
theorem dX7_plucks_102 : decode cX7_plucks 102 = .ok (.goto 29, 3) := by decide +kernel
theorem dX7_plucks_105 : decode cX7_plucks 105 = .ok (.iload_n 3, 1) := by decide +kernel
theorem dX7_plucks_106 : decode cX7_plucks 106 = .ok (.iconst 4, 1) := by decide +kernel
theorem dX7_plucks_107 : decode cX7_plucks 107 = .ok (.if_icmp .lt 20, 3) := by decide +kernel
theorem dX7_plucks_110 : decode cX7_plucks 110 = .ok (.iload 4, 2) := by decide +kernel
theorem dX7_plucks_112 : decode cX7_plucks 112 = .ok (.aload_n 0, 1) := by decide +kernel
theorem dX7_plucks_113 : decode cX7_plucks 113 = .ok (.getfield 7, 3) := by decide +kernel
theorem dX7_plucks_116 : decode cX7_plucks 116 = .ok (.iload_n 1, 1) := by decide +kernel
theorem dX7_plucks_117 : decode cX7_plucks 117 = .ok (.iconst 2, 1) := by decide +kernel
theorem dX7_plucks_118 : decode cX7_plucks 118 = .ok (.iadd, 1) := by decide +kernel
theorem dX7_plucks_119 : decode cX7_plucks 119 = .ok (.iaload, 1) := by decide +kernel
theorem dX7_plucks_120 : decode cX7_plucks 120 = .ok (.bipush 10, 2) := by decide +kernel
theorem dX7_plucks_122 : decode cX7_plucks 122 = .ok (.idiv, 1) := by decide +kernel
theorem dX7_plucks_123 : decode cX7_plucks 123 = .ok (.iadd, 1) := by decide +kernel
theorem dX7_plucks_124 : decode cX7_plucks 124 = .ok (.goto 7, 3) := by decide +kernel
theorem dX7_plucks_127 : decode cX7_plucks 127 = .ok (.iconst 2, 1) := by decide +kernel
theorem dX7_plucks_128 : decode cX7_plucks 128 = .ok (.iload 4, 2) := by decide +kernel
theorem dX7_plucks_130 : decode cX7_plucks 130 = .ok (.imul, 1) := by decide +kernel
theorem dX7_plucks_131 : decode cX7_plucks 131 = .ok (.iastore, 1) := by decide +kernel
theorem dX7_plucks_132 : decode cX7_plucks 132 = .ok (.iload_n 3, 1) := by decide +kernel
theorem dX7_plucks_133 : decode cX7_plucks 133 = .ok (.iconst 3, 1) := by decide +kernel
theorem dX7_plucks_134 : decode cX7_plucks 134 = .ok (.if_icmp .ne 67, 3) := by decide +kernel
theorem dX7_plucks_137 : decode cX7_plucks 137 = .ok (.iload_n 2, 1) := by decide +kernel
theorem dX7_plucks_138 : decode cX7_plucks 138 = .ok (.iconst 1, 1) := by decide +kernel
theorem dX7_plucks_139 : decode cX7_plucks 139 = .ok (.iadd, 1) := by decide +kernel
theorem dX7_plucks_140 : decode cX7_plucks 140 = .ok (.aload_n 0, 1) := by decide +kernel
theorem dX7_plucks_141 : decode cX7_plucks 141 = .ok (.getfield 7, 3) := by decide +kernel
theorem dX7_plucks_144 : decode cX7_plucks 144 = .ok (.iload_n 1, 1) := by decide +kernel
theorem dX7_plucks_145 : decode cX7_plucks 145 = .ok (.iconst 0, 1) := by decide +kernel
theorem dX7_plucks_146 : decode cX7_plucks 146 = .ok (.iadd, 1) := by decide +kernel
theorem dX7_plucks_147 : decode cX7_plucks 147 = .ok (.iaload, 1) := by decide +kernel
theorem dX7_plucks_148 : decode cX7_plucks 148 = .ok (.if_icmp .ge 53, 3) := by decide +kernel
theorem dX7_plucks_151 : decode cX7_plucks 151 = .ok (.aload_n 0, 1) := by decide +kernel
theorem dX7_plucks_152 : decode cX7_plucks 152 = .ok (.getfield 7, 3) := by decide +kernel
theorem dX7_plucks_155 : decode cX7_plucks 155 = .ok (.iload_n 1, 1) := by decide +kernel
theorem dX7_plucks_156 : decode cX7_plucks 156 = .ok (.iconst 5, 1) := by decide +kernel
theorem dX7_plucks_157 : decode cX7_plucks 157 = .ok (.iadd, 1) := by decide +kernel
theorem dX7_plucks_158 : decode cX7_plucks 158 = .ok (.iaload, 1) := by decide +kernel
theorem dX7_plucks_159 : decode cX7_plucks 159 = .ok (.iload_n 2, 1) := by decide +kernel
theorem dX7_plucks_160 : decode cX7_plucks 160 = .ok (.iconst 1, 1) := by decide +kernel
theorem dX7_plucks_161 : decode cX7_plucks 161 = .ok (.iadd, 1) := by decide +kernel
theorem dX7_plucks_162 : decode cX7_plucks 162 = .ok (.invokestatic 127, 3) := by decide +kernel
theorem dX7_plucks_165 : decode cX7_plucks 165 = .ok (.ifCond .ne 36, 3) := by decide +kernel
theorem dX7_plucks_168 : decode cX7_plucks 168 = .ok (.aload_n 0, 1) := by decide +kernel
theorem dX7_plucks_169 : decode cX7_plucks 169 = .ok (.getfield 7, 3) := by decide +kernel
theorem dX7_plucks_172 : decode cX7_plucks 172 = .ok (.iload_n 1, 1) := by decide +kernel
theorem dX7_plucks_173 : decode cX7_plucks 173 = .ok (.bipush 18, 2) := by decide +kernel
theorem dX7_plucks_175 : decode cX7_plucks 175 = .ok (.iadd, 1) := by decide +kernel
theorem dX7_plucks_176 : decode cX7_plucks 176 = .ok (.iload_n 2, 1) := by decide +kernel
theorem dX7_plucks_177 : decode cX7_plucks 177 = .ok (.iadd, 1) := by decide +kernel
theorem dX7_plucks_178 : decode cX7_plucks 178 = .ok (.iconst 1, 1) := by decide +kernel
theorem dX7_plucks_179 : decode cX7_plucks 179 = .ok (.iadd, 1) := by decide +kernel
theorem dX7_plucks_180 : decode cX7_plucks 180 = .ok (.iaload, 1) := by decide +kernel
theorem dX7_plucks_181 : decode cX7_plucks 181 = .ok (.iload 4, 2) := by decide +kernel
theorem dX7_plucks_183 : decode cX7_plucks 183 = .ok (.if_icmp .ge 18, 3) := by decide +kernel
theorem dX7_plucks_186 : decode cX7_plucks 186 = .ok (.aload_n 0, 1) := by decide +kernel
theorem dX7_plucks_187 : decode cX7_plucks 187 = .ok (.getfield 7, 3) := by decide +kernel
theorem dX7_plucks_190 : decode cX7_plucks 190 = .ok (.iload_n 1, 1) := by decide +kernel
theorem dX7_plucks_191 : decode cX7_plucks 191 = .ok (.bipush 18, 2) := by decide +kernel
theorem dX7_plucks_193 : decode cX7_plucks 193 = .ok (.iadd, 1) := by decide +kernel
theorem dX7_plucks_194 : decode cX7_plucks 194 = .ok (.iload_n 2, 1) := by decide +kernel
theorem dX7_plucks_195 : decode cX7_plucks 195 = .ok (.iadd, 1) := by decide +kernel
theorem dX7_plucks_196 : decode cX7_plucks 196 = .ok (.iconst 1, 1) := by decide +kernel
theorem dX7_plucks_197 : decode cX7_plucks 197 = .ok (.iadd, 1) := by decide +kernel
theorem dX7_plucks_198 : decode cX7_plucks 198 = .ok (.iload 4, 2) := by decide +kernel
theorem dX7_plucks_200 : decode cX7_plucks 200 = .ok (.iastore, 1) := by decide +kernel
theorem dX7_plucks_201 : decode cX7_plucks 201 = .ok (.aload_n 0, 1) := by decide +kernel
theorem dX7_plucks_202 : decode cX7_plucks 202 = .ok (.getfield 7, 3) := by decide +kernel
theorem dX7_plucks_205 : decode cX7_plucks 205 = .ok (.iload_n 1, 1) := by decide +kernel
theorem dX7_plucks_206 : decode cX7_plucks 206 = .ok (.iconst 5, 1) := by decide +kernel
theorem dX7_plucks_207 : decode cX7_plucks 207 = .ok (.iadd, 1) := by decide +kernel
theorem dX7_plucks_208 : decode cX7_plucks 208 = .ok (.dup2, 1) := by decide +kernel
theorem dX7_plucks_209 : decode cX7_plucks 209 = .ok (.iaload, 1) := by decide +kernel
theorem dX7_plucks_210 : decode cX7_plucks 210 = .ok (.iload_n 3, 1) := by decide +kernel
theorem dX7_plucks_211 : decode cX7_plucks 211 = .ok (.iconst 5, 1) := by decide +kernel
theorem dX7_plucks_212 : decode cX7_plucks 212 = .ok (.if_icmp .ne 24, 3) := by decide +kernel
theorem dX7_plucks_215 : decode cX7_plucks 215 = .ok (.aload_n 0, 1) := by decide +kernel
theorem dX7_plucks_216 : decode cX7_plucks 216 = .ok (.getfield 7, 3) := by decide +kernel
theorem dX7_plucks_219 : decode cX7_plucks 219 = .ok (.iload_n 1, 1) := by decide +kernel
theorem dX7_plucks_220 : decode cX7_plucks 220 = .ok (.bipush 24, 2) := by decide +kernel
theorem dX7_plucks_222 : decode cX7_plucks 222 = .ok (.iadd, 1) := by decide +kernel
theorem dX7_plucks_223 : decode cX7_plucks 223 = .ok (.iload_n 2, 1) := by decide +kernel
theorem dX7_plucks_224 : decode cX7_plucks 224 = .ok (.iadd, 1) := by decide +kernel
theorem dX7_plucks_225 : decode cX7_plucks 225 = .ok (.iaload, 1) := by decide +kernel
theorem dX7_plucks_226 : decode cX7_plucks 226 = .ok (.iconst 3, 1) := by decide +kernel
theorem dX7_plucks_227 : decode cX7_plucks 227 = .ok (.if_icmp .lt 9, 3) := by decide +kernel
theorem dX7_plucks_230 : decode cX7_plucks 230 = .ok (.iconst 1, 1) := by decide +kernel
theorem dX7_plucks_231 : decode cX7_plucks 231 = .ok (.iload_n 2, 1) := by decide +kernel
theorem dX7_plucks_232 : decode cX7_plucks 232 = .ok (.ishl, 1) := by decide +kernel
theorem dX7_plucks_233 : decode cX7_plucks 233 = .ok (.goto 4, 3) := by decide +kernel
theorem dX7_plucks_236 : decode cX7_plucks 236 = .ok (.iconst 0, 1) := by decide +kernel
theorem dX7_plucks_237 : decode cX7_plucks 237 = .ok (.ior, 1) := by decide +kernel
theorem dX7_plucks_238 : decode cX7_plucks 238 = .ok (.iastore, 1) := by decide +kernel
theorem dX7_plucks_239 : decode cX7_plucks 239 = .ok (.return_, 1) := by decide +kernel
theorem dX7_passes_0 : decode cX7_passes 0 = .ok (.aload_n 0, 1) := by decide +kernel
theorem dX7_passes_1 : decode cX7_passes 1 = .ok (.iload_n 1, 1) := by decide +kernel
theorem dX7_passes_2 : decode cX7_passes 2 = .ok (.invokevirtual 130, 3) := by decide +kernel
theorem dX7_passes_5 : decode cX7_passes 5 = .ok (.aload_n 0, 1) := by decide +kernel
theorem dX7_passes_6 : decode cX7_passes 6 = .ok (.getfield 7, 3) := by decide +kernel
theorem dX7_passes_9 : decode cX7_passes 9 = .ok (.iload_n 1, 1) := by decide +kernel
theorem dX7_passes_10 : decode cX7_passes 10 = .ok (.iconst 2, 1) := by decide +kernel
theorem dX7_passes_11 : decode cX7_passes 11 = .ok (.iadd, 1) := by decide +kernel
theorem dX7_passes_12 : decode cX7_passes 12 = .ok (.iaload, 1) := by decide +kernel
theorem dX7_passes_13 : decode cX7_passes 13 = .ok (.ifCond .le 119, 3) := by decide +kernel
theorem dX7_passes_16 : decode cX7_passes 16 = .ok (.aload_n 0, 1) := by decide +kernel
theorem dX7_passes_17 : decode cX7_passes 17 = .ok (.getfield 7, 3) := by decide +kernel
theorem dX7_passes_20 : decode cX7_passes 20 = .ok (.iload_n 1, 1) := by decide +kernel
theorem dX7_passes_21 : decode cX7_passes 21 = .ok (.iconst 3, 1) := by decide +kernel
theorem dX7_passes_22 : decode cX7_passes 22 = .ok (.iadd, 1) := by decide +kernel
theorem dX7_passes_23 : decode cX7_passes 23 = .ok (.aload_n 0, 1) := by decide +kernel
theorem dX7_passes_24 : decode cX7_passes 24 = .ok (.getfield 7, 3) := by decide +kernel
theorem dX7_passes_27 : decode cX7_passes 27 = .ok (.iload_n 1, 1) := by decide +kernel
theorem dX7_passes_28 : decode cX7_passes 28 = .ok (.iconst 3, 1) := by decide +kernel
theorem dX7_passes_29 : decode cX7_passes 29 = .ok (.iadd, 1) := by decide +kernel
theorem dX7_passes_30 : decode cX7_passes 30 = .ok (.iaload, 1) := by decide +kernel
theorem dX7_passes_31 : decode cX7_passes 31 = .ok (.iconst 1, 1) := by decide +kernel
theorem dX7_passes_32 : decode cX7_passes 32 = .ok (.iadd, 1) := by decide +kernel
theorem dX7_passes_33 : decode cX7_passes 33 = .ok (.aload_n 0, 1) := by decide +kernel
theorem dX7_passes_34 : decode cX7_passes 34 = .ok (.getfield 7, 3) := by decide +kernel
theorem dX7_passes_37 : decode cX7_passes 37 = .ok (.iload_n 1, 1) := by decide +kernel
theorem dX7_passes_38 : decode cX7_passes 38 = .ok (.iconst 1, 1) := by decide +kernel
theorem dX7_passes_39 : decode cX7_passes 39 = .ok (.iadd, 1) := by decide +kernel
theorem dX7_passes_40 : decode cX7_passes 40 = .ok (.iaload, 1) := by decide +kernel
theorem dX7_passes_41 : decode cX7_passes 41 = .ok (.irem, 1) := by decide +kernel
theorem dX7_passes_42 : decode cX7_passes 42 = .ok (.iastore, 1) := by decide +kernel
theorem dX7_passes_43 : decode cX7_passes 43 = .ok (.aload_n 0, 1) := by decide +kernel
theorem dX7_passes_44 : decode cX7_passes 44 = .ok (.getfield 7, 3) := by decide +kernel
theorem dX7_passes_47 : decode cX7_passes 47 = .ok (.iload_n 1, 1) := by decide +kernel
theorem dX7_passes_48 : decode cX7_passes 48 = .ok (.iconst 2, 1) := by decide +kernel
theorem dX7_passes_49 : decode cX7_passes 49 = .ok (.iadd, 1) := by decide +kernel
theorem dX7_passes_50 : decode cX7_passes 50 = .ok (.dup2, 1) := by decide +kernel
theorem dX7_passes_51 : decode cX7_passes 51 = .ok (.iaload, 1) := by decide +kernel
theorem dX7_passes_52 : decode cX7_passes 52 = .ok (.iconst 1, 1) := by decide +kernel
theorem dX7_passes_53 : decode cX7_passes 53 = .ok (.isub, 1) := by decide +kernel
theorem dX7_passes_54 : decode cX7_passes 54 = .ok (.iastore, 1) := by decide +kernel
theorem dX7_passes_55 : decode cX7_passes 55 = .ok (.iconst 0, 1) := by decide +kernel
theorem dX7_passes_56 : decode cX7_passes 56 = .ok (.istore_n 2, 1) := by decide +kernel
theorem dX7_passes_57 : decode cX7_passes 57 = .ok (.iload_n 2, 1) := by decide +kernel
theorem dX7_passes_58 : decode cX7_passes 58 = .ok (.aload_n 0, 1) := by decide +kernel
theorem dX7_passes_59 : decode cX7_passes 59 = .ok (.getfield 7, 3) := by decide +kernel
theorem dX7_passes_62 : decode cX7_passes 62 = .ok (.iload_n 1, 1) := by decide +kernel
theorem dX7_passes_63 : decode cX7_passes 63 = .ok (.iconst 0, 1) := by decide +kernel
theorem dX7_passes_64 : decode cX7_passes 64 = .ok (.iadd, 1) := by decide +kernel
theorem dX7_passes_65 : decode cX7_passes 65 = .ok (.iaload, 1) := by decide +kernel
theorem dX7_passes_66 : decode cX7_passes 66 = .ok (.if_icmp .ge 66, 3) := by decide +kernel
theorem dX7_passes_69 : decode cX7_passes 69 = .ok (.aload_n 0, 1) := by decide +kernel
theorem dX7_passes_70 : decode cX7_passes 70 = .ok (.getfield 7, 3) := by decide +kernel
theorem dX7_passes_73 : decode cX7_passes 73 = .ok (.iload_n 1, 1) := by decide +kernel
theorem dX7_passes_74 : decode cX7_passes 74 = .ok (.bipush 30, 2) := by decide +kernel
theorem dX7_passes_76 : decode cX7_passes 76 = .ok (.iadd, 1) := by decide +kernel
theorem dX7_passes_77 : decode cX7_passes 77 = .ok (.aload_n 0, 1) := by decide +kernel
theorem dX7_passes_78 : decode cX7_passes 78 = .ok (.getfield 7, 3) := by decide +kernel
theorem dX7_passes_81 : decode cX7_passes 81 = .ok (.iload_n 1, 1) := by decide +kernel
theorem dX7_passes_82 : decode cX7_passes 82 = .ok (.iconst 3, 1) := by decide +kernel
theorem dX7_passes_83 : decode cX7_passes 83 = .ok (.iadd, 1) := by decide +kernel
theorem dX7_passes_84 : decode cX7_passes 84 = .ok (.iaload, 1) := by decide +kernel
theorem dX7_passes_85 : decode cX7_passes 85 = .ok (.iadd, 1) := by decide +kernel
theorem dX7_passes_86 : decode cX7_passes 86 = .ok (.iaload, 1) := by decide +kernel
theorem dX7_passes_87 : decode cX7_passes 87 = .ok (.iload_n 2, 1) := by decide +kernel
theorem dX7_passes_88 : decode cX7_passes 88 = .ok (.invokestatic 127, 3) := by decide +kernel
theorem dX7_passes_91 : decode cX7_passes 91 = .ok (.ifCond .eq 35, 3) := by decide +kernel
theorem dX7_passes_94 : decode cX7_passes 94 = .ok (.aload_n 0, 1) := by decide +kernel
theorem dX7_passes_95 : decode cX7_passes 95 = .ok (.getfield 7, 3) := by decide +kernel
theorem dX7_passes_98 : decode cX7_passes 98 = .ok (.iload_n 1, 1) := by decide +kernel
theorem dX7_passes_99 : decode cX7_passes 99 = .ok (.iconst 5, 1) := by decide +kernel
theorem dX7_passes_100 : decode cX7_passes 100 = .ok (.iadd, 1) := by decide +kernel
theorem dX7_passes_101 : decode cX7_passes 101 = .ok (.iaload, 1) := by decide +kernel
theorem dX7_passes_102 : decode cX7_passes 102 = .ok (.iload_n 2, 1) := by decide +kernel
theorem dX7_passes_103 : decode cX7_passes 103 = .ok (.invokestatic 127, 3) := by decide +kernel
theorem dX7_passes_106 : decode cX7_passes 106 = .ok (.ifCond .ne 20, 3) := by decide +kernel
theorem dX7_passes_109 : decode cX7_passes 109 = .ok (.aload_n 0, 1) := by decide +kernel
theorem dX7_passes_110 : decode cX7_passes 110 = .ok (.getfield 7, 3) := by decide +kernel
theorem dX7_passes_113 : decode cX7_passes 113 = .ok (.iload_n 1, 1) := by decide +kernel
theorem dX7_passes_114 : decode cX7_passes 114 = .ok (.iconst 2, 1) := by decide +kernel
theorem dX7_passes_115 : decode cX7_passes 115 = .ok (.iadd, 1) := by decide +kernel
theorem dX7_passes_116 : decode cX7_passes 116 = .ok (.iaload, 1) := by decide +kernel
theorem dX7_passes_117 : decode cX7_passes 117 = .ok (.ifCond .le 9, 3) := by decide +kernel
theorem dX7_passes_120 : decode cX7_passes 120 = .ok (.aload_n 0, 1) := by decide +kernel
theorem dX7_passes_121 : decode cX7_passes 121 = .ok (.iload_n 1, 1) := by decide +kernel
theorem dX7_passes_122 : decode cX7_passes 122 = .ok (.iload_n 2, 1) := by decide +kernel
theorem dX7_passes_123 : decode cX7_passes 123 = .ok (.invokevirtual 134, 3) := by decide +kernel
theorem dX7_passes_126 : decode cX7_passes 126 = .ok (.iinc 2 1, 3) := by decide +kernel
theorem dX7_passes_129 : decode cX7_passes 129 = .ok (.goto (-72), 3) := by decide +kernel
theorem dX7_passes_132 : decode cX7_passes 132 = .ok (.aload_n 0, 1) := by decide +kernel
theorem dX7_passes_133 : decode cX7_passes 133 = .ok (.getfield 7, 3) := by decide +kernel
theorem dX7_passes_136 : decode cX7_passes 136 = .ok (.iload_n 1, 1) := by decide +kernel
theorem dX7_passes_137 : decode cX7_passes 137 = .ok (.iconst 4, 1) := by decide +kernel
theorem dX7_passes_138 : decode cX7_passes 138 = .ok (.iadd, 1) := by decide +kernel
theorem dX7_passes_139 : decode cX7_passes 139 = .ok (.dup2, 1) := by decide +kernel
theorem dX7_passes_140 : decode cX7_passes 140 = .ok (.iaload, 1) := by decide +kernel
theorem dX7_passes_141 : decode cX7_passes 141 = .ok (.iconst 1, 1) := by decide +kernel
theorem dX7_passes_142 : decode cX7_passes 142 = .ok (.iadd, 1) := by decide +kernel
theorem dX7_passes_143 : decode cX7_passes 143 = .ok (.iastore, 1) := by decide +kernel
theorem dX7_passes_144 : decode cX7_passes 144 = .ok (.return_, 1) := by decide +kernel
theorem dX7_loud_0 : decode cX7_loud 0 = .ok (.iconst 0, 1) := by decide +kernel
theorem dX7_loud_1 : decode cX7_loud 1 = .ok (.istore_n 2, 1) := by decide +kernel
theorem dX7_loud_2 : decode cX7_loud 2 = .ok (.iconst 0, 1) := by decide +kernel
theorem dX7_loud_3 : decode cX7_loud 3 = .ok (.istore_n 3, 1) := by decide +kernel
theorem dX7_loud_4 : decode cX7_loud 4 = .ok (.iload_n 3, 1) := by decide +kernel
theorem dX7_loud_5 : decode cX7_loud 5 = .ok (.aload_n 0, 1) := by decide +kernel
theorem dX7_loud_6 : decode cX7_loud 6 = .ok (.getfield 7, 3) := by decide +kernel
theorem dX7_loud_9 : decode cX7_loud 9 = .ok (.iload_n 1, 1) := by decide +kernel
theorem dX7_loud_10 : decode cX7_loud 10 = .ok (.iconst 0, 1) := by decide +kernel
theorem dX7_loud_11 : decode cX7_loud 11 = .ok (.iadd, 1) := by decide +kernel
theorem dX7_loud_12 : decode cX7_loud 12 = .ok (.iaload, 1) := by decide +kernel
theorem dX7_loud_13 : decode cX7_loud 13 = .ok (.if_icmp .ge 23, 3) := by decide +kernel
theorem dX7_loud_16 : decode cX7_loud 16 = .ok (.iload_n 2, 1) := by decide +kernel
theorem dX7_loud_17 : decode cX7_loud 17 = .ok (.aload_n 0, 1) := by decide +kernel
theorem dX7_loud_18 : decode cX7_loud 18 = .ok (.getfield 7, 3) := by decide +kernel
theorem dX7_loud_21 : decode cX7_loud 21 = .ok (.iload_n 1, 1) := by decide +kernel
theorem dX7_loud_22 : decode cX7_loud 22 = .ok (.bipush 18, 2) := by decide +kernel
theorem dX7_loud_24 : decode cX7_loud 24 = .ok (.iadd, 1) := by decide +kernel
theorem dX7_loud_25 : decode cX7_loud 25 = .ok (.iload_n 3, 1) := by decide +kernel
theorem dX7_loud_26 : decode cX7_loud 26 = .ok (.iadd, 1) := by decide +kernel
theorem dX7_loud_27 : decode cX7_loud 27 = .ok (.iaload, 1) := by decide +kernel
theorem dX7_loud_28 : decode cX7_loud 28 = .ok (.iadd, 1) := by decide +kernel
theorem dX7_loud_29 : decode cX7_loud 29 = .ok (.istore_n 2, 1) := by decide +kernel
theorem dX7_loud_30 : decode cX7_loud 30 = .ok (.iinc 3 1, 3) := by decide +kernel
theorem dX7_loud_33 : decode cX7_loud 33 = .ok (.goto (-29), 3) := by decide +kernel
theorem dX7_loud_36 : decode cX7_loud 36 = .ok (.iload_n 2, 1) := by decide +kernel
theorem dX7_loud_37 : decode cX7_loud 37 = .ok (.ireturn, 1) := by decide +kernel
theorem dX7_ringing_0 : decode cX7_ringing 0 = .ok (.iconst 0, 1) := by decide +kernel
theorem dX7_ringing_1 : decode cX7_ringing 1 = .ok (.istore_n 2, 1) := by decide +kernel
theorem dX7_ringing_2 : decode cX7_ringing 2 = .ok (.iconst 0, 1) := by decide +kernel
theorem dX7_ringing_3 : decode cX7_ringing 3 = .ok (.istore_n 3, 1) := by decide +kernel
theorem dX7_ringing_4 : decode cX7_ringing 4 = .ok (.iload_n 3, 1) := by decide +kernel
theorem dX7_ringing_5 : decode cX7_ringing 5 = .ok (.aload_n 0, 1) := by decide +kernel
theorem dX7_ringing_6 : decode cX7_ringing 6 = .ok (.getfield 7, 3) := by decide +kernel
theorem dX7_ringing_9 : decode cX7_ringing 9 = .ok (.iload_n 1, 1) := by decide +kernel
theorem dX7_ringing_10 : decode cX7_ringing 10 = .ok (.iconst 0, 1) := by decide +kernel
theorem dX7_ringing_11 : decode cX7_ringing 11 = .ok (.iadd, 1) := by decide +kernel
theorem dX7_ringing_12 : decode cX7_ringing 12 = .ok (.iaload, 1) := by decide +kernel
theorem dX7_ringing_13 : decode cX7_ringing 13 = .ok (.if_icmp .ge 33, 3) := by decide +kernel
theorem dX7_ringing_16 : decode cX7_ringing 16 = .ok (.iload_n 2, 1) := by decide +kernel
theorem dX7_ringing_17 : decode cX7_ringing 17 = .ok (.aload_n 0, 1) := by decide +kernel
theorem dX7_ringing_18 : decode cX7_ringing 18 = .ok (.getfield 7, 3) := by decide +kernel
theorem dX7_ringing_21 : decode cX7_ringing 21 = .ok (.iload_n 1, 1) := by decide +kernel
theorem dX7_ringing_22 : decode cX7_ringing 22 = .ok (.bipush 18, 2) := by decide +kernel
theorem dX7_ringing_24 : decode cX7_ringing 24 = .ok (.iadd, 1) := by decide +kernel
theorem dX7_ringing_25 : decode cX7_ringing 25 = .ok (.iload_n 3, 1) := by decide +kernel
theorem dX7_ringing_26 : decode cX7_ringing 26 = .ok (.iadd, 1) := by decide +kernel
theorem dX7_ringing_27 : decode cX7_ringing 27 = .ok (.iaload, 1) := by decide +kernel
theorem dX7_ringing_28 : decode cX7_ringing 28 = .ok (.ifCond .le 9, 3) := by decide +kernel
theorem dX7_ringing_31 : decode cX7_ringing 31 = .ok (.iconst 1, 1) := by decide +kernel
theorem dX7_ringing_32 : decode cX7_ringing 32 = .ok (.iload_n 3, 1) := by decide +kernel
theorem dX7_ringing_33 : decode cX7_ringing 33 = .ok (.ishl, 1) := by decide +kernel
theorem dX7_ringing_34 : decode cX7_ringing 34 = .ok (.goto 4, 3) := by decide +kernel
theorem dX7_ringing_37 : decode cX7_ringing 37 = .ok (.iconst 0, 1) := by decide +kernel
theorem dX7_ringing_38 : decode cX7_ringing 38 = .ok (.ior, 1) := by decide +kernel
theorem dX7_ringing_39 : decode cX7_ringing 39 = .ok (.istore_n 2, 1) := by decide +kernel
theorem dX7_ringing_40 : decode cX7_ringing 40 = .ok (.iinc 3 1, 3) := by decide +kernel
theorem dX7_ringing_43 : decode cX7_ringing 43 = .ok (.goto (-39), 3) := by decide +kernel
theorem dX7_ringing_46 : decode cX7_ringing 46 = .ok (.iload_n 2, 1) := by decide +kernel
theorem dX7_ringing_47 : decode cX7_ringing 47 = .ok (.ireturn, 1) := by decide +kernel
theorem dX7_mends_0 : decode cX7_mends 0 = .ok (.aload_n 0, 1) := by decide +kernel
theorem dX7_mends_1 : decode cX7_mends 1 = .ok (.getfield 7, 3) := by decide +kernel
theorem dX7_mends_4 : decode cX7_mends 4 = .ok (.iload_n 1, 1) := by decide +kernel
theorem dX7_mends_5 : decode cX7_mends 5 = .ok (.iconst 5, 1) := by decide +kernel
theorem dX7_mends_6 : decode cX7_mends 6 = .ok (.iadd, 1) := by decide +kernel
theorem dX7_mends_7 : decode cX7_mends 7 = .ok (.dup2, 1) := by decide +kernel
theorem dX7_mends_8 : decode cX7_mends 8 = .ok (.iaload, 1) := by decide +kernel
theorem dX7_mends_9 : decode cX7_mends 9 = .ok (.iconst 1, 1) := by decide +kernel
theorem dX7_mends_10 : decode cX7_mends 10 = .ok (.iload_n 2, 1) := by decide +kernel
theorem dX7_mends_11 : decode cX7_mends 11 = .ok (.ishl, 1) := by decide +kernel
theorem dX7_mends_12 : decode cX7_mends 12 = .ok (.iconst (-1), 1) := by decide +kernel
theorem dX7_mends_13 : decode cX7_mends 13 = .ok (.ixor, 1) := by decide +kernel
theorem dX7_mends_14 : decode cX7_mends 14 = .ok (.iand, 1) := by decide +kernel
theorem dX7_mends_15 : decode cX7_mends 15 = .ok (.iastore, 1) := by decide +kernel
theorem dX7_mends_16 : decode cX7_mends 16 = .ok (.aload_n 0, 1) := by decide +kernel
theorem dX7_mends_17 : decode cX7_mends 17 = .ok (.getfield 7, 3) := by decide +kernel
theorem dX7_mends_20 : decode cX7_mends 20 = .ok (.iload_n 1, 1) := by decide +kernel
theorem dX7_mends_21 : decode cX7_mends 21 = .ok (.bipush 24, 2) := by decide +kernel
theorem dX7_mends_23 : decode cX7_mends 23 = .ok (.iadd, 1) := by decide +kernel
theorem dX7_mends_24 : decode cX7_mends 24 = .ok (.iload_n 2, 1) := by decide +kernel
theorem dX7_mends_25 : decode cX7_mends 25 = .ok (.iadd, 1) := by decide +kernel
theorem dX7_mends_26 : decode cX7_mends 26 = .ok (.iconst 0, 1) := by decide +kernel
theorem dX7_mends_27 : decode cX7_mends 27 = .ok (.iastore, 1) := by decide +kernel
theorem dX7_mends_28 : decode cX7_mends 28 = .ok (.aload_n 0, 1) := by decide +kernel
theorem dX7_mends_29 : decode cX7_mends 29 = .ok (.getfield 7, 3) := by decide +kernel
theorem dX7_mends_32 : decode cX7_mends 32 = .ok (.iload_n 1, 1) := by decide +kernel
theorem dX7_mends_33 : decode cX7_mends 33 = .ok (.bipush 18, 2) := by decide +kernel
theorem dX7_mends_35 : decode cX7_mends 35 = .ok (.iadd, 1) := by decide +kernel
theorem dX7_mends_36 : decode cX7_mends 36 = .ok (.iload_n 2, 1) := by decide +kernel
theorem dX7_mends_37 : decode cX7_mends 37 = .ok (.iadd, 1) := by decide +kernel
theorem dX7_mends_38 : decode cX7_mends 38 = .ok (.iconst 0, 1) := by decide +kernel
theorem dX7_mends_39 : decode cX7_mends 39 = .ok (.iastore, 1) := by decide +kernel
theorem dX7_mends_40 : decode cX7_mends 40 = .ok (.return_, 1) := by decide +kernel
theorem dX7_minds_0 : decode cX7_minds 0 = .ok (.aload_n 0, 1) := by decide +kernel
theorem dX7_minds_1 : decode cX7_minds 1 = .ok (.getfield 124, 3) := by decide +kernel
theorem dX7_minds_4 : decode cX7_minds 4 = .ok (.bipush 24, 2) := by decide +kernel
theorem dX7_minds_6 : decode cX7_minds 6 = .ok (.if_icmp .ne 51, 3) := by decide +kernel
theorem dX7_minds_9 : decode cX7_minds 9 = .ok (.iconst 0, 1) := by decide +kernel
theorem dX7_minds_10 : decode cX7_minds 10 = .ok (.istore_n 1, 1) := by decide +kernel
theorem dX7_minds_11 : decode cX7_minds 11 = .ok (.iload_n 1, 1) := by decide +kernel
theorem dX7_minds_12 : decode cX7_minds 12 = .ok (.sipush 989, 3) := by decide +kernel
theorem dX7_minds_15 : decode cX7_minds 15 = .ok (.if_icmp .ge 32, 3) := by decide +kernel
theorem dX7_minds_18 : decode cX7_minds 18 = .ok (.aload_n 0, 1) := by decide +kernel
theorem dX7_minds_19 : decode cX7_minds 19 = .ok (.getfield 7, 3) := by decide +kernel
theorem dX7_minds_22 : decode cX7_minds 22 = .ok (.sipush 215, 3) := by decide +kernel
theorem dX7_minds_25 : decode cX7_minds 25 = .ok (.iload_n 1, 1) := by decide +kernel
theorem dX7_minds_26 : decode cX7_minds 26 = .ok (.iadd, 1) := by decide +kernel
theorem dX7_minds_27 : decode cX7_minds 27 = .ok (.aload_n 0, 1) := by decide +kernel
theorem dX7_minds_28 : decode cX7_minds 28 = .ok (.getfield 7, 3) := by decide +kernel
theorem dX7_minds_31 : decode cX7_minds 31 = .ok (.sipush 215, 3) := by decide +kernel
theorem dX7_minds_34 : decode cX7_minds 34 = .ok (.iload_n 1, 1) := by decide +kernel
theorem dX7_minds_35 : decode cX7_minds 35 = .ok (.iadd, 1) := by decide +kernel
theorem dX7_minds_36 : decode cX7_minds 36 = .ok (.bipush 43, 2) := by decide +kernel
theorem dX7_minds_38 : decode cX7_minds 38 = .ok (.iadd, 1) := by decide +kernel
theorem dX7_minds_39 : decode cX7_minds 39 = .ok (.iaload, 1) := by decide +kernel
theorem dX7_minds_40 : decode cX7_minds 40 = .ok (.iastore, 1) := by decide +kernel
theorem dX7_minds_41 : decode cX7_minds 41 = .ok (.iinc 1 1, 3) := by decide +kernel
theorem dX7_minds_44 : decode cX7_minds 44 = .ok (.goto (-33), 3) := by decide +kernel
theorem dX7_minds_47 : decode cX7_minds 47 = .ok (.aload_n 0, 1) := by decide +kernel
theorem dX7_minds_48 : decode cX7_minds 48 = .ok (.dup, 1) := by decide +kernel
theorem dX7_minds_49 : decode cX7_minds 49 = .ok (.getfield 124, 3) := by decide +kernel
theorem dX7_minds_52 : decode cX7_minds 52 = .ok (.iconst 1, 1) := by decide +kernel
theorem dX7_minds_53 : decode cX7_minds 53 = .ok (.isub, 1) := by decide +kernel
theorem dX7_minds_54 : decode cX7_minds 54 = .ok (.putfield 124, 3) := by decide +kernel
theorem dX7_minds_57 : decode cX7_minds 57 = .ok (.aload_n 0, 1) := by decide +kernel
theorem dX7_minds_58 : decode cX7_minds 58 = .ok (.iconst 0, 1) := by decide +kernel
theorem dX7_minds_59 : decode cX7_minds 59 = .ok (.sipush 215, 3) := by decide +kernel
theorem dX7_minds_62 : decode cX7_minds 62 = .ok (.bipush 43, 2) := by decide +kernel
theorem dX7_minds_64 : decode cX7_minds 64 = .ok (.aload_n 0, 1) := by decide +kernel
theorem dX7_minds_65 : decode cX7_minds 65 = .ok (.getfield 124, 3) := by decide +kernel
theorem dX7_minds_68 : decode cX7_minds 68 = .ok (.imul, 1) := by decide +kernel
theorem dX7_minds_69 : decode cX7_minds 69 = .ok (.iadd, 1) := by decide +kernel
theorem dX7_minds_70 : decode cX7_minds 70 = .ok (.invokevirtual 120, 3) := by decide +kernel
theorem dX7_minds_73 : decode cX7_minds 73 = .ok (.aload_n 0, 1) := by decide +kernel
theorem dX7_minds_74 : decode cX7_minds 74 = .ok (.dup, 1) := by decide +kernel
theorem dX7_minds_75 : decode cX7_minds 75 = .ok (.getfield 124, 3) := by decide +kernel
theorem dX7_minds_78 : decode cX7_minds 78 = .ok (.iconst 1, 1) := by decide +kernel
theorem dX7_minds_79 : decode cX7_minds 79 = .ok (.iadd, 1) := by decide +kernel
theorem dX7_minds_80 : decode cX7_minds 80 = .ok (.putfield 124, 3) := by decide +kernel
theorem dX7_minds_83 : decode cX7_minds 83 = .ok (.return_, 1) := by decide +kernel
theorem dX7_undo_0 : decode cX7_undo 0 = .ok (.aload_n 0, 1) := by decide +kernel
theorem dX7_undo_1 : decode cX7_undo 1 = .ok (.getfield 124, 3) := by decide +kernel
theorem dX7_undo_4 : decode cX7_undo 4 = .ok (.ifCond .ne 6, 3) := by decide +kernel
theorem dX7_undo_7 : decode cX7_undo 7 = .ok (.ldc 137, 2) := by decide +kernel
theorem dX7_undo_9 : decode cX7_undo 9 = .ok (.ireturn, 1) := by decide +kernel
theorem dX7_undo_10 : decode cX7_undo 10 = .ok (.aload_n 0, 1) := by decide +kernel
theorem dX7_undo_11 : decode cX7_undo 11 = .ok (.dup, 1) := by decide +kernel
theorem dX7_undo_12 : decode cX7_undo 12 = .ok (.getfield 124, 3) := by decide +kernel
theorem dX7_undo_15 : decode cX7_undo 15 = .ok (.iconst 1, 1) := by decide +kernel
theorem dX7_undo_16 : decode cX7_undo 16 = .ok (.isub, 1) := by decide +kernel
theorem dX7_undo_17 : decode cX7_undo 17 = .ok (.putfield 124, 3) := by decide +kernel
theorem dX7_undo_20 : decode cX7_undo 20 = .ok (.aload_n 0, 1) := by decide +kernel
theorem dX7_undo_21 : decode cX7_undo 21 = .ok (.sipush 215, 3) := by decide +kernel
theorem dX7_undo_24 : decode cX7_undo 24 = .ok (.bipush 43, 2) := by decide +kernel
theorem dX7_undo_26 : decode cX7_undo 26 = .ok (.aload_n 0, 1) := by decide +kernel
theorem dX7_undo_27 : decode cX7_undo 27 = .ok (.getfield 124, 3) := by decide +kernel
theorem dX7_undo_30 : decode cX7_undo 30 = .ok (.imul, 1) := by decide +kernel
theorem dX7_undo_31 : decode cX7_undo 31 = .ok (.iadd, 1) := by decide +kernel
theorem dX7_undo_32 : decode cX7_undo 32 = .ok (.iconst 0, 1) := by decide +kernel
theorem dX7_undo_33 : decode cX7_undo 33 = .ok (.invokevirtual 120, 3) := by decide +kernel
theorem dX7_undo_36 : decode cX7_undo 36 = .ok (.aload_n 0, 1) := by decide +kernel
theorem dX7_undo_37 : decode cX7_undo 37 = .ok (.getfield 124, 3) := by decide +kernel
theorem dX7_undo_40 : decode cX7_undo 40 = .ok (.ireturn, 1) := by decide +kernel
theorem dX7_ticks_0 : decode cX7_ticks 0 = .ok (.aload_n 0, 1) := by decide +kernel
theorem dX7_ticks_1 : decode cX7_ticks 1 = .ok (.invokevirtual 138, 3) := by decide +kernel
theorem dX7_ticks_4 : decode cX7_ticks 4 = .ok (.ifCond .ne 6, 3) := by decide +kernel
theorem dX7_ticks_7 : decode cX7_ticks 7 = .ok (.ldc 137, 2) := by decide +kernel
theorem dX7_ticks_9 : decode cX7_ticks 9 = .ok (.ireturn, 1) := by decide +kernel
theorem dX7_ticks_10 : decode cX7_ticks 10 = .ok (.iload_n 1, 1) := by decide +kernel
theorem dX7_ticks_11 : decode cX7_ticks 11 = .ok (.i2l, 1) := by decide +kernel
theorem dX7_ticks_12 : decode cX7_ticks 12 = .ok (.lconst 1, 1) := by decide +kernel
theorem dX7_ticks_13 : decode cX7_ticks 13 = .ok (.ldc2_w 141, 3) := by decide +kernel
theorem dX7_ticks_16 : decode cX7_ticks 16 = .ok (.invokestatic 41, 3) := by decide +kernel
theorem dX7_ticks_19 : decode cX7_ticks 19 = .ok (.ifCond .ne 6, 3) := by decide +kernel
theorem dX7_ticks_22 : decode cX7_ticks 22 = .ok (.ldc 58, 2) := by decide +kernel
theorem dX7_ticks_24 : decode cX7_ticks 24 = .ok (.ireturn, 1) := by decide +kernel
theorem dX7_ticks_25 : decode cX7_ticks 25 = .ok (.aload_n 0, 1) := by decide +kernel
theorem dX7_ticks_26 : decode cX7_ticks 26 = .ok (.getfield 7, 3) := by decide +kernel
theorem dX7_ticks_29 : decode cX7_ticks 29 = .ok (.iconst 4, 1) := by decide +kernel
theorem dX7_ticks_30 : decode cX7_ticks 30 = .ok (.iaload, 1) := by decide +kernel
theorem dX7_ticks_31 : decode cX7_ticks 31 = .ok (.iload_n 1, 1) := by decide +kernel
theorem dX7_ticks_32 : decode cX7_ticks 32 = .ok (.iadd, 1) := by decide +kernel
theorem dX7_ticks_33 : decode cX7_ticks 33 = .ok (.sipush 999, 3) := by decide +kernel
theorem dX7_ticks_36 : decode cX7_ticks 36 = .ok (.if_icmp .le 6, 3) := by decide +kernel
theorem dX7_ticks_39 : decode cX7_ticks 39 = .ok (.ldc 72, 2) := by decide +kernel
theorem dX7_ticks_41 : decode cX7_ticks 41 = .ok (.ireturn, 1) := by decide +kernel
theorem dX7_ticks_42 : decode cX7_ticks 42 = .ok (.iconst 0, 1) := by decide +kernel
theorem dX7_ticks_43 : decode cX7_ticks 43 = .ok (.istore_n 2, 1) := by decide +kernel
theorem dX7_ticks_44 : decode cX7_ticks 44 = .ok (.iload_n 2, 1) := by decide +kernel
theorem dX7_ticks_45 : decode cX7_ticks 45 = .ok (.iload_n 1, 1) := by decide +kernel
theorem dX7_ticks_46 : decode cX7_ticks 46 = .ok (.if_icmp .ge 18, 3) := by decide +kernel
theorem dX7_ticks_49 : decode cX7_ticks 49 = .ok (.aload_n 0, 1) := by decide +kernel
theorem dX7_ticks_50 : decode cX7_ticks 50 = .ok (.invokevirtual 143, 3) := by decide +kernel
theorem dX7_ticks_53 : decode cX7_ticks 53 = .ok (.aload_n 0, 1) := by decide +kernel
theorem dX7_ticks_54 : decode cX7_ticks 54 = .ok (.iconst 0, 1) := by decide +kernel
theorem dX7_ticks_55 : decode cX7_ticks 55 = .ok (.invokevirtual 146, 3) := by decide +kernel
theorem dX7_ticks_58 : decode cX7_ticks 58 = .ok (.iinc 2 1, 3) := by decide +kernel
theorem dX7_ticks_61 : decode cX7_ticks 61 = .ok (.goto (-17), 3) := by decide +kernel
theorem dX7_ticks_64 : decode cX7_ticks 64 = .ok (.aload_n 0, 1) := by decide +kernel
theorem dX7_ticks_65 : decode cX7_ticks 65 = .ok (.iconst 0, 1) := by decide +kernel
theorem dX7_ticks_66 : decode cX7_ticks 66 = .ok (.invokevirtual 149, 3) := by decide +kernel
theorem dX7_ticks_69 : decode cX7_ticks 69 = .ok (.ireturn, 1) := by decide +kernel
theorem dX7_wind_0 : decode cX7_wind 0 = .ok (.aload_n 0, 1) := by decide +kernel
theorem dX7_wind_1 : decode cX7_wind 1 = .ok (.invokevirtual 138, 3) := by decide +kernel
theorem dX7_wind_4 : decode cX7_wind 4 = .ok (.ifCond .ne 6, 3) := by decide +kernel
theorem dX7_wind_7 : decode cX7_wind 7 = .ok (.ldc 137, 2) := by decide +kernel
theorem dX7_wind_9 : decode cX7_wind 9 = .ok (.ireturn, 1) := by decide +kernel
theorem dX7_wind_10 : decode cX7_wind 10 = .ok (.iload_n 1, 1) := by decide +kernel
theorem dX7_wind_11 : decode cX7_wind 11 = .ok (.i2l, 1) := by decide +kernel
theorem dX7_wind_12 : decode cX7_wind 12 = .ok (.lconst 1, 1) := by decide +kernel
theorem dX7_wind_13 : decode cX7_wind 13 = .ok (.ldc2_w 152, 3) := by decide +kernel
theorem dX7_wind_16 : decode cX7_wind 16 = .ok (.invokestatic 41, 3) := by decide +kernel
theorem dX7_wind_19 : decode cX7_wind 19 = .ok (.ifCond .ne 6, 3) := by decide +kernel
theorem dX7_wind_22 : decode cX7_wind 22 = .ok (.ldc 58, 2) := by decide +kernel
theorem dX7_wind_24 : decode cX7_wind 24 = .ok (.ireturn, 1) := by decide +kernel
theorem dX7_wind_25 : decode cX7_wind 25 = .ok (.aload_n 0, 1) := by decide +kernel
theorem dX7_wind_26 : decode cX7_wind 26 = .ok (.invokevirtual 143, 3) := by decide +kernel
theorem dX7_wind_29 : decode cX7_wind 29 = .ok (.aload_n 0, 1) := by decide +kernel
theorem dX7_wind_30 : decode cX7_wind 30 = .ok (.getfield 7, 3) := by decide +kernel
theorem dX7_wind_33 : decode cX7_wind 33 = .ok (.iconst 2, 1) := by decide +kernel
theorem dX7_wind_34 : decode cX7_wind 34 = .ok (.aload_n 0, 1) := by decide +kernel
theorem dX7_wind_35 : decode cX7_wind 35 = .ok (.getfield 7, 3) := by decide +kernel
theorem dX7_wind_38 : decode cX7_wind 38 = .ok (.iconst 2, 1) := by decide +kernel
theorem dX7_wind_39 : decode cX7_wind 39 = .ok (.iaload, 1) := by decide +kernel
theorem dX7_wind_40 : decode cX7_wind 40 = .ok (.iload_n 1, 1) := by decide +kernel
theorem dX7_wind_41 : decode cX7_wind 41 = .ok (.iadd, 1) := by decide +kernel
theorem dX7_wind_42 : decode cX7_wind 42 = .ok (.bipush 99, 2) := by decide +kernel
theorem dX7_wind_44 : decode cX7_wind 44 = .ok (.if_icmp .le 8, 3) := by decide +kernel
theorem dX7_wind_47 : decode cX7_wind 47 = .ok (.bipush 99, 2) := by decide +kernel
theorem dX7_wind_49 : decode cX7_wind 49 = .ok (.goto 11, 3) := by decide +kernel
theorem dX7_wind_52 : decode cX7_wind 52 = .ok (.aload_n 0, 1) := by decide +kernel
theorem dX7_wind_53 : decode cX7_wind 53 = .ok (.getfield 7, 3) := by decide +kernel
theorem dX7_wind_56 : decode cX7_wind 56 = .ok (.iconst 2, 1) := by decide +kernel
theorem dX7_wind_57 : decode cX7_wind 57 = .ok (.iaload, 1) := by decide +kernel
theorem dX7_wind_58 : decode cX7_wind 58 = .ok (.iload_n 1, 1) := by decide +kernel
theorem dX7_wind_59 : decode cX7_wind 59 = .ok (.iadd, 1) := by decide +kernel
theorem dX7_wind_60 : decode cX7_wind 60 = .ok (.iastore, 1) := by decide +kernel
theorem dX7_wind_61 : decode cX7_wind 61 = .ok (.aload_n 0, 1) := by decide +kernel
theorem dX7_wind_62 : decode cX7_wind 62 = .ok (.getfield 7, 3) := by decide +kernel
theorem dX7_wind_65 : decode cX7_wind 65 = .ok (.iconst 2, 1) := by decide +kernel
theorem dX7_wind_66 : decode cX7_wind 66 = .ok (.iaload, 1) := by decide +kernel
theorem dX7_wind_67 : decode cX7_wind 67 = .ok (.ireturn, 1) := by decide +kernel
theorem dX7_pin_0 : decode cX7_pin 0 = .ok (.aload_n 0, 1) := by decide +kernel
theorem dX7_pin_1 : decode cX7_pin 1 = .ok (.iload_n 1, 1) := by decide +kernel
theorem dX7_pin_2 : decode cX7_pin 2 = .ok (.invokevirtual 154, 3) := by decide +kernel
theorem dX7_pin_5 : decode cX7_pin 5 = .ok (.ifCond .eq 11, 3) := by decide +kernel
theorem dX7_pin_8 : decode cX7_pin 8 = .ok (.aload_n 0, 1) := by decide +kernel
theorem dX7_pin_9 : decode cX7_pin 9 = .ok (.iload_n 2, 1) := by decide +kernel
theorem dX7_pin_10 : decode cX7_pin 10 = .ok (.invokevirtual 157, 3) := by decide +kernel
theorem dX7_pin_13 : decode cX7_pin 13 = .ok (.ifCond .ne 6, 3) := by decide +kernel
theorem dX7_pin_16 : decode cX7_pin 16 = .ok (.ldc 58, 2) := by decide +kernel
theorem dX7_pin_18 : decode cX7_pin 18 = .ok (.ireturn, 1) := by decide +kernel
theorem dX7_pin_19 : decode cX7_pin 19 = .ok (.aload_n 0, 1) := by decide +kernel
theorem dX7_pin_20 : decode cX7_pin 20 = .ok (.invokevirtual 143, 3) := by decide +kernel
theorem dX7_pin_23 : decode cX7_pin 23 = .ok (.aload_n 0, 1) := by decide +kernel
theorem dX7_pin_24 : decode cX7_pin 24 = .ok (.getfield 7, 3) := by decide +kernel
theorem dX7_pin_27 : decode cX7_pin 27 = .ok (.bipush 30, 2) := by decide +kernel
theorem dX7_pin_29 : decode cX7_pin 29 = .ok (.iload_n 1, 1) := by decide +kernel
theorem dX7_pin_30 : decode cX7_pin 30 = .ok (.iadd, 1) := by decide +kernel
theorem dX7_pin_31 : decode cX7_pin 31 = .ok (.dup2, 1) := by decide +kernel
theorem dX7_pin_32 : decode cX7_pin 32 = .ok (.iaload, 1) := by decide +kernel
theorem dX7_pin_33 : decode cX7_pin 33 = .ok (.iconst 1, 1) := by decide +kernel
theorem dX7_pin_34 : decode cX7_pin 34 = .ok (.iload_n 2, 1) := by decide +kernel
theorem dX7_pin_35 : decode cX7_pin 35 = .ok (.ishl, 1) := by decide +kernel
theorem dX7_pin_36 : decode cX7_pin 36 = .ok (.ixor, 1) := by decide +kernel
theorem dX7_pin_37 : decode cX7_pin 37 = .ok (.iastore, 1) := by decide +kernel
theorem dX7_pin_38 : decode cX7_pin 38 = .ok (.aload_n 0, 1) := by decide +kernel
theorem dX7_pin_39 : decode cX7_pin 39 = .ok (.getfield 7, 3) := by decide +kernel
theorem dX7_pin_42 : decode cX7_pin 42 = .ok (.bipush 30, 2) := by decide +kernel
theorem dX7_pin_44 : decode cX7_pin 44 = .ok (.iload_n 1, 1) := by decide +kernel
theorem dX7_pin_45 : decode cX7_pin 45 = .ok (.iadd, 1) := by decide +kernel
theorem dX7_pin_46 : decode cX7_pin 46 = .ok (.iaload, 1) := by decide +kernel
theorem dX7_pin_47 : decode cX7_pin 47 = .ok (.ireturn, 1) := by decide +kernel
theorem dX7_drum_0 : decode cX7_drum 0 = .ok (.aload_n 0, 1) := by decide +kernel
theorem dX7_drum_1 : decode cX7_drum 1 = .ok (.iload_n 1, 1) := by decide +kernel
theorem dX7_drum_2 : decode cX7_drum 2 = .ok (.invokevirtual 154, 3) := by decide +kernel
theorem dX7_drum_5 : decode cX7_drum 5 = .ok (.ifCond .ne 6, 3) := by decide +kernel
theorem dX7_drum_8 : decode cX7_drum 8 = .ok (.ldc 58, 2) := by decide +kernel
theorem dX7_drum_10 : decode cX7_drum 10 = .ok (.ireturn, 1) := by decide +kernel
theorem dX7_drum_11 : decode cX7_drum 11 = .ok (.aload_n 0, 1) := by decide +kernel
theorem dX7_drum_12 : decode cX7_drum 12 = .ok (.getfield 7, 3) := by decide +kernel
theorem dX7_drum_15 : decode cX7_drum 15 = .ok (.iconst 3, 1) := by decide +kernel
theorem dX7_drum_16 : decode cX7_drum 16 = .ok (.iaload, 1) := by decide +kernel
theorem dX7_drum_17 : decode cX7_drum 17 = .ok (.istore_n 2, 1) := by decide +kernel
theorem dX7_drum_18 : decode cX7_drum 18 = .ok (.iload_n 2, 1) := by decide +kernel
theorem dX7_drum_19 : decode cX7_drum 19 = .ok (.iload_n 1, 1) := by decide +kernel
theorem dX7_drum_20 : decode cX7_drum 20 = .ok (.if_icmp .ne 6, 3) := by decide +kernel
theorem dX7_drum_23 : decode cX7_drum 23 = .ok (.ldc 137, 2) := by decide +kernel
theorem dX7_drum_25 : decode cX7_drum 25 = .ok (.ireturn, 1) := by decide +kernel
theorem dX7_drum_26 : decode cX7_drum 26 = .ok (.aload_n 0, 1) := by decide +kernel
theorem dX7_drum_27 : decode cX7_drum 27 = .ok (.invokevirtual 143, 3) := by decide +kernel
theorem dX7_drum_30 : decode cX7_drum 30 = .ok (.aload_n 0, 1) := by decide +kernel
theorem dX7_drum_31 : decode cX7_drum 31 = .ok (.getfield 7, 3) := by decide +kernel
theorem dX7_drum_34 : decode cX7_drum 34 = .ok (.iconst 3, 1) := by decide +kernel
theorem dX7_drum_35 : decode cX7_drum 35 = .ok (.iload_n 1, 1) := by decide +kernel
theorem dX7_drum_36 : decode cX7_drum 36 = .ok (.iastore, 1) := by decide +kernel
theorem dX7_drum_37 : decode cX7_drum 37 = .ok (.iload_n 2, 1) := by decide +kernel
theorem dX7_drum_38 : decode cX7_drum 38 = .ok (.ireturn, 1) := by decide +kernel
theorem dX7_mend_0 : decode cX7_mend 0 = .ok (.aload_n 0, 1) := by decide +kernel
theorem dX7_mend_1 : decode cX7_mend 1 = .ok (.iload_n 1, 1) := by decide +kernel
theorem dX7_mend_2 : decode cX7_mend 2 = .ok (.invokevirtual 157, 3) := by decide +kernel
theorem dX7_mend_5 : decode cX7_mend 5 = .ok (.ifCond .ne 6, 3) := by decide +kernel
theorem dX7_mend_8 : decode cX7_mend 8 = .ok (.ldc 58, 2) := by decide +kernel
theorem dX7_mend_10 : decode cX7_mend 10 = .ok (.ireturn, 1) := by decide +kernel
theorem dX7_mend_11 : decode cX7_mend 11 = .ok (.aload_n 0, 1) := by decide +kernel
theorem dX7_mend_12 : decode cX7_mend 12 = .ok (.getfield 7, 3) := by decide +kernel
theorem dX7_mend_15 : decode cX7_mend 15 = .ok (.iconst 5, 1) := by decide +kernel
theorem dX7_mend_16 : decode cX7_mend 16 = .ok (.iaload, 1) := by decide +kernel
theorem dX7_mend_17 : decode cX7_mend 17 = .ok (.iload_n 1, 1) := by decide +kernel
theorem dX7_mend_18 : decode cX7_mend 18 = .ok (.invokestatic 127, 3) := by decide +kernel
theorem dX7_mend_21 : decode cX7_mend 21 = .ok (.ifCond .ne 6, 3) := by decide +kernel
theorem dX7_mend_24 : decode cX7_mend 24 = .ok (.ldc 137, 2) := by decide +kernel
theorem dX7_mend_26 : decode cX7_mend 26 = .ok (.ireturn, 1) := by decide +kernel
theorem dX7_mend_27 : decode cX7_mend 27 = .ok (.aload_n 0, 1) := by decide +kernel
theorem dX7_mend_28 : decode cX7_mend 28 = .ok (.invokevirtual 143, 3) := by decide +kernel
theorem dX7_mend_31 : decode cX7_mend 31 = .ok (.aload_n 0, 1) := by decide +kernel
theorem dX7_mend_32 : decode cX7_mend 32 = .ok (.getfield 7, 3) := by decide +kernel
theorem dX7_mend_35 : decode cX7_mend 35 = .ok (.bipush 24, 2) := by decide +kernel
theorem dX7_mend_37 : decode cX7_mend 37 = .ok (.iload_n 1, 1) := by decide +kernel
theorem dX7_mend_38 : decode cX7_mend 38 = .ok (.iadd, 1) := by decide +kernel
theorem dX7_mend_39 : decode cX7_mend 39 = .ok (.iaload, 1) := by decide +kernel
theorem dX7_mend_40 : decode cX7_mend 40 = .ok (.istore_n 2, 1) := by decide +kernel
theorem dX7_mend_41 : decode cX7_mend 41 = .ok (.aload_n 0, 1) := by decide +kernel
theorem dX7_mend_42 : decode cX7_mend 42 = .ok (.iconst 0, 1) := by decide +kernel
theorem dX7_mend_43 : decode cX7_mend 43 = .ok (.iload_n 1, 1) := by decide +kernel
theorem dX7_mend_44 : decode cX7_mend 44 = .ok (.invokevirtual 160, 3) := by decide +kernel
theorem dX7_mend_47 : decode cX7_mend 47 = .ok (.iload_n 2, 1) := by decide +kernel
theorem dX7_mend_48 : decode cX7_mend 48 = .ok (.ireturn, 1) := by decide +kernel
theorem dX7_columnsOf_0 : decode cX7_columnsOf 0 = .ok (.iconst 0, 1) := by decide +kernel
theorem dX7_columnsOf_1 : decode cX7_columnsOf 1 = .ok (.istore_n 3, 1) := by decide +kernel
theorem dX7_columnsOf_2 : decode cX7_columnsOf 2 = .ok (.iconst 0, 1) := by decide +kernel
theorem dX7_columnsOf_3 : decode cX7_columnsOf 3 = .ok (.istore 4, 2) := by decide +kernel
theorem dX7_columnsOf_5 : decode cX7_columnsOf 5 = .ok (.iload 4, 2) := by decide +kernel
theorem dX7_columnsOf_7 : decode cX7_columnsOf 7 = .ok (.aload_n 0, 1) := by decide +kernel
theorem dX7_columnsOf_8 : decode cX7_columnsOf 8 = .ok (.getfield 7, 3) := by decide +kernel
theorem dX7_columnsOf_11 : decode cX7_columnsOf 11 = .ok (.iload_n 1, 1) := by decide +kernel
theorem dX7_columnsOf_12 : decode cX7_columnsOf 12 = .ok (.iconst 1, 1) := by decide +kernel
theorem dX7_columnsOf_13 : decode cX7_columnsOf 13 = .ok (.iadd, 1) := by decide +kernel
theorem dX7_columnsOf_14 : decode cX7_columnsOf 14 = .ok (.iaload, 1) := by decide +kernel
theorem dX7_columnsOf_15 : decode cX7_columnsOf 15 = .ok (.if_icmp .ge 39, 3) := by decide +kernel
theorem dX7_columnsOf_18 : decode cX7_columnsOf 18 = .ok (.iload_n 3, 1) := by decide +kernel
theorem dX7_columnsOf_19 : decode cX7_columnsOf 19 = .ok (.aload_n 0, 1) := by decide +kernel
theorem dX7_columnsOf_20 : decode cX7_columnsOf 20 = .ok (.getfield 7, 3) := by decide +kernel
theorem dX7_columnsOf_23 : decode cX7_columnsOf 23 = .ok (.iload_n 1, 1) := by decide +kernel
theorem dX7_columnsOf_24 : decode cX7_columnsOf 24 = .ok (.bipush 30, 2) := by decide +kernel
theorem dX7_columnsOf_26 : decode cX7_columnsOf 26 = .ok (.iadd, 1) := by decide +kernel
theorem dX7_columnsOf_27 : decode cX7_columnsOf 27 = .ok (.iload 4, 2) := by decide +kernel
theorem dX7_columnsOf_29 : decode cX7_columnsOf 29 = .ok (.iadd, 1) := by decide +kernel
theorem dX7_columnsOf_30 : decode cX7_columnsOf 30 = .ok (.iaload, 1) := by decide +kernel
theorem dX7_columnsOf_31 : decode cX7_columnsOf 31 = .ok (.iload_n 2, 1) := by decide +kernel
theorem dX7_columnsOf_32 : decode cX7_columnsOf 32 = .ok (.invokestatic 127, 3) := by decide +kernel
theorem dX7_columnsOf_35 : decode cX7_columnsOf 35 = .ok (.ifCond .eq 10, 3) := by decide +kernel
theorem dX7_columnsOf_38 : decode cX7_columnsOf 38 = .ok (.iconst 1, 1) := by decide +kernel
theorem dX7_columnsOf_39 : decode cX7_columnsOf 39 = .ok (.iload 4, 2) := by decide +kernel
theorem dX7_columnsOf_41 : decode cX7_columnsOf 41 = .ok (.ishl, 1) := by decide +kernel
theorem dX7_columnsOf_42 : decode cX7_columnsOf 42 = .ok (.goto 4, 3) := by decide +kernel
theorem dX7_columnsOf_45 : decode cX7_columnsOf 45 = .ok (.iconst 0, 1) := by decide +kernel
theorem dX7_columnsOf_46 : decode cX7_columnsOf 46 = .ok (.ior, 1) := by decide +kernel
theorem dX7_columnsOf_47 : decode cX7_columnsOf 47 = .ok (.istore_n 3, 1) := by decide +kernel
theorem dX7_columnsOf_48 : decode cX7_columnsOf 48 = .ok (.iinc 4 1, 3) := by decide +kernel
theorem dX7_columnsOf_51 : decode cX7_columnsOf 51 = .ok (.goto (-46), 3) := by decide +kernel
theorem dX7_columnsOf_54 : decode cX7_columnsOf 54 = .ok (.iload_n 3, 1) := by decide +kernel
theorem dX7_columnsOf_55 : decode cX7_columnsOf 55 = .ok (.ireturn, 1) := by decide +kernel
theorem dX7_tooth_0 : decode cX7_tooth 0 = .ok (.aload_n 0, 1) := by decide +kernel
theorem dX7_tooth_1 : decode cX7_tooth 1 = .ok (.iload_n 1, 1) := by decide +kernel
theorem dX7_tooth_2 : decode cX7_tooth 2 = .ok (.invokevirtual 157, 3) := by decide +kernel
theorem dX7_tooth_5 : decode cX7_tooth 5 = .ok (.ifCond .ne 6, 3) := by decide +kernel
theorem dX7_tooth_8 : decode cX7_tooth 8 = .ok (.ldc 58, 2) := by decide +kernel
theorem dX7_tooth_10 : decode cX7_tooth 10 = .ok (.ireturn, 1) := by decide +kernel
theorem dX7_tooth_11 : decode cX7_tooth 11 = .ok (.iload_n 2, 1) := by decide +kernel
theorem dX7_tooth_12 : decode cX7_tooth 12 = .ok (.tableswitch 84 0 4 #[36, 46, 56, 66, 77], 36) := by decide +kernel
theorem dX7_tooth_48 : decode cX7_tooth 48 = .ok (.aload_n 0, 1) := by decide +kernel
theorem dX7_tooth_49 : decode cX7_tooth 49 = .ok (.getfield 7, 3) := by decide +kernel
theorem dX7_tooth_52 : decode cX7_tooth 52 = .ok (.bipush 12, 2) := by decide +kernel
theorem dX7_tooth_54 : decode cX7_tooth 54 = .ok (.iload_n 1, 1) := by decide +kernel
theorem dX7_tooth_55 : decode cX7_tooth 55 = .ok (.iadd, 1) := by decide +kernel
theorem dX7_tooth_56 : decode cX7_tooth 56 = .ok (.iaload, 1) := by decide +kernel
theorem dX7_tooth_57 : decode cX7_tooth 57 = .ok (.ireturn, 1) := by decide +kernel
theorem dX7_tooth_58 : decode cX7_tooth 58 = .ok (.aload_n 0, 1) := by decide +kernel
theorem dX7_tooth_59 : decode cX7_tooth 59 = .ok (.getfield 7, 3) := by decide +kernel
theorem dX7_tooth_62 : decode cX7_tooth 62 = .ok (.bipush 18, 2) := by decide +kernel
theorem dX7_tooth_64 : decode cX7_tooth 64 = .ok (.iload_n 1, 1) := by decide +kernel
theorem dX7_tooth_65 : decode cX7_tooth 65 = .ok (.iadd, 1) := by decide +kernel
theorem dX7_tooth_66 : decode cX7_tooth 66 = .ok (.iaload, 1) := by decide +kernel
theorem dX7_tooth_67 : decode cX7_tooth 67 = .ok (.ireturn, 1) := by decide +kernel
theorem dX7_tooth_68 : decode cX7_tooth 68 = .ok (.aload_n 0, 1) := by decide +kernel
theorem dX7_tooth_69 : decode cX7_tooth 69 = .ok (.getfield 7, 3) := by decide +kernel
theorem dX7_tooth_72 : decode cX7_tooth 72 = .ok (.bipush 24, 2) := by decide +kernel
theorem dX7_tooth_74 : decode cX7_tooth 74 = .ok (.iload_n 1, 1) := by decide +kernel
theorem dX7_tooth_75 : decode cX7_tooth 75 = .ok (.iadd, 1) := by decide +kernel
theorem dX7_tooth_76 : decode cX7_tooth 76 = .ok (.iaload, 1) := by decide +kernel
theorem dX7_tooth_77 : decode cX7_tooth 77 = .ok (.ireturn, 1) := by decide +kernel
theorem dX7_tooth_78 : decode cX7_tooth 78 = .ok (.aload_n 0, 1) := by decide +kernel
theorem dX7_tooth_79 : decode cX7_tooth 79 = .ok (.getfield 7, 3) := by decide +kernel
theorem dX7_tooth_82 : decode cX7_tooth 82 = .ok (.iconst 5, 1) := by decide +kernel
theorem dX7_tooth_83 : decode cX7_tooth 83 = .ok (.iaload, 1) := by decide +kernel
theorem dX7_tooth_84 : decode cX7_tooth 84 = .ok (.iload_n 1, 1) := by decide +kernel
theorem dX7_tooth_85 : decode cX7_tooth 85 = .ok (.ishr, 1) := by decide +kernel
theorem dX7_tooth_86 : decode cX7_tooth 86 = .ok (.iconst 1, 1) := by decide +kernel
theorem dX7_tooth_87 : decode cX7_tooth 87 = .ok (.iand, 1) := by decide +kernel
theorem dX7_tooth_88 : decode cX7_tooth 88 = .ok (.ireturn, 1) := by decide +kernel
theorem dX7_tooth_89 : decode cX7_tooth 89 = .ok (.aload_n 0, 1) := by decide +kernel
theorem dX7_tooth_90 : decode cX7_tooth 90 = .ok (.iconst 0, 1) := by decide +kernel
theorem dX7_tooth_91 : decode cX7_tooth 91 = .ok (.iload_n 1, 1) := by decide +kernel
theorem dX7_tooth_92 : decode cX7_tooth 92 = .ok (.invokevirtual 163, 3) := by decide +kernel
theorem dX7_tooth_95 : decode cX7_tooth 95 = .ok (.ireturn, 1) := by decide +kernel
theorem dX7_tooth_96 : decode cX7_tooth 96 = .ok (.ldc 58, 2) := by decide +kernel
theorem dX7_tooth_98 : decode cX7_tooth 98 = .ok (.ireturn, 1) := by decide +kernel
theorem dX7_pins_0 : decode cX7_pins 0 = .ok (.aload_n 0, 1) := by decide +kernel
theorem dX7_pins_1 : decode cX7_pins 1 = .ok (.iload_n 1, 1) := by decide +kernel
theorem dX7_pins_2 : decode cX7_pins 2 = .ok (.invokevirtual 154, 3) := by decide +kernel
theorem dX7_pins_5 : decode cX7_pins 5 = .ok (.ifCond .eq 15, 3) := by decide +kernel
theorem dX7_pins_8 : decode cX7_pins 8 = .ok (.aload_n 0, 1) := by decide +kernel
theorem dX7_pins_9 : decode cX7_pins 9 = .ok (.getfield 7, 3) := by decide +kernel
theorem dX7_pins_12 : decode cX7_pins 12 = .ok (.bipush 30, 2) := by decide +kernel
theorem dX7_pins_14 : decode cX7_pins 14 = .ok (.iload_n 1, 1) := by decide +kernel
theorem dX7_pins_15 : decode cX7_pins 15 = .ok (.iadd, 1) := by decide +kernel
theorem dX7_pins_16 : decode cX7_pins 16 = .ok (.iaload, 1) := by decide +kernel
theorem dX7_pins_17 : decode cX7_pins 17 = .ok (.goto 5, 3) := by decide +kernel
theorem dX7_pins_20 : decode cX7_pins 20 = .ok (.ldc 58, 2) := by decide +kernel
theorem dX7_pins_22 : decode cX7_pins 22 = .ok (.ireturn, 1) := by decide +kernel
theorem dX7_stand_0 : decode cX7_stand 0 = .ok (.aload_n 0, 1) := by decide +kernel
theorem dX7_stand_1 : decode cX7_stand 1 = .ok (.invokevirtual 138, 3) := by decide +kernel
theorem dX7_stand_4 : decode cX7_stand 4 = .ok (.ifCond .ne 6, 3) := by decide +kernel
theorem dX7_stand_7 : decode cX7_stand 7 = .ok (.ldc 137, 2) := by decide +kernel
theorem dX7_stand_9 : decode cX7_stand 9 = .ok (.ireturn, 1) := by decide +kernel
theorem dX7_stand_10 : decode cX7_stand 10 = .ok (.iload_n 1, 1) := by decide +kernel
theorem dX7_stand_11 : decode cX7_stand 11 = .ok (.tableswitch 77 0 5 #[37, 44, 51, 58, 64, 70], 37) := by decide +kernel
theorem dX7_stand_48 : decode cX7_stand 48 = .ok (.aload_n 0, 1) := by decide +kernel
theorem dX7_stand_49 : decode cX7_stand 49 = .ok (.getfield 7, 3) := by decide +kernel
theorem dX7_stand_52 : decode cX7_stand 52 = .ok (.iconst 1, 1) := by decide +kernel
theorem dX7_stand_53 : decode cX7_stand 53 = .ok (.iaload, 1) := by decide +kernel
theorem dX7_stand_54 : decode cX7_stand 54 = .ok (.ireturn, 1) := by decide +kernel
theorem dX7_stand_55 : decode cX7_stand 55 = .ok (.aload_n 0, 1) := by decide +kernel
theorem dX7_stand_56 : decode cX7_stand 56 = .ok (.getfield 7, 3) := by decide +kernel
theorem dX7_stand_59 : decode cX7_stand 59 = .ok (.iconst 3, 1) := by decide +kernel
theorem dX7_stand_60 : decode cX7_stand 60 = .ok (.iaload, 1) := by decide +kernel
theorem dX7_stand_61 : decode cX7_stand 61 = .ok (.ireturn, 1) := by decide +kernel
theorem dX7_stand_62 : decode cX7_stand 62 = .ok (.aload_n 0, 1) := by decide +kernel
theorem dX7_stand_63 : decode cX7_stand 63 = .ok (.getfield 7, 3) := by decide +kernel
theorem dX7_stand_66 : decode cX7_stand 66 = .ok (.iconst 2, 1) := by decide +kernel
theorem dX7_stand_67 : decode cX7_stand 67 = .ok (.iaload, 1) := by decide +kernel
theorem dX7_stand_68 : decode cX7_stand 68 = .ok (.ireturn, 1) := by decide +kernel
theorem dX7_stand_69 : decode cX7_stand 69 = .ok (.aload_n 0, 1) := by decide +kernel
theorem dX7_stand_70 : decode cX7_stand 70 = .ok (.iconst 0, 1) := by decide +kernel
theorem dX7_stand_71 : decode cX7_stand 71 = .ok (.invokevirtual 149, 3) := by decide +kernel
theorem dX7_stand_74 : decode cX7_stand 74 = .ok (.ireturn, 1) := by decide +kernel
theorem dX7_stand_75 : decode cX7_stand 75 = .ok (.aload_n 0, 1) := by decide +kernel
theorem dX7_stand_76 : decode cX7_stand 76 = .ok (.iconst 0, 1) := by decide +kernel
theorem dX7_stand_77 : decode cX7_stand 77 = .ok (.invokevirtual 167, 3) := by decide +kernel
theorem dX7_stand_80 : decode cX7_stand 80 = .ok (.ireturn, 1) := by decide +kernel
theorem dX7_stand_81 : decode cX7_stand 81 = .ok (.aload_n 0, 1) := by decide +kernel
theorem dX7_stand_82 : decode cX7_stand 82 = .ok (.getfield 7, 3) := by decide +kernel
theorem dX7_stand_85 : decode cX7_stand 85 = .ok (.iconst 5, 1) := by decide +kernel
theorem dX7_stand_86 : decode cX7_stand 86 = .ok (.iaload, 1) := by decide +kernel
theorem dX7_stand_87 : decode cX7_stand 87 = .ok (.ireturn, 1) := by decide +kernel
theorem dX7_stand_88 : decode cX7_stand 88 = .ok (.ldc 58, 2) := by decide +kernel
theorem dX7_stand_90 : decode cX7_stand 90 = .ok (.ireturn, 1) := by decide +kernel
theorem dX7_tries_0 : decode cX7_tries 0 = .ok (.aload_n 0, 1) := by decide +kernel
theorem dX7_tries_1 : decode cX7_tries 1 = .ok (.iconst 0, 1) := by decide +kernel
theorem dX7_tries_2 : decode cX7_tries 2 = .ok (.bipush 43, 2) := by decide +kernel
theorem dX7_tries_4 : decode cX7_tries 4 = .ok (.invokevirtual 120, 3) := by decide +kernel
theorem dX7_tries_7 : decode cX7_tries 7 = .ok (.return_, 1) := by decide +kernel
theorem dX7_goesOn_0 : decode cX7_goesOn 0 = .ok (.iconst 0, 1) := by decide +kernel
theorem dX7_goesOn_1 : decode cX7_goesOn 1 = .ok (.istore_n 2, 1) := by decide +kernel
theorem dX7_goesOn_2 : decode cX7_goesOn 2 = .ok (.iload_n 2, 1) := by decide +kernel
theorem dX7_goesOn_3 : decode cX7_goesOn 3 = .ok (.iload_n 1, 1) := by decide +kernel
theorem dX7_goesOn_4 : decode cX7_goesOn 4 = .ok (.if_icmp .ge 15, 3) := by decide +kernel
theorem dX7_goesOn_7 : decode cX7_goesOn 7 = .ok (.aload_n 0, 1) := by decide +kernel
theorem dX7_goesOn_8 : decode cX7_goesOn 8 = .ok (.bipush 43, 2) := by decide +kernel
theorem dX7_goesOn_10 : decode cX7_goesOn 10 = .ok (.invokevirtual 146, 3) := by decide +kernel
theorem dX7_goesOn_13 : decode cX7_goesOn 13 = .ok (.iinc 2 1, 3) := by decide +kernel
theorem dX7_goesOn_16 : decode cX7_goesOn 16 = .ok (.goto (-14), 3) := by decide +kernel
theorem dX7_goesOn_19 : decode cX7_goesOn 19 = .ok (.return_, 1) := by decide +kernel
theorem dX7_sumOf_0 : decode cX7_sumOf 0 = .ok (.iconst 0, 1) := by decide +kernel
theorem dX7_sumOf_1 : decode cX7_sumOf 1 = .ok (.istore_n 2, 1) := by decide +kernel
theorem dX7_sumOf_2 : decode cX7_sumOf 2 = .ok (.iconst 0, 1) := by decide +kernel
theorem dX7_sumOf_3 : decode cX7_sumOf 3 = .ok (.istore_n 3, 1) := by decide +kernel
theorem dX7_sumOf_4 : decode cX7_sumOf 4 = .ok (.iload_n 3, 1) := by decide +kernel
theorem dX7_sumOf_5 : decode cX7_sumOf 5 = .ok (.iload_n 1, 1) := by decide +kernel
theorem dX7_sumOf_6 : decode cX7_sumOf 6 = .ok (.if_icmp .ge 24, 3) := by decide +kernel
theorem dX7_sumOf_9 : decode cX7_sumOf 9 = .ok (.aload_n 0, 1) := by decide +kernel
theorem dX7_sumOf_10 : decode cX7_sumOf 10 = .ok (.bipush 43, 2) := by decide +kernel
theorem dX7_sumOf_12 : decode cX7_sumOf 12 = .ok (.invokevirtual 146, 3) := by decide +kernel
theorem dX7_sumOf_15 : decode cX7_sumOf 15 = .ok (.iload_n 2, 1) := by decide +kernel
theorem dX7_sumOf_16 : decode cX7_sumOf 16 = .ok (.aload_n 0, 1) := by decide +kernel
theorem dX7_sumOf_17 : decode cX7_sumOf 17 = .ok (.bipush 43, 2) := by decide +kernel
theorem dX7_sumOf_19 : decode cX7_sumOf 19 = .ok (.invokevirtual 149, 3) := by decide +kernel
theorem dX7_sumOf_22 : decode cX7_sumOf 22 = .ok (.iadd, 1) := by decide +kernel
theorem dX7_sumOf_23 : decode cX7_sumOf 23 = .ok (.istore_n 2, 1) := by decide +kernel
theorem dX7_sumOf_24 : decode cX7_sumOf 24 = .ok (.iinc 3 1, 3) := by decide +kernel
theorem dX7_sumOf_27 : decode cX7_sumOf 27 = .ok (.goto (-23), 3) := by decide +kernel
theorem dX7_sumOf_30 : decode cX7_sumOf 30 = .ok (.iload_n 2, 1) := by decide +kernel
theorem dX7_sumOf_31 : decode cX7_sumOf 31 = .ok (.ireturn, 1) := by decide +kernel
theorem dX7_ahead_0 : decode cX7_ahead 0 = .ok (.aload_n 0, 1) := by decide +kernel
theorem dX7_ahead_1 : decode cX7_ahead 1 = .ok (.iload_n 1, 1) := by decide +kernel
theorem dX7_ahead_2 : decode cX7_ahead 2 = .ok (.invokevirtual 157, 3) := by decide +kernel
theorem dX7_ahead_5 : decode cX7_ahead 5 = .ok (.ifCond .eq 27, 3) := by decide +kernel
theorem dX7_ahead_8 : decode cX7_ahead 8 = .ok (.iload_n 2, 1) := by decide +kernel
theorem dX7_ahead_9 : decode cX7_ahead 9 = .ok (.i2l, 1) := by decide +kernel
theorem dX7_ahead_10 : decode cX7_ahead 10 = .ok (.lconst 0, 1) := by decide +kernel
theorem dX7_ahead_11 : decode cX7_ahead 11 = .ok (.ldc2_w 170, 3) := by decide +kernel
theorem dX7_ahead_14 : decode cX7_ahead 14 = .ok (.invokestatic 41, 3) := by decide +kernel
theorem dX7_ahead_17 : decode cX7_ahead 17 = .ok (.ifCond .eq 15, 3) := by decide +kernel
theorem dX7_ahead_20 : decode cX7_ahead 20 = .ok (.iload_n 3, 1) := by decide +kernel
theorem dX7_ahead_21 : decode cX7_ahead 21 = .ok (.i2l, 1) := by decide +kernel
theorem dX7_ahead_22 : decode cX7_ahead 22 = .ok (.lconst 0, 1) := by decide +kernel
theorem dX7_ahead_23 : decode cX7_ahead 23 = .ok (.ldc2_w 56, 3) := by decide +kernel
theorem dX7_ahead_26 : decode cX7_ahead 26 = .ok (.invokestatic 41, 3) := by decide +kernel
theorem dX7_ahead_29 : decode cX7_ahead 29 = .ok (.ifCond .ne 6, 3) := by decide +kernel
theorem dX7_ahead_32 : decode cX7_ahead 32 = .ok (.ldc 58, 2) := by decide +kernel
theorem dX7_ahead_34 : decode cX7_ahead 34 = .ok (.ireturn, 1) := by decide +kernel
theorem dX7_ahead_35 : decode cX7_ahead 35 = .ok (.aload_n 0, 1) := by decide +kernel
theorem dX7_ahead_36 : decode cX7_ahead 36 = .ok (.invokevirtual 172, 3) := by decide +kernel
theorem dX7_ahead_39 : decode cX7_ahead 39 = .ok (.aload_n 0, 1) := by decide +kernel
theorem dX7_ahead_40 : decode cX7_ahead 40 = .ok (.iload_n 2, 1) := by decide +kernel
theorem dX7_ahead_41 : decode cX7_ahead 41 = .ok (.invokevirtual 175, 3) := by decide +kernel
theorem dX7_ahead_44 : decode cX7_ahead 44 = .ok (.iload_n 3, 1) := by decide +kernel
theorem dX7_ahead_45 : decode cX7_ahead 45 = .ok (.ifCond .ne 15, 3) := by decide +kernel
theorem dX7_ahead_48 : decode cX7_ahead 48 = .ok (.aload_n 0, 1) := by decide +kernel
theorem dX7_ahead_49 : decode cX7_ahead 49 = .ok (.getfield 7, 3) := by decide +kernel
theorem dX7_ahead_52 : decode cX7_ahead 52 = .ok (.bipush 61, 2) := by decide +kernel
theorem dX7_ahead_54 : decode cX7_ahead 54 = .ok (.iload_n 1, 1) := by decide +kernel
theorem dX7_ahead_55 : decode cX7_ahead 55 = .ok (.iadd, 1) := by decide +kernel
theorem dX7_ahead_56 : decode cX7_ahead 56 = .ok (.iaload, 1) := by decide +kernel
theorem dX7_ahead_57 : decode cX7_ahead 57 = .ok (.goto 31, 3) := by decide +kernel
theorem dX7_ahead_60 : decode cX7_ahead 60 = .ok (.iload_n 3, 1) := by decide +kernel
theorem dX7_ahead_61 : decode cX7_ahead 61 = .ok (.iconst 1, 1) := by decide +kernel
theorem dX7_ahead_62 : decode cX7_ahead 62 = .ok (.if_icmp .ne 15, 3) := by decide +kernel
theorem dX7_ahead_65 : decode cX7_ahead 65 = .ok (.aload_n 0, 1) := by decide +kernel
theorem dX7_ahead_66 : decode cX7_ahead 66 = .ok (.getfield 7, 3) := by decide +kernel
theorem dX7_ahead_69 : decode cX7_ahead 69 = .ok (.bipush 67, 2) := by decide +kernel
theorem dX7_ahead_71 : decode cX7_ahead 71 = .ok (.iload_n 1, 1) := by decide +kernel
theorem dX7_ahead_72 : decode cX7_ahead 72 = .ok (.iadd, 1) := by decide +kernel
theorem dX7_ahead_73 : decode cX7_ahead 73 = .ok (.iaload, 1) := by decide +kernel
theorem dX7_ahead_74 : decode cX7_ahead 74 = .ok (.goto 14, 3) := by decide +kernel
theorem dX7_ahead_77 : decode cX7_ahead 77 = .ok (.aload_n 0, 1) := by decide +kernel
theorem dX7_ahead_78 : decode cX7_ahead 78 = .ok (.getfield 7, 3) := by decide +kernel
theorem dX7_ahead_81 : decode cX7_ahead 81 = .ok (.bipush 48, 2) := by decide +kernel
theorem dX7_ahead_83 : decode cX7_ahead 83 = .ok (.iaload, 1) := by decide +kernel
theorem dX7_ahead_84 : decode cX7_ahead 84 = .ok (.iload_n 1, 1) := by decide +kernel
theorem dX7_ahead_85 : decode cX7_ahead 85 = .ok (.ishr, 1) := by decide +kernel
theorem dX7_ahead_86 : decode cX7_ahead 86 = .ok (.iconst 1, 1) := by decide +kernel
theorem dX7_ahead_87 : decode cX7_ahead 87 = .ok (.iand, 1) := by decide +kernel
theorem dX7_ahead_88 : decode cX7_ahead 88 = .ok (.ireturn, 1) := by decide +kernel
theorem dX7_heard_0 : decode cX7_heard 0 = .ok (.aload_n 0, 1) := by decide +kernel
theorem dX7_heard_1 : decode cX7_heard 1 = .ok (.invokevirtual 138, 3) := by decide +kernel
theorem dX7_heard_4 : decode cX7_heard 4 = .ok (.ifCond .ne 6, 3) := by decide +kernel
theorem dX7_heard_7 : decode cX7_heard 7 = .ok (.ldc 137, 2) := by decide +kernel
theorem dX7_heard_9 : decode cX7_heard 9 = .ok (.ireturn, 1) := by decide +kernel
theorem dX7_heard_10 : decode cX7_heard 10 = .ok (.iload_n 1, 1) := by decide +kernel
theorem dX7_heard_11 : decode cX7_heard 11 = .ok (.i2l, 1) := by decide +kernel
theorem dX7_heard_12 : decode cX7_heard 12 = .ok (.lconst 0, 1) := by decide +kernel
theorem dX7_heard_13 : decode cX7_heard 13 = .ok (.ldc2_w 170, 3) := by decide +kernel
theorem dX7_heard_16 : decode cX7_heard 16 = .ok (.invokestatic 41, 3) := by decide +kernel
theorem dX7_heard_19 : decode cX7_heard 19 = .ok (.ifCond .eq 15, 3) := by decide +kernel
theorem dX7_heard_22 : decode cX7_heard 22 = .ok (.iload_n 2, 1) := by decide +kernel
theorem dX7_heard_23 : decode cX7_heard 23 = .ok (.i2l, 1) := by decide +kernel
theorem dX7_heard_24 : decode cX7_heard 24 = .ok (.lconst 0, 1) := by decide +kernel
theorem dX7_heard_25 : decode cX7_heard 25 = .ok (.ldc2_w 178, 3) := by decide +kernel
theorem dX7_heard_28 : decode cX7_heard 28 = .ok (.invokestatic 41, 3) := by decide +kernel
theorem dX7_heard_31 : decode cX7_heard 31 = .ok (.ifCond .ne 6, 3) := by decide +kernel
theorem dX7_heard_34 : decode cX7_heard 34 = .ok (.ldc 58, 2) := by decide +kernel
theorem dX7_heard_36 : decode cX7_heard 36 = .ok (.ireturn, 1) := by decide +kernel
theorem dX7_heard_37 : decode cX7_heard 37 = .ok (.aload_n 0, 1) := by decide +kernel
theorem dX7_heard_38 : decode cX7_heard 38 = .ok (.invokevirtual 172, 3) := by decide +kernel
theorem dX7_heard_41 : decode cX7_heard 41 = .ok (.aload_n 0, 1) := by decide +kernel
theorem dX7_heard_42 : decode cX7_heard 42 = .ok (.iload_n 1, 1) := by decide +kernel
theorem dX7_heard_43 : decode cX7_heard 43 = .ok (.invokevirtual 175, 3) := by decide +kernel
theorem dX7_heard_46 : decode cX7_heard 46 = .ok (.iload_n 2, 1) := by decide +kernel
theorem dX7_heard_47 : decode cX7_heard 47 = .ok (.ifCond .ne 12, 3) := by decide +kernel
theorem dX7_heard_50 : decode cX7_heard 50 = .ok (.aload_n 0, 1) := by decide +kernel
theorem dX7_heard_51 : decode cX7_heard 51 = .ok (.bipush 43, 2) := by decide +kernel
theorem dX7_heard_53 : decode cX7_heard 53 = .ok (.invokevirtual 149, 3) := by decide +kernel
theorem dX7_heard_56 : decode cX7_heard 56 = .ok (.goto 39, 3) := by decide +kernel
theorem dX7_heard_59 : decode cX7_heard 59 = .ok (.iload_n 2, 1) := by decide +kernel
theorem dX7_heard_60 : decode cX7_heard 60 = .ok (.iconst 1, 1) := by decide +kernel
theorem dX7_heard_61 : decode cX7_heard 61 = .ok (.if_icmp .ne 12, 3) := by decide +kernel
theorem dX7_heard_64 : decode cX7_heard 64 = .ok (.aload_n 0, 1) := by decide +kernel
theorem dX7_heard_65 : decode cX7_heard 65 = .ok (.bipush 43, 2) := by decide +kernel
theorem dX7_heard_67 : decode cX7_heard 67 = .ok (.invokevirtual 167, 3) := by decide +kernel
theorem dX7_heard_70 : decode cX7_heard 70 = .ok (.goto 25, 3) := by decide +kernel
theorem dX7_heard_73 : decode cX7_heard 73 = .ok (.iload_n 2, 1) := by decide +kernel
theorem dX7_heard_74 : decode cX7_heard 74 = .ok (.iconst 2, 1) := by decide +kernel
theorem dX7_heard_75 : decode cX7_heard 75 = .ok (.if_icmp .ne 13, 3) := by decide +kernel
theorem dX7_heard_78 : decode cX7_heard 78 = .ok (.aload_n 0, 1) := by decide +kernel
theorem dX7_heard_79 : decode cX7_heard 79 = .ok (.getfield 7, 3) := by decide +kernel
theorem dX7_heard_82 : decode cX7_heard 82 = .ok (.bipush 46, 2) := by decide +kernel
theorem dX7_heard_84 : decode cX7_heard 84 = .ok (.iaload, 1) := by decide +kernel
theorem dX7_heard_85 : decode cX7_heard 85 = .ok (.goto 10, 3) := by decide +kernel
theorem dX7_heard_88 : decode cX7_heard 88 = .ok (.aload_n 0, 1) := by decide +kernel
theorem dX7_heard_89 : decode cX7_heard 89 = .ok (.getfield 7, 3) := by decide +kernel
theorem dX7_heard_92 : decode cX7_heard 92 = .ok (.bipush 45, 2) := by decide +kernel
theorem dX7_heard_94 : decode cX7_heard 94 = .ok (.iaload, 1) := by decide +kernel
theorem dX7_heard_95 : decode cX7_heard 95 = .ok (.ireturn, 1) := by decide +kernel
theorem dX7_when_0 : decode cX7_when 0 = .ok (.aload_n 0, 1) := by decide +kernel
theorem dX7_when_1 : decode cX7_when 1 = .ok (.iload_n 1, 1) := by decide +kernel
theorem dX7_when_2 : decode cX7_when 2 = .ok (.invokevirtual 157, 3) := by decide +kernel
theorem dX7_when_5 : decode cX7_when 5 = .ok (.ifCond .eq 13, 3) := by decide +kernel
theorem dX7_when_8 : decode cX7_when 8 = .ok (.iload_n 2, 1) := by decide +kernel
theorem dX7_when_9 : decode cX7_when 9 = .ok (.i2l, 1) := by decide +kernel
theorem dX7_when_10 : decode cX7_when 10 = .ok (.lconst 0, 1) := by decide +kernel
theorem dX7_when_11 : decode cX7_when 11 = .ok (.lconst 1, 1) := by decide +kernel
theorem dX7_when_12 : decode cX7_when 12 = .ok (.invokestatic 41, 3) := by decide +kernel
theorem dX7_when_15 : decode cX7_when 15 = .ok (.ifCond .ne 6, 3) := by decide +kernel
theorem dX7_when_18 : decode cX7_when 18 = .ok (.ldc 58, 2) := by decide +kernel
theorem dX7_when_20 : decode cX7_when 20 = .ok (.ireturn, 1) := by decide +kernel
theorem dX7_when_21 : decode cX7_when 21 = .ok (.aload_n 0, 1) := by decide +kernel
theorem dX7_when_22 : decode cX7_when 22 = .ok (.invokevirtual 172, 3) := by decide +kernel
theorem dX7_when_25 : decode cX7_when 25 = .ok (.iconst 0, 1) := by decide +kernel
theorem dX7_when_26 : decode cX7_when 26 = .ok (.istore_n 3, 1) := by decide +kernel
theorem dX7_when_27 : decode cX7_when 27 = .ok (.iload_n 3, 1) := by decide +kernel
theorem dX7_when_28 : decode cX7_when 28 = .ok (.bipush 60, 2) := by decide +kernel
theorem dX7_when_30 : decode cX7_when 30 = .ok (.if_icmp .gt 50, 3) := by decide +kernel
theorem dX7_when_33 : decode cX7_when 33 = .ok (.iload_n 2, 1) := by decide +kernel
theorem dX7_when_34 : decode cX7_when 34 = .ok (.ifCond .ne 18, 3) := by decide +kernel
theorem dX7_when_37 : decode cX7_when 37 = .ok (.aload_n 0, 1) := by decide +kernel
theorem dX7_when_38 : decode cX7_when 38 = .ok (.getfield 7, 3) := by decide +kernel
theorem dX7_when_41 : decode cX7_when 41 = .ok (.bipush 61, 2) := by decide +kernel
theorem dX7_when_43 : decode cX7_when 43 = .ok (.iload_n 1, 1) := by decide +kernel
theorem dX7_when_44 : decode cX7_when 44 = .ok (.iadd, 1) := by decide +kernel
theorem dX7_when_45 : decode cX7_when 45 = .ok (.iaload, 1) := by decide +kernel
theorem dX7_when_46 : decode cX7_when 46 = .ok (.ifCond .le 22, 3) := by decide +kernel
theorem dX7_when_49 : decode cX7_when 49 = .ok (.goto 17, 3) := by decide +kernel
theorem dX7_when_52 : decode cX7_when 52 = .ok (.aload_n 0, 1) := by decide +kernel
theorem dX7_when_53 : decode cX7_when 53 = .ok (.getfield 7, 3) := by decide +kernel
theorem dX7_when_56 : decode cX7_when 56 = .ok (.bipush 48, 2) := by decide +kernel
theorem dX7_when_58 : decode cX7_when 58 = .ok (.iaload, 1) := by decide +kernel
theorem dX7_when_59 : decode cX7_when 59 = .ok (.iload_n 1, 1) := by decide +kernel
theorem dX7_when_60 : decode cX7_when 60 = .ok (.invokestatic 127, 3) := by decide +kernel
theorem dX7_when_63 : decode cX7_when 63 = .ok (.ifCond .eq 5, 3) := by decide +kernel
theorem dX7_when_66 : decode cX7_when 66 = .ok (.iload_n 3, 1) := by decide +kernel
theorem dX7_when_67 : decode cX7_when 67 = .ok (.ireturn, 1) := by decide +kernel
theorem dX7_when_68 : decode cX7_when 68 = .ok (.aload_n 0, 1) := by decide +kernel
theorem dX7_when_69 : decode cX7_when 69 = .ok (.bipush 43, 2) := by decide +kernel
theorem dX7_when_71 : decode cX7_when 71 = .ok (.invokevirtual 146, 3) := by decide +kernel
theorem dX7_when_74 : decode cX7_when 74 = .ok (.iinc 3 1, 3) := by decide +kernel
theorem dX7_when_77 : decode cX7_when 77 = .ok (.goto (-50), 3) := by decide +kernel
theorem dX7_when_80 : decode cX7_when 80 = .ok (.ldc 180, 2) := by decide +kernel
theorem dX7_when_82 : decode cX7_when 82 = .ok (.ireturn, 1) := by decide +kernel
theorem dX7_stops_0 : decode cX7_stops 0 = .ok (.aload_n 0, 1) := by decide +kernel
theorem dX7_stops_1 : decode cX7_stops 1 = .ok (.invokevirtual 138, 3) := by decide +kernel
theorem dX7_stops_4 : decode cX7_stops 4 = .ok (.ifCond .ne 6, 3) := by decide +kernel
theorem dX7_stops_7 : decode cX7_stops 7 = .ok (.ldc 137, 2) := by decide +kernel
theorem dX7_stops_9 : decode cX7_stops 9 = .ok (.ireturn, 1) := by decide +kernel
theorem dX7_stops_10 : decode cX7_stops 10 = .ok (.aload_n 0, 1) := by decide +kernel
theorem dX7_stops_11 : decode cX7_stops 11 = .ok (.invokevirtual 172, 3) := by decide +kernel
theorem dX7_stops_14 : decode cX7_stops 14 = .ok (.iconst 0, 1) := by decide +kernel
theorem dX7_stops_15 : decode cX7_stops 15 = .ok (.istore_n 1, 1) := by decide +kernel
theorem dX7_stops_16 : decode cX7_stops 16 = .ok (.iload_n 1, 1) := by decide +kernel
theorem dX7_stops_17 : decode cX7_stops 17 = .ok (.bipush 60, 2) := by decide +kernel
theorem dX7_stops_19 : decode cX7_stops 19 = .ok (.if_icmp .gt 27, 3) := by decide +kernel
theorem dX7_stops_22 : decode cX7_stops 22 = .ok (.aload_n 0, 1) := by decide +kernel
theorem dX7_stops_23 : decode cX7_stops 23 = .ok (.getfield 7, 3) := by decide +kernel
theorem dX7_stops_26 : decode cX7_stops 26 = .ok (.bipush 45, 2) := by decide +kernel
theorem dX7_stops_28 : decode cX7_stops 28 = .ok (.iaload, 1) := by decide +kernel
theorem dX7_stops_29 : decode cX7_stops 29 = .ok (.ifCond .ne 5, 3) := by decide +kernel
theorem dX7_stops_32 : decode cX7_stops 32 = .ok (.iload_n 1, 1) := by decide +kernel
theorem dX7_stops_33 : decode cX7_stops 33 = .ok (.ireturn, 1) := by decide +kernel
theorem dX7_stops_34 : decode cX7_stops 34 = .ok (.aload_n 0, 1) := by decide +kernel
theorem dX7_stops_35 : decode cX7_stops 35 = .ok (.bipush 43, 2) := by decide +kernel
theorem dX7_stops_37 : decode cX7_stops 37 = .ok (.invokevirtual 146, 3) := by decide +kernel
theorem dX7_stops_40 : decode cX7_stops 40 = .ok (.iinc 1 1, 3) := by decide +kernel
theorem dX7_stops_43 : decode cX7_stops 43 = .ok (.goto (-27), 3) := by decide +kernel
theorem dX7_stops_46 : decode cX7_stops 46 = .ok (.ldc 180, 2) := by decide +kernel
theorem dX7_stops_48 : decode cX7_stops 48 = .ok (.ireturn, 1) := by decide +kernel
theorem dX7_bestPin_0 : decode cX7_bestPin 0 = .ok (.aload_n 0, 1) := by decide +kernel
theorem dX7_bestPin_1 : decode cX7_bestPin 1 = .ok (.invokevirtual 138, 3) := by decide +kernel
theorem dX7_bestPin_4 : decode cX7_bestPin 4 = .ok (.ifCond .ne 6, 3) := by decide +kernel
theorem dX7_bestPin_7 : decode cX7_bestPin 7 = .ok (.ldc 137, 2) := by decide +kernel
theorem dX7_bestPin_9 : decode cX7_bestPin 9 = .ok (.ireturn, 1) := by decide +kernel
theorem dX7_bestPin_10 : decode cX7_bestPin 10 = .ok (.iload_n 1, 1) := by decide +kernel
theorem dX7_bestPin_11 : decode cX7_bestPin 11 = .ok (.i2l, 1) := by decide +kernel
theorem dX7_bestPin_12 : decode cX7_bestPin 12 = .ok (.lconst 1, 1) := by decide +kernel
theorem dX7_bestPin_13 : decode cX7_bestPin 13 = .ok (.ldc2_w 181, 3) := by decide +kernel
theorem dX7_bestPin_16 : decode cX7_bestPin 16 = .ok (.invokestatic 41, 3) := by decide +kernel
theorem dX7_bestPin_19 : decode cX7_bestPin 19 = .ok (.ifCond .eq 13, 3) := by decide +kernel
theorem dX7_bestPin_22 : decode cX7_bestPin 22 = .ok (.iload_n 2, 1) := by decide +kernel
theorem dX7_bestPin_23 : decode cX7_bestPin 23 = .ok (.i2l, 1) := by decide +kernel
theorem dX7_bestPin_24 : decode cX7_bestPin 24 = .ok (.lconst 0, 1) := by decide +kernel
theorem dX7_bestPin_25 : decode cX7_bestPin 25 = .ok (.lconst 1, 1) := by decide +kernel
theorem dX7_bestPin_26 : decode cX7_bestPin 26 = .ok (.invokestatic 41, 3) := by decide +kernel
theorem dX7_bestPin_29 : decode cX7_bestPin 29 = .ok (.ifCond .ne 6, 3) := by decide +kernel
theorem dX7_bestPin_32 : decode cX7_bestPin 32 = .ok (.ldc 58, 2) := by decide +kernel
theorem dX7_bestPin_34 : decode cX7_bestPin 34 = .ok (.ireturn, 1) := by decide +kernel
theorem dX7_bestPin_35 : decode cX7_bestPin 35 = .ok (.iconst 0, 1) := by decide +kernel
theorem dX7_bestPin_36 : decode cX7_bestPin 36 = .ok (.istore_n 3, 1) := by decide +kernel
theorem dX7_bestPin_37 : decode cX7_bestPin 37 = .ok (.iconst (-1), 1) := by decide +kernel
theorem dX7_bestPin_38 : decode cX7_bestPin 38 = .ok (.istore 4, 2) := by decide +kernel
theorem dX7_bestPin_40 : decode cX7_bestPin 40 = .ok (.iconst 0, 1) := by decide +kernel
theorem dX7_bestPin_41 : decode cX7_bestPin 41 = .ok (.istore 5, 2) := by decide +kernel
theorem dX7_bestPin_43 : decode cX7_bestPin 43 = .ok (.iload 5, 2) := by decide +kernel
theorem dX7_bestPin_45 : decode cX7_bestPin 45 = .ok (.aload_n 0, 1) := by decide +kernel
theorem dX7_bestPin_46 : decode cX7_bestPin 46 = .ok (.getfield 7, 3) := by decide +kernel
theorem dX7_bestPin_49 : decode cX7_bestPin 49 = .ok (.iconst 1, 1) := by decide +kernel
theorem dX7_bestPin_50 : decode cX7_bestPin 50 = .ok (.iaload, 1) := by decide +kernel
theorem dX7_bestPin_51 : decode cX7_bestPin 51 = .ok (.if_icmp .ge 93, 3) := by decide +kernel
theorem dX7_bestPin_54 : decode cX7_bestPin 54 = .ok (.iconst 0, 1) := by decide +kernel
theorem dX7_bestPin_55 : decode cX7_bestPin 55 = .ok (.istore 6, 2) := by decide +kernel
theorem dX7_bestPin_57 : decode cX7_bestPin 57 = .ok (.iload 6, 2) := by decide +kernel
theorem dX7_bestPin_59 : decode cX7_bestPin 59 = .ok (.aload_n 0, 1) := by decide +kernel
theorem dX7_bestPin_60 : decode cX7_bestPin 60 = .ok (.getfield 7, 3) := by decide +kernel
theorem dX7_bestPin_63 : decode cX7_bestPin 63 = .ok (.iconst 0, 1) := by decide +kernel
theorem dX7_bestPin_64 : decode cX7_bestPin 64 = .ok (.iaload, 1) := by decide +kernel
theorem dX7_bestPin_65 : decode cX7_bestPin 65 = .ok (.if_icmp .ge 73, 3) := by decide +kernel
theorem dX7_bestPin_68 : decode cX7_bestPin 68 = .ok (.aload_n 0, 1) := by decide +kernel
theorem dX7_bestPin_69 : decode cX7_bestPin 69 = .ok (.invokevirtual 172, 3) := by decide +kernel
theorem dX7_bestPin_72 : decode cX7_bestPin 72 = .ok (.aload_n 0, 1) := by decide +kernel
theorem dX7_bestPin_73 : decode cX7_bestPin 73 = .ok (.getfield 7, 3) := by decide +kernel
theorem dX7_bestPin_76 : decode cX7_bestPin 76 = .ok (.bipush 73, 2) := by decide +kernel
theorem dX7_bestPin_78 : decode cX7_bestPin 78 = .ok (.iload 5, 2) := by decide +kernel
theorem dX7_bestPin_80 : decode cX7_bestPin 80 = .ok (.iadd, 1) := by decide +kernel
theorem dX7_bestPin_81 : decode cX7_bestPin 81 = .ok (.dup2, 1) := by decide +kernel
theorem dX7_bestPin_82 : decode cX7_bestPin 82 = .ok (.iaload, 1) := by decide +kernel
theorem dX7_bestPin_83 : decode cX7_bestPin 83 = .ok (.iconst 1, 1) := by decide +kernel
theorem dX7_bestPin_84 : decode cX7_bestPin 84 = .ok (.iload 6, 2) := by decide +kernel
theorem dX7_bestPin_86 : decode cX7_bestPin 86 = .ok (.ishl, 1) := by decide +kernel
theorem dX7_bestPin_87 : decode cX7_bestPin 87 = .ok (.ixor, 1) := by decide +kernel
theorem dX7_bestPin_88 : decode cX7_bestPin 88 = .ok (.iastore, 1) := by decide +kernel
theorem dX7_bestPin_89 : decode cX7_bestPin 89 = .ok (.aload_n 0, 1) := by decide +kernel
theorem dX7_bestPin_90 : decode cX7_bestPin 90 = .ok (.iload_n 1, 1) := by decide +kernel
theorem dX7_bestPin_91 : decode cX7_bestPin 91 = .ok (.invokevirtual 183, 3) := by decide +kernel
theorem dX7_bestPin_94 : decode cX7_bestPin 94 = .ok (.istore 7, 2) := by decide +kernel
theorem dX7_bestPin_96 : decode cX7_bestPin 96 = .ok (.iload 7, 2) := by decide +kernel
theorem dX7_bestPin_98 : decode cX7_bestPin 98 = .ok (.iload 4, 2) := by decide +kernel
theorem dX7_bestPin_100 : decode cX7_bestPin 100 = .ok (.if_icmp .le 14, 3) := by decide +kernel
theorem dX7_bestPin_103 : decode cX7_bestPin 103 = .ok (.bipush 10, 2) := by decide +kernel
theorem dX7_bestPin_105 : decode cX7_bestPin 105 = .ok (.iload 5, 2) := by decide +kernel
theorem dX7_bestPin_107 : decode cX7_bestPin 107 = .ok (.imul, 1) := by decide +kernel
theorem dX7_bestPin_108 : decode cX7_bestPin 108 = .ok (.iload 6, 2) := by decide +kernel
theorem dX7_bestPin_110 : decode cX7_bestPin 110 = .ok (.iadd, 1) := by decide +kernel
theorem dX7_bestPin_111 : decode cX7_bestPin 111 = .ok (.goto 4, 3) := by decide +kernel
theorem dX7_bestPin_114 : decode cX7_bestPin 114 = .ok (.iload_n 3, 1) := by decide +kernel
theorem dX7_bestPin_115 : decode cX7_bestPin 115 = .ok (.istore_n 3, 1) := by decide +kernel
theorem dX7_bestPin_116 : decode cX7_bestPin 116 = .ok (.iload 7, 2) := by decide +kernel
theorem dX7_bestPin_118 : decode cX7_bestPin 118 = .ok (.iload 4, 2) := by decide +kernel
theorem dX7_bestPin_120 : decode cX7_bestPin 120 = .ok (.if_icmp .le 8, 3) := by decide +kernel
theorem dX7_bestPin_123 : decode cX7_bestPin 123 = .ok (.iload 7, 2) := by decide +kernel
theorem dX7_bestPin_125 : decode cX7_bestPin 125 = .ok (.goto 5, 3) := by decide +kernel
theorem dX7_bestPin_128 : decode cX7_bestPin 128 = .ok (.iload 4, 2) := by decide +kernel
theorem dX7_bestPin_130 : decode cX7_bestPin 130 = .ok (.istore 4, 2) := by decide +kernel
theorem dX7_bestPin_132 : decode cX7_bestPin 132 = .ok (.iinc 6 1, 3) := by decide +kernel
theorem dX7_bestPin_135 : decode cX7_bestPin 135 = .ok (.goto (-78), 3) := by decide +kernel
theorem dX7_bestPin_138 : decode cX7_bestPin 138 = .ok (.iinc 5 1, 3) := by decide +kernel
theorem dX7_bestPin_141 : decode cX7_bestPin 141 = .ok (.goto (-98), 3) := by decide +kernel
theorem dX7_bestPin_144 : decode cX7_bestPin 144 = .ok (.iload_n 2, 1) := by decide +kernel
theorem dX7_bestPin_145 : decode cX7_bestPin 145 = .ok (.ifCond .ne 7, 3) := by decide +kernel
theorem dX7_bestPin_148 : decode cX7_bestPin 148 = .ok (.iload_n 3, 1) := by decide +kernel
theorem dX7_bestPin_149 : decode cX7_bestPin 149 = .ok (.goto 5, 3) := by decide +kernel
theorem dX7_bestPin_152 : decode cX7_bestPin 152 = .ok (.iload 4, 2) := by decide +kernel
theorem dX7_bestPin_154 : decode cX7_bestPin 154 = .ok (.ireturn, 1) := by decide +kernel
theorem dX7_begin_0 : decode cX7_begin 0 = .ok (.aload_n 0, 1) := by decide +kernel
theorem dX7_begin_1 : decode cX7_begin 1 = .ok (.invokevirtual 138, 3) := by decide +kernel
theorem dX7_begin_4 : decode cX7_begin 4 = .ok (.ifCond .ne 6, 3) := by decide +kernel
theorem dX7_begin_7 : decode cX7_begin 7 = .ok (.ldc 137, 2) := by decide +kernel
theorem dX7_begin_9 : decode cX7_begin 9 = .ok (.ireturn, 1) := by decide +kernel
theorem dX7_begin_10 : decode cX7_begin 10 = .ok (.iload_n 1, 1) := by decide +kernel
theorem dX7_begin_11 : decode cX7_begin 11 = .ok (.i2l, 1) := by decide +kernel
theorem dX7_begin_12 : decode cX7_begin 12 = .ok (.lconst 1, 1) := by decide +kernel
theorem dX7_begin_13 : decode cX7_begin 13 = .ok (.ldc2_w 186, 3) := by decide +kernel
theorem dX7_begin_16 : decode cX7_begin 16 = .ok (.invokestatic 41, 3) := by decide +kernel
theorem dX7_begin_19 : decode cX7_begin 19 = .ok (.ifCond .eq 13, 3) := by decide +kernel
theorem dX7_begin_22 : decode cX7_begin 22 = .ok (.iload_n 2, 1) := by decide +kernel
theorem dX7_begin_23 : decode cX7_begin 23 = .ok (.i2l, 1) := by decide +kernel
theorem dX7_begin_24 : decode cX7_begin 24 = .ok (.lconst 0, 1) := by decide +kernel
theorem dX7_begin_25 : decode cX7_begin 25 = .ok (.lconst 1, 1) := by decide +kernel
theorem dX7_begin_26 : decode cX7_begin 26 = .ok (.invokestatic 41, 3) := by decide +kernel
theorem dX7_begin_29 : decode cX7_begin 29 = .ok (.ifCond .ne 6, 3) := by decide +kernel
theorem dX7_begin_32 : decode cX7_begin 32 = .ok (.ldc 58, 2) := by decide +kernel
theorem dX7_begin_34 : decode cX7_begin 34 = .ok (.ireturn, 1) := by decide +kernel
theorem dX7_begin_35 : decode cX7_begin 35 = .ok (.iconst 0, 1) := by decide +kernel
theorem dX7_begin_36 : decode cX7_begin 36 = .ok (.istore_n 3, 1) := by decide +kernel
theorem dX7_begin_37 : decode cX7_begin 37 = .ok (.iconst (-1), 1) := by decide +kernel
theorem dX7_begin_38 : decode cX7_begin 38 = .ok (.istore 4, 2) := by decide +kernel
theorem dX7_begin_40 : decode cX7_begin 40 = .ok (.iconst 0, 1) := by decide +kernel
theorem dX7_begin_41 : decode cX7_begin 41 = .ok (.istore 5, 2) := by decide +kernel
theorem dX7_begin_43 : decode cX7_begin 43 = .ok (.iload 5, 2) := by decide +kernel
theorem dX7_begin_45 : decode cX7_begin 45 = .ok (.aload_n 0, 1) := by decide +kernel
theorem dX7_begin_46 : decode cX7_begin 46 = .ok (.getfield 7, 3) := by decide +kernel
theorem dX7_begin_49 : decode cX7_begin 49 = .ok (.iconst 1, 1) := by decide +kernel
theorem dX7_begin_50 : decode cX7_begin 50 = .ok (.iaload, 1) := by decide +kernel
theorem dX7_begin_51 : decode cX7_begin 51 = .ok (.if_icmp .ge 59, 3) := by decide +kernel
theorem dX7_begin_54 : decode cX7_begin 54 = .ok (.aload_n 0, 1) := by decide +kernel
theorem dX7_begin_55 : decode cX7_begin 55 = .ok (.invokevirtual 172, 3) := by decide +kernel
theorem dX7_begin_58 : decode cX7_begin 58 = .ok (.aload_n 0, 1) := by decide +kernel
theorem dX7_begin_59 : decode cX7_begin 59 = .ok (.getfield 7, 3) := by decide +kernel
theorem dX7_begin_62 : decode cX7_begin 62 = .ok (.bipush 46, 2) := by decide +kernel
theorem dX7_begin_64 : decode cX7_begin 64 = .ok (.iload 5, 2) := by decide +kernel
theorem dX7_begin_66 : decode cX7_begin 66 = .ok (.iastore, 1) := by decide +kernel
theorem dX7_begin_67 : decode cX7_begin 67 = .ok (.aload_n 0, 1) := by decide +kernel
theorem dX7_begin_68 : decode cX7_begin 68 = .ok (.iload_n 1, 1) := by decide +kernel
theorem dX7_begin_69 : decode cX7_begin 69 = .ok (.invokevirtual 183, 3) := by decide +kernel
theorem dX7_begin_72 : decode cX7_begin 72 = .ok (.istore 6, 2) := by decide +kernel
theorem dX7_begin_74 : decode cX7_begin 74 = .ok (.iload 6, 2) := by decide +kernel
theorem dX7_begin_76 : decode cX7_begin 76 = .ok (.iload 4, 2) := by decide +kernel
theorem dX7_begin_78 : decode cX7_begin 78 = .ok (.if_icmp .le 8, 3) := by decide +kernel
theorem dX7_begin_81 : decode cX7_begin 81 = .ok (.iload 5, 2) := by decide +kernel
theorem dX7_begin_83 : decode cX7_begin 83 = .ok (.goto 4, 3) := by decide +kernel
theorem dX7_begin_86 : decode cX7_begin 86 = .ok (.iload_n 3, 1) := by decide +kernel
theorem dX7_begin_87 : decode cX7_begin 87 = .ok (.istore_n 3, 1) := by decide +kernel
theorem dX7_begin_88 : decode cX7_begin 88 = .ok (.iload 6, 2) := by decide +kernel
theorem dX7_begin_90 : decode cX7_begin 90 = .ok (.iload 4, 2) := by decide +kernel
theorem dX7_begin_92 : decode cX7_begin 92 = .ok (.if_icmp .le 8, 3) := by decide +kernel
theorem dX7_begin_95 : decode cX7_begin 95 = .ok (.iload 6, 2) := by decide +kernel
theorem dX7_begin_97 : decode cX7_begin 97 = .ok (.goto 5, 3) := by decide +kernel
theorem dX7_begin_100 : decode cX7_begin 100 = .ok (.iload 4, 2) := by decide +kernel
theorem dX7_begin_102 : decode cX7_begin 102 = .ok (.istore 4, 2) := by decide +kernel
theorem dX7_begin_104 : decode cX7_begin 104 = .ok (.iinc 5 1, 3) := by decide +kernel
theorem dX7_begin_107 : decode cX7_begin 107 = .ok (.goto (-64), 3) := by decide +kernel
theorem dX7_begin_110 : decode cX7_begin 110 = .ok (.iload_n 2, 1) := by decide +kernel
theorem dX7_begin_111 : decode cX7_begin 111 = .ok (.ifCond .ne 7, 3) := by decide +kernel
theorem dX7_begin_114 : decode cX7_begin 114 = .ok (.iload_n 3, 1) := by decide +kernel
theorem dX7_begin_115 : decode cX7_begin 115 = .ok (.goto 5, 3) := by decide +kernel
theorem dX7_begin_118 : decode cX7_begin 118 = .ok (.iload 4, 2) := by decide +kernel
theorem dX7_begin_120 : decode cX7_begin 120 = .ok (.ireturn, 1) := by decide +kernel
theorem dX7_least_0 : decode cX7_least 0 = .ok (.aload_n 0, 1) := by decide +kernel
theorem dX7_least_1 : decode cX7_least 1 = .ok (.invokevirtual 138, 3) := by decide +kernel
theorem dX7_least_4 : decode cX7_least 4 = .ok (.ifCond .ne 6, 3) := by decide +kernel
theorem dX7_least_7 : decode cX7_least 7 = .ok (.ldc 137, 2) := by decide +kernel
theorem dX7_least_9 : decode cX7_least 9 = .ok (.ireturn, 1) := by decide +kernel
theorem dX7_least_10 : decode cX7_least 10 = .ok (.iload_n 1, 1) := by decide +kernel
theorem dX7_least_11 : decode cX7_least 11 = .ok (.i2l, 1) := by decide +kernel
theorem dX7_least_12 : decode cX7_least 12 = .ok (.lconst 1, 1) := by decide +kernel
theorem dX7_least_13 : decode cX7_least 13 = .ok (.ldc2_w 186, 3) := by decide +kernel
theorem dX7_least_16 : decode cX7_least 16 = .ok (.invokestatic 41, 3) := by decide +kernel
theorem dX7_least_19 : decode cX7_least 19 = .ok (.ifCond .ne 6, 3) := by decide +kernel
theorem dX7_least_22 : decode cX7_least 22 = .ok (.ldc 58, 2) := by decide +kernel
theorem dX7_least_24 : decode cX7_least 24 = .ok (.ireturn, 1) := by decide +kernel
theorem dX7_least_25 : decode cX7_least 25 = .ok (.iconst 0, 1) := by decide +kernel
theorem dX7_least_26 : decode cX7_least 26 = .ok (.istore_n 2, 1) := by decide +kernel
theorem dX7_least_27 : decode cX7_least 27 = .ok (.iload_n 2, 1) := by decide +kernel
theorem dX7_least_28 : decode cX7_least 28 = .ok (.bipush 99, 2) := by decide +kernel
theorem dX7_least_30 : decode cX7_least 30 = .ok (.if_icmp .gt 38, 3) := by decide +kernel
theorem dX7_least_33 : decode cX7_least 33 = .ok (.aload_n 0, 1) := by decide +kernel
theorem dX7_least_34 : decode cX7_least 34 = .ok (.invokevirtual 172, 3) := by decide +kernel
theorem dX7_least_37 : decode cX7_least 37 = .ok (.aload_n 0, 1) := by decide +kernel
theorem dX7_least_38 : decode cX7_least 38 = .ok (.getfield 7, 3) := by decide +kernel
theorem dX7_least_41 : decode cX7_least 41 = .ok (.bipush 45, 2) := by decide +kernel
theorem dX7_least_43 : decode cX7_least 43 = .ok (.iload_n 2, 1) := by decide +kernel
theorem dX7_least_44 : decode cX7_least 44 = .ok (.iastore, 1) := by decide +kernel
theorem dX7_least_45 : decode cX7_least 45 = .ok (.aload_n 0, 1) := by decide +kernel
theorem dX7_least_46 : decode cX7_least 46 = .ok (.iload_n 1, 1) := by decide +kernel
theorem dX7_least_47 : decode cX7_least 47 = .ok (.invokevirtual 175, 3) := by decide +kernel
theorem dX7_least_50 : decode cX7_least 50 = .ok (.aload_n 0, 1) := by decide +kernel
theorem dX7_least_51 : decode cX7_least 51 = .ok (.getfield 7, 3) := by decide +kernel
theorem dX7_least_54 : decode cX7_least 54 = .ok (.bipush 45, 2) := by decide +kernel
theorem dX7_least_56 : decode cX7_least 56 = .ok (.iaload, 1) := by decide +kernel
theorem dX7_least_57 : decode cX7_least 57 = .ok (.ifCond .le 5, 3) := by decide +kernel
theorem dX7_least_60 : decode cX7_least 60 = .ok (.iload_n 2, 1) := by decide +kernel
theorem dX7_least_61 : decode cX7_least 61 = .ok (.ireturn, 1) := by decide +kernel
theorem dX7_least_62 : decode cX7_least 62 = .ok (.iinc 2 1, 3) := by decide +kernel
theorem dX7_least_65 : decode cX7_least 65 = .ok (.goto (-38), 3) := by decide +kernel
theorem dX7_least_68 : decode cX7_least 68 = .ok (.ldc 180, 2) := by decide +kernel
theorem dX7_least_70 : decode cX7_least 70 = .ok (.ireturn, 1) := by decide +kernel
theorem dX7_tune_0 : decode cX7_tune 0 = .ok (.aload_n 0, 1) := by decide +kernel
theorem dX7_tune_1 : decode cX7_tune 1 = .ok (.invokevirtual 138, 3) := by decide +kernel
theorem dX7_tune_4 : decode cX7_tune 4 = .ok (.ifCond .ne 6, 3) := by decide +kernel
theorem dX7_tune_7 : decode cX7_tune 7 = .ok (.ldc 137, 2) := by decide +kernel
theorem dX7_tune_9 : decode cX7_tune 9 = .ok (.ireturn, 1) := by decide +kernel
theorem dX7_tune_10 : decode cX7_tune 10 = .ok (.iload_n 1, 1) := by decide +kernel
theorem dX7_tune_11 : decode cX7_tune 11 = .ok (.invokestatic 52, 3) := by decide +kernel
theorem dX7_tune_14 : decode cX7_tune 14 = .ok (.ifCond .eq 15, 3) := by decide +kernel
theorem dX7_tune_17 : decode cX7_tune 17 = .ok (.iload_n 3, 1) := by decide +kernel
theorem dX7_tune_18 : decode cX7_tune 18 = .ok (.i2l, 1) := by decide +kernel
theorem dX7_tune_19 : decode cX7_tune 19 = .ok (.lconst 1, 1) := by decide +kernel
theorem dX7_tune_20 : decode cX7_tune 20 = .ok (.ldc2_w 188, 3) := by decide +kernel
theorem dX7_tune_23 : decode cX7_tune 23 = .ok (.invokestatic 41, 3) := by decide +kernel
theorem dX7_tune_26 : decode cX7_tune 26 = .ok (.ifCond .ne 6, 3) := by decide +kernel
theorem dX7_tune_29 : decode cX7_tune 29 = .ok (.ldc 58, 2) := by decide +kernel
theorem dX7_tune_31 : decode cX7_tune 31 = .ok (.ireturn, 1) := by decide +kernel
theorem dX7_tune_32 : decode cX7_tune 32 = .ok (.aload_n 0, 1) := by decide +kernel
theorem dX7_tune_33 : decode cX7_tune 33 = .ok (.iload_n 1, 1) := by decide +kernel
theorem dX7_tune_34 : decode cX7_tune 34 = .ok (.iload_n 2, 1) := by decide +kernel
theorem dX7_tune_35 : decode cX7_tune 35 = .ok (.iload_n 3, 1) := by decide +kernel
theorem dX7_tune_36 : decode cX7_tune 36 = .ok (.invokevirtual 63, 3) := by decide +kernel
theorem dX7_tune_39 : decode cX7_tune 39 = .ok (.istore 4, 2) := by decide +kernel
theorem dX7_tune_41 : decode cX7_tune 41 = .ok (.iload 4, 2) := by decide +kernel
theorem dX7_tune_43 : decode cX7_tune 43 = .ok (.ifCond .le 10, 3) := by decide +kernel
theorem dX7_tune_46 : decode cX7_tune 46 = .ok (.aload_n 0, 1) := by decide +kernel
theorem dX7_tune_47 : decode cX7_tune 47 = .ok (.iload 4, 2) := by decide +kernel
theorem dX7_tune_49 : decode cX7_tune 49 = .ok (.invokevirtual 59, 3) := by decide +kernel
theorem dX7_tune_52 : decode cX7_tune 52 = .ok (.ireturn, 1) := by decide +kernel
theorem dX7_tune_53 : decode cX7_tune 53 = .ok (.aload_n 0, 1) := by decide +kernel
theorem dX7_tune_54 : decode cX7_tune 54 = .ok (.iconst 0, 1) := by decide +kernel
theorem dX7_tune_55 : decode cX7_tune 55 = .ok (.putfield 47, 3) := by decide +kernel
theorem dX7_tune_58 : decode cX7_tune 58 = .ok (.iconst 0, 1) := by decide +kernel
theorem dX7_tune_59 : decode cX7_tune 59 = .ok (.istore 5, 2) := by decide +kernel
theorem dX7_tune_61 : decode cX7_tune 61 = .ok (.iconst 1, 1) := by decide +kernel
theorem dX7_tune_62 : decode cX7_tune 62 = .ok (.aload_n 0, 1) := by decide +kernel
theorem dX7_tune_63 : decode cX7_tune 63 = .ok (.getfield 7, 3) := by decide +kernel
theorem dX7_tune_66 : decode cX7_tune 66 = .ok (.iconst 0, 1) := by decide +kernel
theorem dX7_tune_67 : decode cX7_tune 67 = .ok (.iaload, 1) := by decide +kernel
theorem dX7_tune_68 : decode cX7_tune 68 = .ok (.ishl, 1) := by decide +kernel
theorem dX7_tune_69 : decode cX7_tune 69 = .ok (.iconst 1, 1) := by decide +kernel
theorem dX7_tune_70 : decode cX7_tune 70 = .ok (.isub, 1) := by decide +kernel
theorem dX7_tune_71 : decode cX7_tune 71 = .ok (.istore 6, 2) := by decide +kernel
theorem dX7_tune_73 : decode cX7_tune 73 = .ok (.iconst 0, 1) := by decide +kernel
theorem dX7_tune_74 : decode cX7_tune 74 = .ok (.istore 7, 2) := by decide +kernel
theorem dX7_tune_76 : decode cX7_tune 76 = .ok (.iload 7, 2) := by decide +kernel
theorem dX7_tune_78 : decode cX7_tune 78 = .ok (.aload_n 0, 1) := by decide +kernel
theorem dX7_tune_79 : decode cX7_tune 79 = .ok (.getfield 7, 3) := by decide +kernel
theorem dX7_tune_82 : decode cX7_tune 82 = .ok (.iconst 1, 1) := by decide +kernel
theorem dX7_tune_83 : decode cX7_tune 83 = .ok (.iaload, 1) := by decide +kernel
theorem dX7_tune_84 : decode cX7_tune 84 = .ok (.if_icmp .ge 97, 3) := by decide +kernel
theorem dX7_tune_87 : decode cX7_tune 87 = .ok (.iconst 1, 1) := by decide +kernel
theorem dX7_tune_88 : decode cX7_tune 88 = .ok (.istore 8, 2) := by decide +kernel
theorem dX7_tune_90 : decode cX7_tune 90 = .ok (.iconst 0, 1) := by decide +kernel
theorem dX7_tune_91 : decode cX7_tune 91 = .ok (.istore 9, 2) := by decide +kernel
theorem dX7_tune_93 : decode cX7_tune 93 = .ok (.iload 9, 2) := by decide +kernel
theorem dX7_tune_95 : decode cX7_tune 95 = .ok (.iload_n 3, 1) := by decide +kernel
theorem dX7_tune_96 : decode cX7_tune 96 = .ok (.if_icmp .ge 61, 3) := by decide +kernel
theorem dX7_tune_99 : decode cX7_tune 99 = .ok (.iload 8, 2) := by decide +kernel
theorem dX7_tune_101 : decode cX7_tune 101 = .ok (.ifCond .eq 47, 3) := by decide +kernel
theorem dX7_tune_104 : decode cX7_tune 104 = .ok (.aload_n 0, 1) := by decide +kernel
theorem dX7_tune_105 : decode cX7_tune 105 = .ok (.getfield 22, 3) := by decide +kernel
theorem dX7_tune_108 : decode cX7_tune 108 = .ok (.bipush 40, 2) := by decide +kernel
theorem dX7_tune_110 : decode cX7_tune 110 = .ok (.iload_n 1, 1) := by decide +kernel
theorem dX7_tune_111 : decode cX7_tune 111 = .ok (.imul, 1) := by decide +kernel
theorem dX7_tune_112 : decode cX7_tune 112 = .ok (.iload_n 2, 1) := by decide +kernel
theorem dX7_tune_113 : decode cX7_tune 113 = .ok (.iadd, 1) := by decide +kernel
theorem dX7_tune_114 : decode cX7_tune 114 = .ok (.iload 9, 2) := by decide +kernel
theorem dX7_tune_116 : decode cX7_tune 116 = .ok (.iadd, 1) := by decide +kernel
theorem dX7_tune_117 : decode cX7_tune 117 = .ok (.iaload, 1) := by decide +kernel
theorem dX7_tune_118 : decode cX7_tune 118 = .ok (.aload_n 0, 1) := by decide +kernel
theorem dX7_tune_119 : decode cX7_tune 119 = .ok (.getfield 7, 3) := by decide +kernel
theorem dX7_tune_122 : decode cX7_tune 122 = .ok (.bipush 30, 2) := by decide +kernel
theorem dX7_tune_124 : decode cX7_tune 124 = .ok (.iload 7, 2) := by decide +kernel
theorem dX7_tune_126 : decode cX7_tune 126 = .ok (.iload 9, 2) := by decide +kernel
theorem dX7_tune_128 : decode cX7_tune 128 = .ok (.iadd, 1) := by decide +kernel
theorem dX7_tune_129 : decode cX7_tune 129 = .ok (.aload_n 0, 1) := by decide +kernel
theorem dX7_tune_130 : decode cX7_tune 130 = .ok (.getfield 7, 3) := by decide +kernel
theorem dX7_tune_133 : decode cX7_tune 133 = .ok (.iconst 1, 1) := by decide +kernel
theorem dX7_tune_134 : decode cX7_tune 134 = .ok (.iaload, 1) := by decide +kernel
theorem dX7_tune_135 : decode cX7_tune 135 = .ok (.irem, 1) := by decide +kernel
theorem dX7_tune_136 : decode cX7_tune 136 = .ok (.iadd, 1) := by decide +kernel
theorem dX7_tune_137 : decode cX7_tune 137 = .ok (.iaload, 1) := by decide +kernel
theorem dX7_tune_138 : decode cX7_tune 138 = .ok (.iload 6, 2) := by decide +kernel
theorem dX7_tune_140 : decode cX7_tune 140 = .ok (.iand, 1) := by decide +kernel
theorem dX7_tune_141 : decode cX7_tune 141 = .ok (.if_icmp .ne 7, 3) := by decide +kernel
theorem dX7_tune_144 : decode cX7_tune 144 = .ok (.iconst 1, 1) := by decide +kernel
theorem dX7_tune_145 : decode cX7_tune 145 = .ok (.goto 4, 3) := by decide +kernel
theorem dX7_tune_148 : decode cX7_tune 148 = .ok (.iconst 0, 1) := by decide +kernel
theorem dX7_tune_149 : decode cX7_tune 149 = .ok (.istore 8, 2) := by decide +kernel
theorem dX7_tune_151 : decode cX7_tune 151 = .ok (.iinc 9 1, 3) := by decide +kernel
theorem dX7_tune_154 : decode cX7_tune 154 = .ok (.goto (-61), 3) := by decide +kernel
theorem dX7_tune_157 : decode cX7_tune 157 = .ok (.iload 5, 2) := by decide +kernel
theorem dX7_tune_159 : decode cX7_tune 159 = .ok (.iload 8, 2) := by decide +kernel
theorem dX7_tune_161 : decode cX7_tune 161 = .ok (.ifCond .eq 10, 3) := by decide +kernel
theorem dX7_tune_164 : decode cX7_tune 164 = .ok (.iconst 1, 1) := by decide +kernel
theorem dX7_tune_165 : decode cX7_tune 165 = .ok (.iload 7, 2) := by decide +kernel
theorem dX7_tune_167 : decode cX7_tune 167 = .ok (.ishl, 1) := by decide +kernel
theorem dX7_tune_168 : decode cX7_tune 168 = .ok (.goto 4, 3) := by decide +kernel
theorem dX7_tune_171 : decode cX7_tune 171 = .ok (.iconst 0, 1) := by decide +kernel
theorem dX7_tune_172 : decode cX7_tune 172 = .ok (.ior, 1) := by decide +kernel
theorem dX7_tune_173 : decode cX7_tune 173 = .ok (.istore 5, 2) := by decide +kernel
theorem dX7_tune_175 : decode cX7_tune 175 = .ok (.iinc 7 1, 3) := by decide +kernel
theorem dX7_tune_178 : decode cX7_tune 178 = .ok (.goto (-102), 3) := by decide +kernel
theorem dX7_tune_181 : decode cX7_tune 181 = .ok (.iload 5, 2) := by decide +kernel
theorem dX7_tune_183 : decode cX7_tune 183 = .ok (.ireturn, 1) := by decide +kernel
theorem dX7_sets_0 : decode cX7_sets 0 = .ok (.aload_n 0, 1) := by decide +kernel
theorem dX7_sets_1 : decode cX7_sets 1 = .ok (.invokevirtual 138, 3) := by decide +kernel
theorem dX7_sets_4 : decode cX7_sets 4 = .ok (.ifCond .ne 6, 3) := by decide +kernel
theorem dX7_sets_7 : decode cX7_sets 7 = .ok (.ldc 137, 2) := by decide +kernel
theorem dX7_sets_9 : decode cX7_sets 9 = .ok (.ireturn, 1) := by decide +kernel
theorem dX7_sets_10 : decode cX7_sets 10 = .ok (.iload_n 1, 1) := by decide +kernel
theorem dX7_sets_11 : decode cX7_sets 11 = .ok (.i2l, 1) := by decide +kernel
theorem dX7_sets_12 : decode cX7_sets 12 = .ok (.lconst 0, 1) := by decide +kernel
theorem dX7_sets_13 : decode cX7_sets 13 = .ok (.ldc2_w 152, 3) := by decide +kernel
theorem dX7_sets_16 : decode cX7_sets 16 = .ok (.invokestatic 41, 3) := by decide +kernel
theorem dX7_sets_19 : decode cX7_sets 19 = .ok (.ifCond .eq 15, 3) := by decide +kernel
theorem dX7_sets_22 : decode cX7_sets 22 = .ok (.iload_n 2, 1) := by decide +kernel
theorem dX7_sets_23 : decode cX7_sets 23 = .ok (.i2l, 1) := by decide +kernel
theorem dX7_sets_24 : decode cX7_sets 24 = .ok (.lconst 0, 1) := by decide +kernel
theorem dX7_sets_25 : decode cX7_sets 25 = .ok (.ldc2_w 56, 3) := by decide +kernel
theorem dX7_sets_28 : decode cX7_sets 28 = .ok (.invokestatic 41, 3) := by decide +kernel
theorem dX7_sets_31 : decode cX7_sets 31 = .ok (.ifCond .ne 6, 3) := by decide +kernel
theorem dX7_sets_34 : decode cX7_sets 34 = .ok (.ldc 58, 2) := by decide +kernel
theorem dX7_sets_36 : decode cX7_sets 36 = .ok (.ireturn, 1) := by decide +kernel
theorem dX7_sets_37 : decode cX7_sets 37 = .ok (.iconst 0, 1) := by decide +kernel
theorem dX7_sets_38 : decode cX7_sets 38 = .ok (.istore_n 3, 1) := by decide +kernel
theorem dX7_sets_39 : decode cX7_sets 39 = .ok (.iconst 1, 1) := by decide +kernel
theorem dX7_sets_40 : decode cX7_sets 40 = .ok (.aload_n 0, 1) := by decide +kernel
theorem dX7_sets_41 : decode cX7_sets 41 = .ok (.getfield 7, 3) := by decide +kernel
theorem dX7_sets_44 : decode cX7_sets 44 = .ok (.iconst 0, 1) := by decide +kernel
theorem dX7_sets_45 : decode cX7_sets 45 = .ok (.iaload, 1) := by decide +kernel
theorem dX7_sets_46 : decode cX7_sets 46 = .ok (.ishl, 1) := by decide +kernel
theorem dX7_sets_47 : decode cX7_sets 47 = .ok (.iconst 1, 1) := by decide +kernel
theorem dX7_sets_48 : decode cX7_sets 48 = .ok (.isub, 1) := by decide +kernel
theorem dX7_sets_49 : decode cX7_sets 49 = .ok (.istore 4, 2) := by decide +kernel
theorem dX7_sets_51 : decode cX7_sets 51 = .ok (.iconst 0, 1) := by decide +kernel
theorem dX7_sets_52 : decode cX7_sets 52 = .ok (.istore 5, 2) := by decide +kernel
theorem dX7_sets_54 : decode cX7_sets 54 = .ok (.iconst 0, 1) := by decide +kernel
theorem dX7_sets_55 : decode cX7_sets 55 = .ok (.istore 6, 2) := by decide +kernel
theorem dX7_sets_57 : decode cX7_sets 57 = .ok (.iload 6, 2) := by decide +kernel
theorem dX7_sets_59 : decode cX7_sets 59 = .ok (.iconst 1, 1) := by decide +kernel
theorem dX7_sets_60 : decode cX7_sets 60 = .ok (.aload_n 0, 1) := by decide +kernel
theorem dX7_sets_61 : decode cX7_sets 61 = .ok (.getfield 7, 3) := by decide +kernel
theorem dX7_sets_64 : decode cX7_sets 64 = .ok (.iconst 0, 1) := by decide +kernel
theorem dX7_sets_65 : decode cX7_sets 65 = .ok (.iaload, 1) := by decide +kernel
theorem dX7_sets_66 : decode cX7_sets 66 = .ok (.ishl, 1) := by decide +kernel
theorem dX7_sets_67 : decode cX7_sets 67 = .ok (.if_icmp .ge 97, 3) := by decide +kernel
theorem dX7_sets_70 : decode cX7_sets 70 = .ok (.iconst 0, 1) := by decide +kernel
theorem dX7_sets_71 : decode cX7_sets 71 = .ok (.istore 7, 2) := by decide +kernel
theorem dX7_sets_73 : decode cX7_sets 73 = .ok (.iconst 0, 1) := by decide +kernel
theorem dX7_sets_74 : decode cX7_sets 74 = .ok (.istore 8, 2) := by decide +kernel
theorem dX7_sets_76 : decode cX7_sets 76 = .ok (.iload 8, 2) := by decide +kernel
theorem dX7_sets_78 : decode cX7_sets 78 = .ok (.aload_n 0, 1) := by decide +kernel
theorem dX7_sets_79 : decode cX7_sets 79 = .ok (.getfield 7, 3) := by decide +kernel
theorem dX7_sets_82 : decode cX7_sets 82 = .ok (.iconst 0, 1) := by decide +kernel
theorem dX7_sets_83 : decode cX7_sets 83 = .ok (.iaload, 1) := by decide +kernel
theorem dX7_sets_84 : decode cX7_sets 84 = .ok (.if_icmp .ge 38, 3) := by decide +kernel
theorem dX7_sets_87 : decode cX7_sets 87 = .ok (.iload 7, 2) := by decide +kernel
theorem dX7_sets_89 : decode cX7_sets 89 = .ok (.iload 6, 2) := by decide +kernel
theorem dX7_sets_91 : decode cX7_sets 91 = .ok (.iload 8, 2) := by decide +kernel
theorem dX7_sets_93 : decode cX7_sets 93 = .ok (.invokestatic 127, 3) := by decide +kernel
theorem dX7_sets_96 : decode cX7_sets 96 = .ok (.ifCond .eq 16, 3) := by decide +kernel
theorem dX7_sets_99 : decode cX7_sets 99 = .ok (.aload_n 0, 1) := by decide +kernel
theorem dX7_sets_100 : decode cX7_sets 100 = .ok (.getfield 7, 3) := by decide +kernel
theorem dX7_sets_103 : decode cX7_sets 103 = .ok (.bipush 18, 2) := by decide +kernel
theorem dX7_sets_105 : decode cX7_sets 105 = .ok (.iload 8, 2) := by decide +kernel
theorem dX7_sets_107 : decode cX7_sets 107 = .ok (.iadd, 1) := by decide +kernel
theorem dX7_sets_108 : decode cX7_sets 108 = .ok (.iaload, 1) := by decide +kernel
theorem dX7_sets_109 : decode cX7_sets 109 = .ok (.goto 4, 3) := by decide +kernel
theorem dX7_sets_112 : decode cX7_sets 112 = .ok (.iconst 0, 1) := by decide +kernel
theorem dX7_sets_113 : decode cX7_sets 113 = .ok (.iadd, 1) := by decide +kernel
theorem dX7_sets_114 : decode cX7_sets 114 = .ok (.istore 7, 2) := by decide +kernel
theorem dX7_sets_116 : decode cX7_sets 116 = .ok (.iinc 8 1, 3) := by decide +kernel
theorem dX7_sets_119 : decode cX7_sets 119 = .ok (.goto (-43), 3) := by decide +kernel
theorem dX7_sets_122 : decode cX7_sets 122 = .ok (.iload 7, 2) := by decide +kernel
theorem dX7_sets_124 : decode cX7_sets 124 = .ok (.iload_n 1, 1) := by decide +kernel
theorem dX7_sets_125 : decode cX7_sets 125 = .ok (.if_icmp .ne 33, 3) := by decide +kernel
theorem dX7_sets_128 : decode cX7_sets 128 = .ok (.iload 6, 2) := by decide +kernel
theorem dX7_sets_130 : decode cX7_sets 130 = .ok (.aload_n 0, 1) := by decide +kernel
theorem dX7_sets_131 : decode cX7_sets 131 = .ok (.iconst 0, 1) := by decide +kernel
theorem dX7_sets_132 : decode cX7_sets 132 = .ok (.invokevirtual 167, 3) := by decide +kernel
theorem dX7_sets_135 : decode cX7_sets 135 = .ok (.iconst (-1), 1) := by decide +kernel
theorem dX7_sets_136 : decode cX7_sets 136 = .ok (.ixor, 1) := by decide +kernel
theorem dX7_sets_137 : decode cX7_sets 137 = .ok (.iand, 1) := by decide +kernel
theorem dX7_sets_138 : decode cX7_sets 138 = .ok (.ifCond .ne 20, 3) := by decide +kernel
theorem dX7_sets_141 : decode cX7_sets 141 = .ok (.iinc 3 1, 3) := by decide +kernel
theorem dX7_sets_144 : decode cX7_sets 144 = .ok (.iload 4, 2) := by decide +kernel
theorem dX7_sets_146 : decode cX7_sets 146 = .ok (.iload 6, 2) := by decide +kernel
theorem dX7_sets_148 : decode cX7_sets 148 = .ok (.iand, 1) := by decide +kernel
theorem dX7_sets_149 : decode cX7_sets 149 = .ok (.istore 4, 2) := by decide +kernel
theorem dX7_sets_151 : decode cX7_sets 151 = .ok (.iload 5, 2) := by decide +kernel
theorem dX7_sets_153 : decode cX7_sets 153 = .ok (.iload 6, 2) := by decide +kernel
theorem dX7_sets_155 : decode cX7_sets 155 = .ok (.ior, 1) := by decide +kernel
theorem dX7_sets_156 : decode cX7_sets 156 = .ok (.istore 5, 2) := by decide +kernel
theorem dX7_sets_158 : decode cX7_sets 158 = .ok (.iinc 6 1, 3) := by decide +kernel
theorem dX7_sets_161 : decode cX7_sets 161 = .ok (.goto (-104), 3) := by decide +kernel
theorem dX7_sets_164 : decode cX7_sets 164 = .ok (.iload_n 2, 1) := by decide +kernel
theorem dX7_sets_165 : decode cX7_sets 165 = .ok (.ifCond .ne 7, 3) := by decide +kernel
theorem dX7_sets_168 : decode cX7_sets 168 = .ok (.iload_n 3, 1) := by decide +kernel
theorem dX7_sets_169 : decode cX7_sets 169 = .ok (.goto 23, 3) := by decide +kernel
theorem dX7_sets_172 : decode cX7_sets 172 = .ok (.iload_n 2, 1) := by decide +kernel
theorem dX7_sets_173 : decode cX7_sets 173 = .ok (.iconst 2, 1) := by decide +kernel
theorem dX7_sets_174 : decode cX7_sets 174 = .ok (.if_icmp .ne 8, 3) := by decide +kernel
theorem dX7_sets_177 : decode cX7_sets 177 = .ok (.iload 5, 2) := by decide +kernel
theorem dX7_sets_179 : decode cX7_sets 179 = .ok (.goto 13, 3) := by decide +kernel
theorem dX7_sets_182 : decode cX7_sets 182 = .ok (.iload_n 3, 1) := by decide +kernel
theorem dX7_sets_183 : decode cX7_sets 183 = .ok (.ifCond .ne 7, 3) := by decide +kernel
theorem dX7_sets_186 : decode cX7_sets 186 = .ok (.iconst 0, 1) := by decide +kernel
theorem dX7_sets_187 : decode cX7_sets 187 = .ok (.goto 5, 3) := by decide +kernel
theorem dX7_sets_190 : decode cX7_sets 190 = .ok (.iload 4, 2) := by decide +kernel
theorem dX7_sets_192 : decode cX7_sets 192 = .ok (.ireturn, 1) := by decide +kernel
theorem dX7_share_0 : decode cX7_share 0 = .ok (.aload_n 0, 1) := by decide +kernel
theorem dX7_share_1 : decode cX7_share 1 = .ok (.iload_n 1, 1) := by decide +kernel
theorem dX7_share_2 : decode cX7_share 2 = .ok (.invokevirtual 157, 3) := by decide +kernel
theorem dX7_share_5 : decode cX7_share 5 = .ok (.ifCond .eq 15, 3) := by decide +kernel
theorem dX7_share_8 : decode cX7_share 8 = .ok (.iload_n 2, 1) := by decide +kernel
theorem dX7_share_9 : decode cX7_share 9 = .ok (.i2l, 1) := by decide +kernel
theorem dX7_share_10 : decode cX7_share 10 = .ok (.lconst 0, 1) := by decide +kernel
theorem dX7_share_11 : decode cX7_share 11 = .ok (.ldc2_w 190, 3) := by decide +kernel
theorem dX7_share_14 : decode cX7_share 14 = .ok (.invokestatic 41, 3) := by decide +kernel
theorem dX7_share_17 : decode cX7_share 17 = .ok (.ifCond .ne 6, 3) := by decide +kernel
theorem dX7_share_20 : decode cX7_share 20 = .ok (.ldc 58, 2) := by decide +kernel
theorem dX7_share_22 : decode cX7_share 22 = .ok (.ireturn, 1) := by decide +kernel
theorem dX7_share_23 : decode cX7_share 23 = .ok (.iconst 0, 1) := by decide +kernel
theorem dX7_share_24 : decode cX7_share 24 = .ok (.istore_n 3, 1) := by decide +kernel
theorem dX7_share_25 : decode cX7_share 25 = .ok (.iconst 0, 1) := by decide +kernel
theorem dX7_share_26 : decode cX7_share 26 = .ok (.istore 4, 2) := by decide +kernel
theorem dX7_share_28 : decode cX7_share 28 = .ok (.iload 4, 2) := by decide +kernel
theorem dX7_share_30 : decode cX7_share 30 = .ok (.aload_n 0, 1) := by decide +kernel
theorem dX7_share_31 : decode cX7_share 31 = .ok (.getfield 7, 3) := by decide +kernel
theorem dX7_share_34 : decode cX7_share 34 = .ok (.iconst 0, 1) := by decide +kernel
theorem dX7_share_35 : decode cX7_share 35 = .ok (.iaload, 1) := by decide +kernel
theorem dX7_share_36 : decode cX7_share 36 = .ok (.if_icmp .ge 40, 3) := by decide +kernel
theorem dX7_share_39 : decode cX7_share 39 = .ok (.iload_n 3, 1) := by decide +kernel
theorem dX7_share_40 : decode cX7_share 40 = .ok (.aload_n 0, 1) := by decide +kernel
theorem dX7_share_41 : decode cX7_share 41 = .ok (.getfield 7, 3) := by decide +kernel
theorem dX7_share_44 : decode cX7_share 44 = .ok (.iconst 5, 1) := by decide +kernel
theorem dX7_share_45 : decode cX7_share 45 = .ok (.iaload, 1) := by decide +kernel
theorem dX7_share_46 : decode cX7_share 46 = .ok (.iload 4, 2) := by decide +kernel
theorem dX7_share_48 : decode cX7_share 48 = .ok (.invokestatic 127, 3) := by decide +kernel
theorem dX7_share_51 : decode cX7_share 51 = .ok (.ifCond .eq 7, 3) := by decide +kernel
theorem dX7_share_54 : decode cX7_share 54 = .ok (.iconst 0, 1) := by decide +kernel
theorem dX7_share_55 : decode cX7_share 55 = .ok (.goto 13, 3) := by decide +kernel
theorem dX7_share_58 : decode cX7_share 58 = .ok (.aload_n 0, 1) := by decide +kernel
theorem dX7_share_59 : decode cX7_share 59 = .ok (.getfield 7, 3) := by decide +kernel
theorem dX7_share_62 : decode cX7_share 62 = .ok (.bipush 24, 2) := by decide +kernel
theorem dX7_share_64 : decode cX7_share 64 = .ok (.iload 4, 2) := by decide +kernel
theorem dX7_share_66 : decode cX7_share 66 = .ok (.iadd, 1) := by decide +kernel
theorem dX7_share_67 : decode cX7_share 67 = .ok (.iaload, 1) := by decide +kernel
theorem dX7_share_68 : decode cX7_share 68 = .ok (.iadd, 1) := by decide +kernel
theorem dX7_share_69 : decode cX7_share 69 = .ok (.istore_n 3, 1) := by decide +kernel
theorem dX7_share_70 : decode cX7_share 70 = .ok (.iinc 4 1, 3) := by decide +kernel
theorem dX7_share_73 : decode cX7_share 73 = .ok (.goto (-45), 3) := by decide +kernel
theorem dX7_share_76 : decode cX7_share 76 = .ok (.aload_n 0, 1) := by decide +kernel
theorem dX7_share_77 : decode cX7_share 77 = .ok (.getfield 7, 3) := by decide +kernel
theorem dX7_share_80 : decode cX7_share 80 = .ok (.iconst 5, 1) := by decide +kernel
theorem dX7_share_81 : decode cX7_share 81 = .ok (.iaload, 1) := by decide +kernel
theorem dX7_share_82 : decode cX7_share 82 = .ok (.iload_n 1, 1) := by decide +kernel
theorem dX7_share_83 : decode cX7_share 83 = .ok (.invokestatic 127, 3) := by decide +kernel
theorem dX7_share_86 : decode cX7_share 86 = .ok (.ifCond .ne 15, 3) := by decide +kernel
theorem dX7_share_89 : decode cX7_share 89 = .ok (.aload_n 0, 1) := by decide +kernel
theorem dX7_share_90 : decode cX7_share 90 = .ok (.getfield 7, 3) := by decide +kernel
theorem dX7_share_93 : decode cX7_share 93 = .ok (.bipush 24, 2) := by decide +kernel
theorem dX7_share_95 : decode cX7_share 95 = .ok (.iload_n 1, 1) := by decide +kernel
theorem dX7_share_96 : decode cX7_share 96 = .ok (.iadd, 1) := by decide +kernel
theorem dX7_share_97 : decode cX7_share 97 = .ok (.iaload, 1) := by decide +kernel
theorem dX7_share_98 : decode cX7_share 98 = .ok (.ifCond .ne 5, 3) := by decide +kernel
theorem dX7_share_101 : decode cX7_share 101 = .ok (.iconst 0, 1) := by decide +kernel
theorem dX7_share_102 : decode cX7_share 102 = .ok (.ireturn, 1) := by decide +kernel
theorem dX7_share_103 : decode cX7_share 103 = .ok (.iload_n 2, 1) := by decide +kernel
theorem dX7_share_104 : decode cX7_share 104 = .ok (.istore 4, 2) := by decide +kernel
theorem dX7_share_106 : decode cX7_share 106 = .ok (.iconst 0, 1) := by decide +kernel
theorem dX7_share_107 : decode cX7_share 107 = .ok (.istore 5, 2) := by decide +kernel
theorem dX7_share_109 : decode cX7_share 109 = .ok (.iconst 0, 1) := by decide +kernel
theorem dX7_share_110 : decode cX7_share 110 = .ok (.istore 6, 2) := by decide +kernel
theorem dX7_share_112 : decode cX7_share 112 = .ok (.iload 6, 2) := by decide +kernel
theorem dX7_share_114 : decode cX7_share 114 = .ok (.aload_n 0, 1) := by decide +kernel
theorem dX7_share_115 : decode cX7_share 115 = .ok (.getfield 7, 3) := by decide +kernel
theorem dX7_share_118 : decode cX7_share 118 = .ok (.iconst 0, 1) := by decide +kernel
theorem dX7_share_119 : decode cX7_share 119 = .ok (.iaload, 1) := by decide +kernel
theorem dX7_share_120 : decode cX7_share 120 = .ok (.if_icmp .ge 71, 3) := by decide +kernel
theorem dX7_share_123 : decode cX7_share 123 = .ok (.aload_n 0, 1) := by decide +kernel
theorem dX7_share_124 : decode cX7_share 124 = .ok (.getfield 7, 3) := by decide +kernel
theorem dX7_share_127 : decode cX7_share 127 = .ok (.iconst 5, 1) := by decide +kernel
theorem dX7_share_128 : decode cX7_share 128 = .ok (.iaload, 1) := by decide +kernel
theorem dX7_share_129 : decode cX7_share 129 = .ok (.iload 6, 2) := by decide +kernel
theorem dX7_share_131 : decode cX7_share 131 = .ok (.invokestatic 127, 3) := by decide +kernel
theorem dX7_share_134 : decode cX7_share 134 = .ok (.ifCond .eq 7, 3) := by decide +kernel
theorem dX7_share_137 : decode cX7_share 137 = .ok (.iconst 0, 1) := by decide +kernel
theorem dX7_share_138 : decode cX7_share 138 = .ok (.goto 13, 3) := by decide +kernel
theorem dX7_share_141 : decode cX7_share 141 = .ok (.aload_n 0, 1) := by decide +kernel
theorem dX7_share_142 : decode cX7_share 142 = .ok (.getfield 7, 3) := by decide +kernel
theorem dX7_share_145 : decode cX7_share 145 = .ok (.bipush 24, 2) := by decide +kernel
theorem dX7_share_147 : decode cX7_share 147 = .ok (.iload 6, 2) := by decide +kernel
theorem dX7_share_149 : decode cX7_share 149 = .ok (.iadd, 1) := by decide +kernel
theorem dX7_share_150 : decode cX7_share 150 = .ok (.iaload, 1) := by decide +kernel
theorem dX7_share_151 : decode cX7_share 151 = .ok (.istore 7, 2) := by decide +kernel
theorem dX7_share_153 : decode cX7_share 153 = .ok (.iload 4, 2) := by decide +kernel
theorem dX7_share_155 : decode cX7_share 155 = .ok (.iload_n 2, 1) := by decide +kernel
theorem dX7_share_156 : decode cX7_share 156 = .ok (.iload 7, 2) := by decide +kernel
theorem dX7_share_158 : decode cX7_share 158 = .ok (.imul, 1) := by decide +kernel
theorem dX7_share_159 : decode cX7_share 159 = .ok (.iload_n 3, 1) := by decide +kernel
theorem dX7_share_160 : decode cX7_share 160 = .ok (.idiv, 1) := by decide +kernel
theorem dX7_share_161 : decode cX7_share 161 = .ok (.isub, 1) := by decide +kernel
theorem dX7_share_162 : decode cX7_share 162 = .ok (.istore 4, 2) := by decide +kernel
theorem dX7_share_164 : decode cX7_share 164 = .ok (.iload 5, 2) := by decide +kernel
theorem dX7_share_166 : decode cX7_share 166 = .ok (.iload 6, 2) := by decide +kernel
theorem dX7_share_168 : decode cX7_share 168 = .ok (.iload_n 1, 1) := by decide +kernel
theorem dX7_share_169 : decode cX7_share 169 = .ok (.if_icmp .ge 12, 3) := by decide +kernel
theorem dX7_share_172 : decode cX7_share 172 = .ok (.iload 7, 2) := by decide +kernel
theorem dX7_share_174 : decode cX7_share 174 = .ok (.ifCond .le 7, 3) := by decide +kernel
theorem dX7_share_177 : decode cX7_share 177 = .ok (.iconst 1, 1) := by decide +kernel
theorem dX7_share_178 : decode cX7_share 178 = .ok (.goto 4, 3) := by decide +kernel
theorem dX7_share_181 : decode cX7_share 181 = .ok (.iconst 0, 1) := by decide +kernel
theorem dX7_share_182 : decode cX7_share 182 = .ok (.iadd, 1) := by decide +kernel
theorem dX7_share_183 : decode cX7_share 183 = .ok (.istore 5, 2) := by decide +kernel
theorem dX7_share_185 : decode cX7_share 185 = .ok (.iinc 6 1, 3) := by decide +kernel
theorem dX7_share_188 : decode cX7_share 188 = .ok (.goto (-76), 3) := by decide +kernel
theorem dX7_share_191 : decode cX7_share 191 = .ok (.iload_n 2, 1) := by decide +kernel
theorem dX7_share_192 : decode cX7_share 192 = .ok (.aload_n 0, 1) := by decide +kernel
theorem dX7_share_193 : decode cX7_share 193 = .ok (.getfield 7, 3) := by decide +kernel
theorem dX7_share_196 : decode cX7_share 196 = .ok (.bipush 24, 2) := by decide +kernel
theorem dX7_share_198 : decode cX7_share 198 = .ok (.iload_n 1, 1) := by decide +kernel
theorem dX7_share_199 : decode cX7_share 199 = .ok (.iadd, 1) := by decide +kernel
theorem dX7_share_200 : decode cX7_share 200 = .ok (.iaload, 1) := by decide +kernel
theorem dX7_share_201 : decode cX7_share 201 = .ok (.imul, 1) := by decide +kernel
theorem dX7_share_202 : decode cX7_share 202 = .ok (.iload_n 3, 1) := by decide +kernel
theorem dX7_share_203 : decode cX7_share 203 = .ok (.idiv, 1) := by decide +kernel
theorem dX7_share_204 : decode cX7_share 204 = .ok (.iload 5, 2) := by decide +kernel
theorem dX7_share_206 : decode cX7_share 206 = .ok (.iload 4, 2) := by decide +kernel
theorem dX7_share_208 : decode cX7_share 208 = .ok (.if_icmp .ge 7, 3) := by decide +kernel
theorem dX7_share_211 : decode cX7_share 211 = .ok (.iconst 1, 1) := by decide +kernel
theorem dX7_share_212 : decode cX7_share 212 = .ok (.goto 4, 3) := by decide +kernel
theorem dX7_share_215 : decode cX7_share 215 = .ok (.iconst 0, 1) := by decide +kernel
theorem dX7_share_216 : decode cX7_share 216 = .ok (.iadd, 1) := by decide +kernel
theorem dX7_share_217 : decode cX7_share 217 = .ok (.ireturn, 1) := by decide +kernel
theorem dX7_loudBy_0 : decode cX7_loudBy 0 = .ok (.aload_n 0, 1) := by decide +kernel
theorem dX7_loudBy_1 : decode cX7_loudBy 1 = .ok (.invokevirtual 172, 3) := by decide +kernel
theorem dX7_loudBy_4 : decode cX7_loudBy 4 = .ok (.aload_n 0, 1) := by decide +kernel
theorem dX7_loudBy_5 : decode cX7_loudBy 5 = .ok (.getfield 7, 3) := by decide +kernel
theorem dX7_loudBy_8 : decode cX7_loudBy 8 = .ok (.iconst 3, 1) := by decide +kernel
theorem dX7_loudBy_9 : decode cX7_loudBy 9 = .ok (.iaload, 1) := by decide +kernel
theorem dX7_loudBy_10 : decode cX7_loudBy 10 = .ok (.iconst 1, 1) := by decide +kernel
theorem dX7_loudBy_11 : decode cX7_loudBy 11 = .ok (.iadd, 1) := by decide +kernel
theorem dX7_loudBy_12 : decode cX7_loudBy 12 = .ok (.aload_n 0, 1) := by decide +kernel
theorem dX7_loudBy_13 : decode cX7_loudBy 13 = .ok (.getfield 7, 3) := by decide +kernel
theorem dX7_loudBy_16 : decode cX7_loudBy 16 = .ok (.iconst 1, 1) := by decide +kernel
theorem dX7_loudBy_17 : decode cX7_loudBy 17 = .ok (.iaload, 1) := by decide +kernel
theorem dX7_loudBy_18 : decode cX7_loudBy 18 = .ok (.irem, 1) := by decide +kernel
theorem dX7_loudBy_19 : decode cX7_loudBy 19 = .ok (.istore 4, 2) := by decide +kernel
theorem dX7_loudBy_21 : decode cX7_loudBy 21 = .ok (.aload_n 0, 1) := by decide +kernel
theorem dX7_loudBy_22 : decode cX7_loudBy 22 = .ok (.getfield 7, 3) := by decide +kernel
theorem dX7_loudBy_25 : decode cX7_loudBy 25 = .ok (.bipush 73, 2) := by decide +kernel
theorem dX7_loudBy_27 : decode cX7_loudBy 27 = .ok (.iload 4, 2) := by decide +kernel
theorem dX7_loudBy_29 : decode cX7_loudBy 29 = .ok (.iadd, 1) := by decide +kernel
theorem dX7_loudBy_30 : decode cX7_loudBy 30 = .ok (.dup2, 1) := by decide +kernel
theorem dX7_loudBy_31 : decode cX7_loudBy 31 = .ok (.iaload, 1) := by decide +kernel
theorem dX7_loudBy_32 : decode cX7_loudBy 32 = .ok (.iload_n 1, 1) := by decide +kernel
theorem dX7_loudBy_33 : decode cX7_loudBy 33 = .ok (.ixor, 1) := by decide +kernel
theorem dX7_loudBy_34 : decode cX7_loudBy 34 = .ok (.iastore, 1) := by decide +kernel
theorem dX7_loudBy_35 : decode cX7_loudBy 35 = .ok (.iconst 0, 1) := by decide +kernel
theorem dX7_loudBy_36 : decode cX7_loudBy 36 = .ok (.istore 5, 2) := by decide +kernel
theorem dX7_loudBy_38 : decode cX7_loudBy 38 = .ok (.iload 5, 2) := by decide +kernel
theorem dX7_loudBy_40 : decode cX7_loudBy 40 = .ok (.iload_n 2, 1) := by decide +kernel
theorem dX7_loudBy_41 : decode cX7_loudBy 41 = .ok (.if_icmp .ge 44, 3) := by decide +kernel
theorem dX7_loudBy_44 : decode cX7_loudBy 44 = .ok (.aload_n 0, 1) := by decide +kernel
theorem dX7_loudBy_45 : decode cX7_loudBy 45 = .ok (.getfield 7, 3) := by decide +kernel
theorem dX7_loudBy_48 : decode cX7_loudBy 48 = .ok (.bipush 45, 2) := by decide +kernel
theorem dX7_loudBy_50 : decode cX7_loudBy 50 = .ok (.aload_n 0, 1) := by decide +kernel
theorem dX7_loudBy_51 : decode cX7_loudBy 51 = .ok (.getfield 7, 3) := by decide +kernel
theorem dX7_loudBy_54 : decode cX7_loudBy 54 = .ok (.bipush 45, 2) := by decide +kernel
theorem dX7_loudBy_56 : decode cX7_loudBy 56 = .ok (.iaload, 1) := by decide +kernel
theorem dX7_loudBy_57 : decode cX7_loudBy 57 = .ok (.iconst 2, 1) := by decide +kernel
theorem dX7_loudBy_58 : decode cX7_loudBy 58 = .ok (.iadd, 1) := by decide +kernel
theorem dX7_loudBy_59 : decode cX7_loudBy 59 = .ok (.bipush 99, 2) := by decide +kernel
theorem dX7_loudBy_61 : decode cX7_loudBy 61 = .ok (.if_icmp .le 8, 3) := by decide +kernel
theorem dX7_loudBy_64 : decode cX7_loudBy 64 = .ok (.bipush 99, 2) := by decide +kernel
theorem dX7_loudBy_66 : decode cX7_loudBy 66 = .ok (.goto 12, 3) := by decide +kernel
theorem dX7_loudBy_69 : decode cX7_loudBy 69 = .ok (.aload_n 0, 1) := by decide +kernel
theorem dX7_loudBy_70 : decode cX7_loudBy 70 = .ok (.getfield 7, 3) := by decide +kernel
theorem dX7_loudBy_73 : decode cX7_loudBy 73 = .ok (.bipush 45, 2) := by decide +kernel
theorem dX7_loudBy_75 : decode cX7_loudBy 75 = .ok (.iaload, 1) := by decide +kernel
theorem dX7_loudBy_76 : decode cX7_loudBy 76 = .ok (.iconst 2, 1) := by decide +kernel
theorem dX7_loudBy_77 : decode cX7_loudBy 77 = .ok (.iadd, 1) := by decide +kernel
theorem dX7_loudBy_78 : decode cX7_loudBy 78 = .ok (.iastore, 1) := by decide +kernel
theorem dX7_loudBy_79 : decode cX7_loudBy 79 = .ok (.iinc 5 1, 3) := by decide +kernel
theorem dX7_loudBy_82 : decode cX7_loudBy 82 = .ok (.goto (-44), 3) := by decide +kernel
theorem dX7_loudBy_85 : decode cX7_loudBy 85 = .ok (.aload_n 0, 1) := by decide +kernel
theorem dX7_loudBy_86 : decode cX7_loudBy 86 = .ok (.iload_n 3, 1) := by decide +kernel
theorem dX7_loudBy_87 : decode cX7_loudBy 87 = .ok (.invokevirtual 175, 3) := by decide +kernel
theorem dX7_loudBy_90 : decode cX7_loudBy 90 = .ok (.aload_n 0, 1) := by decide +kernel
theorem dX7_loudBy_91 : decode cX7_loudBy 91 = .ok (.bipush 43, 2) := by decide +kernel
theorem dX7_loudBy_93 : decode cX7_loudBy 93 = .ok (.invokevirtual 149, 3) := by decide +kernel
theorem dX7_loudBy_96 : decode cX7_loudBy 96 = .ok (.ireturn, 1) := by decide +kernel
theorem dX7_byTurns_0 : decode cX7_byTurns 0 = .ok (.aload_n 0, 1) := by decide +kernel
theorem dX7_byTurns_1 : decode cX7_byTurns 1 = .ok (.invokevirtual 138, 3) := by decide +kernel
theorem dX7_byTurns_4 : decode cX7_byTurns 4 = .ok (.ifCond .ne 6, 3) := by decide +kernel
theorem dX7_byTurns_7 : decode cX7_byTurns 7 = .ok (.ldc 137, 2) := by decide +kernel
theorem dX7_byTurns_9 : decode cX7_byTurns 9 = .ok (.ireturn, 1) := by decide +kernel
theorem dX7_byTurns_10 : decode cX7_byTurns 10 = .ok (.iload_n 1, 1) := by decide +kernel
theorem dX7_byTurns_11 : decode cX7_byTurns 11 = .ok (.i2l, 1) := by decide +kernel
theorem dX7_byTurns_12 : decode cX7_byTurns 12 = .ok (.lconst 0, 1) := by decide +kernel
theorem dX7_byTurns_13 : decode cX7_byTurns 13 = .ok (.ldc2_w 192, 3) := by decide +kernel
theorem dX7_byTurns_16 : decode cX7_byTurns 16 = .ok (.invokestatic 41, 3) := by decide +kernel
theorem dX7_byTurns_19 : decode cX7_byTurns 19 = .ok (.ifCond .eq 15, 3) := by decide +kernel
theorem dX7_byTurns_22 : decode cX7_byTurns 22 = .ok (.iload_n 2, 1) := by decide +kernel
theorem dX7_byTurns_23 : decode cX7_byTurns 23 = .ok (.i2l, 1) := by decide +kernel
theorem dX7_byTurns_24 : decode cX7_byTurns 24 = .ok (.lconst 1, 1) := by decide +kernel
theorem dX7_byTurns_25 : decode cX7_byTurns 25 = .ok (.ldc2_w 181, 3) := by decide +kernel
theorem dX7_byTurns_28 : decode cX7_byTurns 28 = .ok (.invokestatic 41, 3) := by decide +kernel
theorem dX7_byTurns_31 : decode cX7_byTurns 31 = .ok (.ifCond .ne 6, 3) := by decide +kernel
theorem dX7_byTurns_34 : decode cX7_byTurns 34 = .ok (.ldc 58, 2) := by decide +kernel
theorem dX7_byTurns_36 : decode cX7_byTurns 36 = .ok (.ireturn, 1) := by decide +kernel
theorem dX7_byTurns_37 : decode cX7_byTurns 37 = .ok (.iconst 0, 1) := by decide +kernel
theorem dX7_byTurns_38 : decode cX7_byTurns 38 = .ok (.istore_n 3, 1) := by decide +kernel
theorem dX7_byTurns_39 : decode cX7_byTurns 39 = .ok (.iload_n 3, 1) := by decide +kernel
theorem dX7_byTurns_40 : decode cX7_byTurns 40 = .ok (.bipush 6, 2) := by decide +kernel
theorem dX7_byTurns_42 : decode cX7_byTurns 42 = .ok (.if_icmp .ge 31, 3) := by decide +kernel
theorem dX7_byTurns_45 : decode cX7_byTurns 45 = .ok (.aload_n 0, 1) := by decide +kernel
theorem dX7_byTurns_46 : decode cX7_byTurns 46 = .ok (.getfield 28, 3) := by decide +kernel
theorem dX7_byTurns_49 : decode cX7_byTurns 49 = .ok (.bipush 6, 2) := by decide +kernel
theorem dX7_byTurns_51 : decode cX7_byTurns 51 = .ok (.iload_n 1, 1) := by decide +kernel
theorem dX7_byTurns_52 : decode cX7_byTurns 52 = .ok (.imul, 1) := by decide +kernel
theorem dX7_byTurns_53 : decode cX7_byTurns 53 = .ok (.iload_n 3, 1) := by decide +kernel
theorem dX7_byTurns_54 : decode cX7_byTurns 54 = .ok (.iadd, 1) := by decide +kernel
theorem dX7_byTurns_55 : decode cX7_byTurns 55 = .ok (.aload_n 0, 1) := by decide +kernel
theorem dX7_byTurns_56 : decode cX7_byTurns 56 = .ok (.iload_n 3, 1) := by decide +kernel
theorem dX7_byTurns_57 : decode cX7_byTurns 57 = .ok (.iconst 3, 1) := by decide +kernel
theorem dX7_byTurns_58 : decode cX7_byTurns 58 = .ok (.idiv, 1) := by decide +kernel
theorem dX7_byTurns_59 : decode cX7_byTurns 59 = .ok (.iload_n 3, 1) := by decide +kernel
theorem dX7_byTurns_60 : decode cX7_byTurns 60 = .ok (.iconst 3, 1) := by decide +kernel
theorem dX7_byTurns_61 : decode cX7_byTurns 61 = .ok (.irem, 1) := by decide +kernel
theorem dX7_byTurns_62 : decode cX7_byTurns 62 = .ok (.iload_n 2, 1) := by decide +kernel
theorem dX7_byTurns_63 : decode cX7_byTurns 63 = .ok (.invokevirtual 194, 3) := by decide +kernel
theorem dX7_byTurns_66 : decode cX7_byTurns 66 = .ok (.iastore, 1) := by decide +kernel
theorem dX7_byTurns_67 : decode cX7_byTurns 67 = .ok (.iinc 3 1, 3) := by decide +kernel
theorem dX7_byTurns_70 : decode cX7_byTurns 70 = .ok (.goto (-31), 3) := by decide +kernel
theorem dX7_byTurns_73 : decode cX7_byTurns 73 = .ok (.iload_n 1, 1) := by decide +kernel
theorem dX7_byTurns_74 : decode cX7_byTurns 74 = .ok (.iconst 1, 1) := by decide +kernel
theorem dX7_byTurns_75 : decode cX7_byTurns 75 = .ok (.isub, 1) := by decide +kernel
theorem dX7_byTurns_76 : decode cX7_byTurns 76 = .ok (.istore_n 3, 1) := by decide +kernel
theorem dX7_byTurns_77 : decode cX7_byTurns 77 = .ok (.iload_n 3, 1) := by decide +kernel
theorem dX7_byTurns_78 : decode cX7_byTurns 78 = .ok (.ifCond .lt 151, 3) := by decide +kernel
theorem dX7_byTurns_81 : decode cX7_byTurns 81 = .ok (.iconst 0, 1) := by decide +kernel
theorem dX7_byTurns_82 : decode cX7_byTurns 82 = .ok (.istore 4, 2) := by decide +kernel
theorem dX7_byTurns_84 : decode cX7_byTurns 84 = .ok (.iload 4, 2) := by decide +kernel
theorem dX7_byTurns_86 : decode cX7_byTurns 86 = .ok (.bipush 6, 2) := by decide +kernel
theorem dX7_byTurns_88 : decode cX7_byTurns 88 = .ok (.if_icmp .ge 135, 3) := by decide +kernel
theorem dX7_byTurns_91 : decode cX7_byTurns 91 = .ok (.aload_n 0, 1) := by decide +kernel
theorem dX7_byTurns_92 : decode cX7_byTurns 92 = .ok (.getfield 28, 3) := by decide +kernel
theorem dX7_byTurns_95 : decode cX7_byTurns 95 = .ok (.bipush 6, 2) := by decide +kernel
theorem dX7_byTurns_97 : decode cX7_byTurns 97 = .ok (.iload_n 3, 1) := by decide +kernel
theorem dX7_byTurns_98 : decode cX7_byTurns 98 = .ok (.iconst 1, 1) := by decide +kernel
theorem dX7_byTurns_99 : decode cX7_byTurns 99 = .ok (.iadd, 1) := by decide +kernel
theorem dX7_byTurns_100 : decode cX7_byTurns 100 = .ok (.imul, 1) := by decide +kernel
theorem dX7_byTurns_101 : decode cX7_byTurns 101 = .ok (.iload 4, 2) := by decide +kernel
theorem dX7_byTurns_103 : decode cX7_byTurns 103 = .ok (.iadd, 1) := by decide +kernel
theorem dX7_byTurns_104 : decode cX7_byTurns 104 = .ok (.iaload, 1) := by decide +kernel
theorem dX7_byTurns_105 : decode cX7_byTurns 105 = .ok (.istore 5, 2) := by decide +kernel
theorem dX7_byTurns_107 : decode cX7_byTurns 107 = .ok (.iload_n 3, 1) := by decide +kernel
theorem dX7_byTurns_108 : decode cX7_byTurns 108 = .ok (.iconst 2, 1) := by decide +kernel
theorem dX7_byTurns_109 : decode cX7_byTurns 109 = .ok (.irem, 1) := by decide +kernel
theorem dX7_byTurns_110 : decode cX7_byTurns 110 = .ok (.ifCond .ne 13, 3) := by decide +kernel
theorem dX7_byTurns_113 : decode cX7_byTurns 113 = .ok (.iload 4, 2) := by decide +kernel
theorem dX7_byTurns_115 : decode cX7_byTurns 115 = .ok (.iconst 3, 1) := by decide +kernel
theorem dX7_byTurns_116 : decode cX7_byTurns 116 = .ok (.iadd, 1) := by decide +kernel
theorem dX7_byTurns_117 : decode cX7_byTurns 117 = .ok (.bipush 6, 2) := by decide +kernel
theorem dX7_byTurns_119 : decode cX7_byTurns 119 = .ok (.irem, 1) := by decide +kernel
theorem dX7_byTurns_120 : decode cX7_byTurns 120 = .ok (.goto 20, 3) := by decide +kernel
theorem dX7_byTurns_123 : decode cX7_byTurns 123 = .ok (.iload 4, 2) := by decide +kernel
theorem dX7_byTurns_125 : decode cX7_byTurns 125 = .ok (.iconst 3, 1) := by decide +kernel
theorem dX7_byTurns_126 : decode cX7_byTurns 126 = .ok (.irem, 1) := by decide +kernel
theorem dX7_byTurns_127 : decode cX7_byTurns 127 = .ok (.iconst 2, 1) := by decide +kernel
theorem dX7_byTurns_128 : decode cX7_byTurns 128 = .ok (.if_icmp .ge 10, 3) := by decide +kernel
theorem dX7_byTurns_131 : decode cX7_byTurns 131 = .ok (.iload 4, 2) := by decide +kernel
theorem dX7_byTurns_133 : decode cX7_byTurns 133 = .ok (.iconst 1, 1) := by decide +kernel
theorem dX7_byTurns_134 : decode cX7_byTurns 134 = .ok (.iadd, 1) := by decide +kernel
theorem dX7_byTurns_135 : decode cX7_byTurns 135 = .ok (.goto 5, 3) := by decide +kernel
theorem dX7_byTurns_138 : decode cX7_byTurns 138 = .ok (.iload 4, 2) := by decide +kernel
theorem dX7_byTurns_140 : decode cX7_byTurns 140 = .ok (.istore 6, 2) := by decide +kernel
theorem dX7_byTurns_142 : decode cX7_byTurns 142 = .ok (.aload_n 0, 1) := by decide +kernel
theorem dX7_byTurns_143 : decode cX7_byTurns 143 = .ok (.getfield 28, 3) := by decide +kernel
theorem dX7_byTurns_146 : decode cX7_byTurns 146 = .ok (.bipush 6, 2) := by decide +kernel
theorem dX7_byTurns_148 : decode cX7_byTurns 148 = .ok (.iload_n 3, 1) := by decide +kernel
theorem dX7_byTurns_149 : decode cX7_byTurns 149 = .ok (.iconst 1, 1) := by decide +kernel
theorem dX7_byTurns_150 : decode cX7_byTurns 150 = .ok (.iadd, 1) := by decide +kernel
theorem dX7_byTurns_151 : decode cX7_byTurns 151 = .ok (.imul, 1) := by decide +kernel
theorem dX7_byTurns_152 : decode cX7_byTurns 152 = .ok (.iload 6, 2) := by decide +kernel
theorem dX7_byTurns_154 : decode cX7_byTurns 154 = .ok (.iadd, 1) := by decide +kernel
theorem dX7_byTurns_155 : decode cX7_byTurns 155 = .ok (.iaload, 1) := by decide +kernel
theorem dX7_byTurns_156 : decode cX7_byTurns 156 = .ok (.istore 7, 2) := by decide +kernel
theorem dX7_byTurns_158 : decode cX7_byTurns 158 = .ok (.iload_n 3, 1) := by decide +kernel
theorem dX7_byTurns_159 : decode cX7_byTurns 159 = .ok (.iconst 2, 1) := by decide +kernel
theorem dX7_byTurns_160 : decode cX7_byTurns 160 = .ok (.irem, 1) := by decide +kernel
theorem dX7_byTurns_161 : decode cX7_byTurns 161 = .ok (.ifCond .ne 18, 3) := by decide +kernel
theorem dX7_byTurns_164 : decode cX7_byTurns 164 = .ok (.iload 7, 2) := by decide +kernel
theorem dX7_byTurns_166 : decode cX7_byTurns 166 = .ok (.iload 5, 2) := by decide +kernel
theorem dX7_byTurns_168 : decode cX7_byTurns 168 = .ok (.if_icmp .le 7, 3) := by decide +kernel
theorem dX7_byTurns_171 : decode cX7_byTurns 171 = .ok (.iconst 1, 1) := by decide +kernel
theorem dX7_byTurns_172 : decode cX7_byTurns 172 = .ok (.goto 19, 3) := by decide +kernel
theorem dX7_byTurns_175 : decode cX7_byTurns 175 = .ok (.iconst 0, 1) := by decide +kernel
theorem dX7_byTurns_176 : decode cX7_byTurns 176 = .ok (.goto 15, 3) := by decide +kernel
theorem dX7_byTurns_179 : decode cX7_byTurns 179 = .ok (.iload 7, 2) := by decide +kernel
theorem dX7_byTurns_181 : decode cX7_byTurns 181 = .ok (.iload 5, 2) := by decide +kernel
theorem dX7_byTurns_183 : decode cX7_byTurns 183 = .ok (.if_icmp .ge 7, 3) := by decide +kernel
theorem dX7_byTurns_186 : decode cX7_byTurns 186 = .ok (.iconst 1, 1) := by decide +kernel
theorem dX7_byTurns_187 : decode cX7_byTurns 187 = .ok (.goto 4, 3) := by decide +kernel
theorem dX7_byTurns_190 : decode cX7_byTurns 190 = .ok (.iconst 0, 1) := by decide +kernel
theorem dX7_byTurns_191 : decode cX7_byTurns 191 = .ok (.istore 8, 2) := by decide +kernel
theorem dX7_byTurns_193 : decode cX7_byTurns 193 = .ok (.aload_n 0, 1) := by decide +kernel
theorem dX7_byTurns_194 : decode cX7_byTurns 194 = .ok (.getfield 28, 3) := by decide +kernel
theorem dX7_byTurns_197 : decode cX7_byTurns 197 = .ok (.bipush 6, 2) := by decide +kernel
theorem dX7_byTurns_199 : decode cX7_byTurns 199 = .ok (.iload_n 3, 1) := by decide +kernel
theorem dX7_byTurns_200 : decode cX7_byTurns 200 = .ok (.imul, 1) := by decide +kernel
theorem dX7_byTurns_201 : decode cX7_byTurns 201 = .ok (.iload 4, 2) := by decide +kernel
theorem dX7_byTurns_203 : decode cX7_byTurns 203 = .ok (.iadd, 1) := by decide +kernel
theorem dX7_byTurns_204 : decode cX7_byTurns 204 = .ok (.iload 8, 2) := by decide +kernel
theorem dX7_byTurns_206 : decode cX7_byTurns 206 = .ok (.ifCond .eq 8, 3) := by decide +kernel
theorem dX7_byTurns_209 : decode cX7_byTurns 209 = .ok (.iload 7, 2) := by decide +kernel
theorem dX7_byTurns_211 : decode cX7_byTurns 211 = .ok (.goto 5, 3) := by decide +kernel
theorem dX7_byTurns_214 : decode cX7_byTurns 214 = .ok (.iload 5, 2) := by decide +kernel
theorem dX7_byTurns_216 : decode cX7_byTurns 216 = .ok (.iastore, 1) := by decide +kernel
theorem dX7_byTurns_217 : decode cX7_byTurns 217 = .ok (.iinc 4 1, 3) := by decide +kernel
theorem dX7_byTurns_220 : decode cX7_byTurns 220 = .ok (.goto (-136), 3) := by decide +kernel
theorem dX7_byTurns_223 : decode cX7_byTurns 223 = .ok (.iinc 3 (-1), 3) := by decide +kernel
theorem dX7_byTurns_226 : decode cX7_byTurns 226 = .ok (.goto (-149), 3) := by decide +kernel
theorem dX7_byTurns_229 : decode cX7_byTurns 229 = .ok (.aload_n 0, 1) := by decide +kernel
theorem dX7_byTurns_230 : decode cX7_byTurns 230 = .ok (.getfield 28, 3) := by decide +kernel
theorem dX7_byTurns_233 : decode cX7_byTurns 233 = .ok (.iconst 0, 1) := by decide +kernel
theorem dX7_byTurns_234 : decode cX7_byTurns 234 = .ok (.iaload, 1) := by decide +kernel
theorem dX7_byTurns_235 : decode cX7_byTurns 235 = .ok (.ireturn, 1) := by decide +kernel
theorem dX7_isSo_0 : decode cX7_isSo 0 = .ok (.iconst 1, 1) := by decide +kernel
theorem dX7_isSo_1 : decode cX7_isSo 1 = .ok (.istore_n 3, 1) := by decide +kernel
theorem dX7_isSo_2 : decode cX7_isSo 2 = .ok (.iconst 0, 1) := by decide +kernel
theorem dX7_isSo_3 : decode cX7_isSo 3 = .ok (.istore 4, 2) := by decide +kernel
theorem dX7_isSo_5 : decode cX7_isSo 5 = .ok (.iload 4, 2) := by decide +kernel
theorem dX7_isSo_7 : decode cX7_isSo 7 = .ok (.iload_n 2, 1) := by decide +kernel
theorem dX7_isSo_8 : decode cX7_isSo 8 = .ok (.if_icmp .ge 43, 3) := by decide +kernel
theorem dX7_isSo_11 : decode cX7_isSo 11 = .ok (.aload_n 0, 1) := by decide +kernel
theorem dX7_isSo_12 : decode cX7_isSo 12 = .ok (.bipush 43, 2) := by decide +kernel
theorem dX7_isSo_14 : decode cX7_isSo 14 = .ok (.invokevirtual 146, 3) := by decide +kernel
theorem dX7_isSo_17 : decode cX7_isSo 17 = .ok (.iload_n 3, 1) := by decide +kernel
theorem dX7_isSo_18 : decode cX7_isSo 18 = .ok (.ifCond .eq 25, 3) := by decide +kernel
theorem dX7_isSo_21 : decode cX7_isSo 21 = .ok (.aload_n 0, 1) := by decide +kernel
theorem dX7_isSo_22 : decode cX7_isSo 22 = .ok (.bipush 43, 2) := by decide +kernel
theorem dX7_isSo_24 : decode cX7_isSo 24 = .ok (.invokevirtual 149, 3) := by decide +kernel
theorem dX7_isSo_27 : decode cX7_isSo 27 = .ok (.aload_n 0, 1) := by decide +kernel
theorem dX7_isSo_28 : decode cX7_isSo 28 = .ok (.getfield 22, 3) := by decide +kernel
theorem dX7_isSo_31 : decode cX7_isSo 31 = .ok (.iload_n 1, 1) := by decide +kernel
theorem dX7_isSo_32 : decode cX7_isSo 32 = .ok (.iload 4, 2) := by decide +kernel
theorem dX7_isSo_34 : decode cX7_isSo 34 = .ok (.iadd, 1) := by decide +kernel
theorem dX7_isSo_35 : decode cX7_isSo 35 = .ok (.iaload, 1) := by decide +kernel
theorem dX7_isSo_36 : decode cX7_isSo 36 = .ok (.if_icmp .ne 7, 3) := by decide +kernel
theorem dX7_isSo_39 : decode cX7_isSo 39 = .ok (.iconst 1, 1) := by decide +kernel
theorem dX7_isSo_40 : decode cX7_isSo 40 = .ok (.goto 4, 3) := by decide +kernel
theorem dX7_isSo_43 : decode cX7_isSo 43 = .ok (.iconst 0, 1) := by decide +kernel
theorem dX7_isSo_44 : decode cX7_isSo 44 = .ok (.istore_n 3, 1) := by decide +kernel
theorem dX7_isSo_45 : decode cX7_isSo 45 = .ok (.iinc 4 1, 3) := by decide +kernel
theorem dX7_isSo_48 : decode cX7_isSo 48 = .ok (.goto (-43), 3) := by decide +kernel
theorem dX7_isSo_51 : decode cX7_isSo 51 = .ok (.iload_n 3, 1) := by decide +kernel
theorem dX7_isSo_52 : decode cX7_isSo 52 = .ok (.ireturn, 1) := by decide +kernel
theorem dX7_who_0 : decode cX7_who 0 = .ok (.aload_n 0, 1) := by decide +kernel
theorem dX7_who_1 : decode cX7_who 1 = .ok (.iload_n 1, 1) := by decide +kernel
theorem dX7_who_2 : decode cX7_who 2 = .ok (.invokevirtual 157, 3) := by decide +kernel
theorem dX7_who_5 : decode cX7_who 5 = .ok (.ifCond .eq 35, 3) := by decide +kernel
theorem dX7_who_8 : decode cX7_who 8 = .ok (.iload_n 2, 1) := by decide +kernel
theorem dX7_who_9 : decode cX7_who 9 = .ok (.i2l, 1) := by decide +kernel
theorem dX7_who_10 : decode cX7_who 10 = .ok (.lconst 0, 1) := by decide +kernel
theorem dX7_who_11 : decode cX7_who 11 = .ok (.ldc2_w 192, 3) := by decide +kernel
theorem dX7_who_14 : decode cX7_who 14 = .ok (.invokestatic 41, 3) := by decide +kernel
theorem dX7_who_17 : decode cX7_who 17 = .ok (.ifCond .eq 23, 3) := by decide +kernel
theorem dX7_who_20 : decode cX7_who 20 = .ok (.iload_n 3, 1) := by decide +kernel
theorem dX7_who_21 : decode cX7_who 21 = .ok (.invokestatic 52, 3) := by decide +kernel
theorem dX7_who_24 : decode cX7_who 24 = .ok (.ifCond .eq 16, 3) := by decide +kernel
theorem dX7_who_27 : decode cX7_who 27 = .ok (.iload 5, 2) := by decide +kernel
theorem dX7_who_29 : decode cX7_who 29 = .ok (.i2l, 1) := by decide +kernel
theorem dX7_who_30 : decode cX7_who 30 = .ok (.lconst 1, 1) := by decide +kernel
theorem dX7_who_31 : decode cX7_who 31 = .ok (.ldc2_w 188, 3) := by decide +kernel
theorem dX7_who_34 : decode cX7_who 34 = .ok (.invokestatic 41, 3) := by decide +kernel
theorem dX7_who_37 : decode cX7_who 37 = .ok (.ifCond .ne 6, 3) := by decide +kernel
theorem dX7_who_40 : decode cX7_who 40 = .ok (.ldc 58, 2) := by decide +kernel
end
section
theorem dX7_who_42 : decode cX7_who 42 = .ok (.ireturn, 1) := by decide +kernel
theorem dX7_who_43 : decode cX7_who 43 = .ok (.aload_n 0, 1) := by decide +kernel
theorem dX7_who_44 : decode cX7_who 44 = .ok (.iload_n 3, 1) := by decide +kernel
theorem dX7_who_45 : decode cX7_who 45 = .ok (.iload 4, 2) := by decide +kernel
theorem dX7_who_47 : decode cX7_who 47 = .ok (.iload 5, 2) := by decide +kernel
theorem dX7_who_49 : decode cX7_who 49 = .ok (.invokevirtual 63, 3) := by decide +kernel
theorem dX7_who_52 : decode cX7_who 52 = .ok (.istore 6, 2) := by decide +kernel
theorem dX7_who_54 : decode cX7_who 54 = .ok (.iload 6, 2) := by decide +kernel
theorem dX7_who_56 : decode cX7_who 56 = .ok (.ifCond .le 10, 3) := by decide +kernel
theorem dX7_who_59 : decode cX7_who 59 = .ok (.aload_n 0, 1) := by decide +kernel
theorem dX7_who_60 : decode cX7_who 60 = .ok (.iload 6, 2) := by decide +kernel
theorem dX7_who_62 : decode cX7_who 62 = .ok (.invokevirtual 59, 3) := by decide +kernel
theorem dX7_who_65 : decode cX7_who 65 = .ok (.ireturn, 1) := by decide +kernel
theorem dX7_who_66 : decode cX7_who 66 = .ok (.aload_n 0, 1) := by decide +kernel
theorem dX7_who_67 : decode cX7_who 67 = .ok (.iconst 0, 1) := by decide +kernel
theorem dX7_who_68 : decode cX7_who 68 = .ok (.putfield 47, 3) := by decide +kernel
theorem dX7_who_71 : decode cX7_who 71 = .ok (.bipush 40, 2) := by decide +kernel
theorem dX7_who_73 : decode cX7_who 73 = .ok (.iload_n 3, 1) := by decide +kernel
theorem dX7_who_74 : decode cX7_who 74 = .ok (.imul, 1) := by decide +kernel
theorem dX7_who_75 : decode cX7_who 75 = .ok (.iload 4, 2) := by decide +kernel
theorem dX7_who_77 : decode cX7_who 77 = .ok (.iadd, 1) := by decide +kernel
theorem dX7_who_78 : decode cX7_who 78 = .ok (.istore 7, 2) := by decide +kernel
theorem dX7_who_80 : decode cX7_who 80 = .ok (.iload_n 2, 1) := by decide +kernel
theorem dX7_who_81 : decode cX7_who 81 = .ok (.iconst 2, 1) := by decide +kernel
theorem dX7_who_82 : decode cX7_who 82 = .ok (.if_icmp .ge 7, 3) := by decide +kernel
theorem dX7_who_85 : decode cX7_who 85 = .ok (.iconst 1, 1) := by decide +kernel
theorem dX7_who_86 : decode cX7_who 86 = .ok (.goto 4, 3) := by decide +kernel
theorem dX7_who_89 : decode cX7_who 89 = .ok (.iconst 0, 1) := by decide +kernel
theorem dX7_who_90 : decode cX7_who 90 = .ok (.istore 8, 2) := by decide +kernel
theorem dX7_who_92 : decode cX7_who 92 = .ok (.iload_n 2, 1) := by decide +kernel
theorem dX7_who_93 : decode cX7_who 93 = .ok (.ifCond .ne 7, 3) := by decide +kernel
theorem dX7_who_96 : decode cX7_who 96 = .ok (.iconst 5, 1) := by decide +kernel
theorem dX7_who_97 : decode cX7_who 97 = .ok (.goto 31, 3) := by decide +kernel
theorem dX7_who_100 : decode cX7_who 100 = .ok (.iload_n 2, 1) := by decide +kernel
theorem dX7_who_101 : decode cX7_who 101 = .ok (.iconst 1, 1) := by decide +kernel
theorem dX7_who_102 : decode cX7_who 102 = .ok (.if_icmp .ne 8, 3) := by decide +kernel
theorem dX7_who_105 : decode cX7_who 105 = .ok (.bipush 9, 2) := by decide +kernel
theorem dX7_who_107 : decode cX7_who 107 = .ok (.goto 21, 3) := by decide +kernel
theorem dX7_who_110 : decode cX7_who 110 = .ok (.iload_n 2, 1) := by decide +kernel
theorem dX7_who_111 : decode cX7_who 111 = .ok (.iconst 2, 1) := by decide +kernel
theorem dX7_who_112 : decode cX7_who 112 = .ok (.if_icmp .ne 14, 3) := by decide +kernel
theorem dX7_who_115 : decode cX7_who 115 = .ok (.aload_n 0, 1) := by decide +kernel
theorem dX7_who_116 : decode cX7_who 116 = .ok (.getfield 7, 3) := by decide +kernel
theorem dX7_who_119 : decode cX7_who 119 = .ok (.iconst 1, 1) := by decide +kernel
theorem dX7_who_120 : decode cX7_who 120 = .ok (.iaload, 1) := by decide +kernel
theorem dX7_who_121 : decode cX7_who 121 = .ok (.iconst 1, 1) := by decide +kernel
theorem dX7_who_122 : decode cX7_who 122 = .ok (.isub, 1) := by decide +kernel
theorem dX7_who_123 : decode cX7_who 123 = .ok (.goto 5, 3) := by decide +kernel
theorem dX7_who_126 : decode cX7_who 126 = .ok (.bipush 99, 2) := by decide +kernel
theorem dX7_who_128 : decode cX7_who 128 = .ok (.istore 9, 2) := by decide +kernel
theorem dX7_who_130 : decode cX7_who 130 = .ok (.iload_n 2, 1) := by decide +kernel
theorem dX7_who_131 : decode cX7_who 131 = .ok (.ifCond .ne 10, 3) := by decide +kernel
theorem dX7_who_134 : decode cX7_who 134 = .ok (.bipush 6, 2) := by decide +kernel
theorem dX7_who_136 : decode cX7_who 136 = .ok (.iload_n 1, 1) := by decide +kernel
theorem dX7_who_137 : decode cX7_who 137 = .ok (.iadd, 1) := by decide +kernel
theorem dX7_who_138 : decode cX7_who 138 = .ok (.goto 25, 3) := by decide +kernel
theorem dX7_who_141 : decode cX7_who 141 = .ok (.iload_n 2, 1) := by decide +kernel
theorem dX7_who_142 : decode cX7_who 142 = .ok (.iconst 1, 1) := by decide +kernel
theorem dX7_who_143 : decode cX7_who 143 = .ok (.if_icmp .ne 10, 3) := by decide +kernel
theorem dX7_who_146 : decode cX7_who 146 = .ok (.bipush 12, 2) := by decide +kernel
theorem dX7_who_148 : decode cX7_who 148 = .ok (.iload_n 1, 1) := by decide +kernel
theorem dX7_who_149 : decode cX7_who 149 = .ok (.iadd, 1) := by decide +kernel
theorem dX7_who_150 : decode cX7_who 150 = .ok (.goto 13, 3) := by decide +kernel
theorem dX7_who_153 : decode cX7_who 153 = .ok (.iload_n 2, 1) := by decide +kernel
theorem dX7_who_154 : decode cX7_who 154 = .ok (.iconst 2, 1) := by decide +kernel
theorem dX7_who_155 : decode cX7_who 155 = .ok (.if_icmp .ne 7, 3) := by decide +kernel
theorem dX7_who_158 : decode cX7_who 158 = .ok (.iconst 3, 1) := by decide +kernel
theorem dX7_who_159 : decode cX7_who 159 = .ok (.goto 4, 3) := by decide +kernel
theorem dX7_who_162 : decode cX7_who 162 = .ok (.iconst 2, 1) := by decide +kernel
theorem dX7_who_163 : decode cX7_who 163 = .ok (.istore 10, 2) := by decide +kernel
theorem dX7_who_165 : decode cX7_who 165 = .ok (.iconst 0, 1) := by decide +kernel
theorem dX7_who_166 : decode cX7_who 166 = .ok (.istore 11, 2) := by decide +kernel
theorem dX7_who_168 : decode cX7_who 168 = .ok (.iconst 0, 1) := by decide +kernel
theorem dX7_who_169 : decode cX7_who 169 = .ok (.istore 12, 2) := by decide +kernel
theorem dX7_who_171 : decode cX7_who 171 = .ok (.ldc 180, 2) := by decide +kernel
theorem dX7_who_173 : decode cX7_who 173 = .ok (.istore 13, 2) := by decide +kernel
theorem dX7_who_175 : decode cX7_who 175 = .ok (.iload 8, 2) := by decide +kernel
theorem dX7_who_177 : decode cX7_who 177 = .ok (.istore 14, 2) := by decide +kernel
theorem dX7_who_179 : decode cX7_who 179 = .ok (.iload 14, 2) := by decide +kernel
theorem dX7_who_181 : decode cX7_who 181 = .ok (.iload 9, 2) := by decide +kernel
theorem dX7_who_183 : decode cX7_who 183 = .ok (.if_icmp .gt 71, 3) := by decide +kernel
theorem dX7_who_186 : decode cX7_who 186 = .ok (.aload_n 0, 1) := by decide +kernel
theorem dX7_who_187 : decode cX7_who 187 = .ok (.invokevirtual 172, 3) := by decide +kernel
theorem dX7_who_190 : decode cX7_who 190 = .ok (.aload_n 0, 1) := by decide +kernel
theorem dX7_who_191 : decode cX7_who 191 = .ok (.getfield 7, 3) := by decide +kernel
theorem dX7_who_194 : decode cX7_who 194 = .ok (.bipush 43, 2) := by decide +kernel
theorem dX7_who_196 : decode cX7_who 196 = .ok (.iload 10, 2) := by decide +kernel
theorem dX7_who_198 : decode cX7_who 198 = .ok (.iadd, 1) := by decide +kernel
theorem dX7_who_199 : decode cX7_who 199 = .ok (.iload 14, 2) := by decide +kernel
theorem dX7_who_201 : decode cX7_who 201 = .ok (.iastore, 1) := by decide +kernel
theorem dX7_who_202 : decode cX7_who 202 = .ok (.aload_n 0, 1) := by decide +kernel
theorem dX7_who_203 : decode cX7_who 203 = .ok (.iload 7, 2) := by decide +kernel
theorem dX7_who_205 : decode cX7_who 205 = .ok (.iload 5, 2) := by decide +kernel
theorem dX7_who_207 : decode cX7_who 207 = .ok (.invokevirtual 197, 3) := by decide +kernel
theorem dX7_who_210 : decode cX7_who 210 = .ok (.ifCond .eq 38, 3) := by decide +kernel
theorem dX7_who_213 : decode cX7_who 213 = .ok (.iload 11, 2) := by decide +kernel
theorem dX7_who_215 : decode cX7_who 215 = .ok (.iload_n 2, 1) := by decide +kernel
theorem dX7_who_216 : decode cX7_who 216 = .ok (.iconst 3, 1) := by decide +kernel
theorem dX7_who_217 : decode cX7_who 217 = .ok (.if_icmp .ge 10, 3) := by decide +kernel
theorem dX7_who_220 : decode cX7_who 220 = .ok (.iconst 1, 1) := by decide +kernel
theorem dX7_who_221 : decode cX7_who 221 = .ok (.iload 14, 2) := by decide +kernel
theorem dX7_who_223 : decode cX7_who 223 = .ok (.ishl, 1) := by decide +kernel
theorem dX7_who_224 : decode cX7_who 224 = .ok (.goto 4, 3) := by decide +kernel
theorem dX7_who_227 : decode cX7_who 227 = .ok (.iconst 0, 1) := by decide +kernel
theorem dX7_who_228 : decode cX7_who 228 = .ok (.ior, 1) := by decide +kernel
theorem dX7_who_229 : decode cX7_who 229 = .ok (.istore 11, 2) := by decide +kernel
theorem dX7_who_231 : decode cX7_who 231 = .ok (.iload 12, 2) := by decide +kernel
theorem dX7_who_233 : decode cX7_who 233 = .ok (.ifCond .ne 8, 3) := by decide +kernel
theorem dX7_who_236 : decode cX7_who 236 = .ok (.iload 14, 2) := by decide +kernel
theorem dX7_who_238 : decode cX7_who 238 = .ok (.goto 5, 3) := by decide +kernel
theorem dX7_who_241 : decode cX7_who 241 = .ok (.iload 13, 2) := by decide +kernel
theorem dX7_who_243 : decode cX7_who 243 = .ok (.istore 13, 2) := by decide +kernel
theorem dX7_who_245 : decode cX7_who 245 = .ok (.iinc 12 1, 3) := by decide +kernel
theorem dX7_who_248 : decode cX7_who 248 = .ok (.iinc 14 1, 3) := by decide +kernel
theorem dX7_who_251 : decode cX7_who 251 = .ok (.goto (-72), 3) := by decide +kernel
theorem dX7_who_254 : decode cX7_who 254 = .ok (.iload_n 2, 1) := by decide +kernel
theorem dX7_who_255 : decode cX7_who 255 = .ok (.iconst 3, 1) := by decide +kernel
theorem dX7_who_256 : decode cX7_who 256 = .ok (.if_icmp .ge 8, 3) := by decide +kernel
theorem dX7_who_259 : decode cX7_who 259 = .ok (.iload 11, 2) := by decide +kernel
theorem dX7_who_261 : decode cX7_who 261 = .ok (.goto 15, 3) := by decide +kernel
theorem dX7_who_264 : decode cX7_who 264 = .ok (.iload_n 2, 1) := by decide +kernel
theorem dX7_who_265 : decode cX7_who 265 = .ok (.iconst 3, 1) := by decide +kernel
theorem dX7_who_266 : decode cX7_who 266 = .ok (.if_icmp .ne 8, 3) := by decide +kernel
theorem dX7_who_269 : decode cX7_who 269 = .ok (.iload 12, 2) := by decide +kernel
theorem dX7_who_271 : decode cX7_who 271 = .ok (.goto 5, 3) := by decide +kernel
theorem dX7_who_274 : decode cX7_who 274 = .ok (.iload 13, 2) := by decide +kernel
theorem dX7_who_276 : decode cX7_who 276 = .ok (.ireturn, 1) := by decide +kernel
theorem dX7_lost_0 : decode cX7_lost 0 = .ok (.aload_n 0, 1) := by decide +kernel
theorem dX7_lost_1 : decode cX7_lost 1 = .ok (.iload_n 1, 1) := by decide +kernel
theorem dX7_lost_2 : decode cX7_lost 2 = .ok (.invokevirtual 157, 3) := by decide +kernel
theorem dX7_lost_5 : decode cX7_lost 5 = .ok (.ifCond .eq 38, 3) := by decide +kernel
theorem dX7_lost_8 : decode cX7_lost 8 = .ok (.iload_n 2, 1) := by decide +kernel
theorem dX7_lost_9 : decode cX7_lost 9 = .ok (.i2l, 1) := by decide +kernel
theorem dX7_lost_10 : decode cX7_lost 10 = .ok (.lconst 0, 1) := by decide +kernel
theorem dX7_lost_11 : decode cX7_lost 11 = .ok (.ldc2_w 181, 3) := by decide +kernel
theorem dX7_lost_14 : decode cX7_lost 14 = .ok (.invokestatic 41, 3) := by decide +kernel
theorem dX7_lost_17 : decode cX7_lost 17 = .ok (.ifCond .eq 26, 3) := by decide +kernel
theorem dX7_lost_20 : decode cX7_lost 20 = .ok (.iload_n 3, 1) := by decide +kernel
theorem dX7_lost_21 : decode cX7_lost 21 = .ok (.i2l, 1) := by decide +kernel
theorem dX7_lost_22 : decode cX7_lost 22 = .ok (.lconst 0, 1) := by decide +kernel
theorem dX7_lost_23 : decode cX7_lost 23 = .ok (.ldc2_w 200, 3) := by decide +kernel
theorem dX7_lost_26 : decode cX7_lost 26 = .ok (.invokestatic 41, 3) := by decide +kernel
theorem dX7_lost_29 : decode cX7_lost 29 = .ok (.ifCond .eq 14, 3) := by decide +kernel
theorem dX7_lost_32 : decode cX7_lost 32 = .ok (.iload 4, 2) := by decide +kernel
theorem dX7_lost_34 : decode cX7_lost 34 = .ok (.i2l, 1) := by decide +kernel
theorem dX7_lost_35 : decode cX7_lost 35 = .ok (.lconst 0, 1) := by decide +kernel
theorem dX7_lost_36 : decode cX7_lost 36 = .ok (.lconst 1, 1) := by decide +kernel
theorem dX7_lost_37 : decode cX7_lost 37 = .ok (.invokestatic 41, 3) := by decide +kernel
theorem dX7_lost_40 : decode cX7_lost 40 = .ok (.ifCond .ne 7, 3) := by decide +kernel
theorem dX7_lost_43 : decode cX7_lost 43 = .ok (.ldc2_w 202, 3) := by decide +kernel
theorem dX7_lost_46 : decode cX7_lost 46 = .ok (.lreturn, 1) := by decide +kernel
theorem dX7_lost_47 : decode cX7_lost 47 = .ok (.iconst 0, 1) := by decide +kernel
theorem dX7_lost_48 : decode cX7_lost 48 = .ok (.istore 5, 2) := by decide +kernel
theorem dX7_lost_50 : decode cX7_lost 50 = .ok (.iconst 0, 1) := by decide +kernel
theorem dX7_lost_51 : decode cX7_lost 51 = .ok (.istore 6, 2) := by decide +kernel
theorem dX7_lost_53 : decode cX7_lost 53 = .ok (.iload 6, 2) := by decide +kernel
theorem dX7_lost_55 : decode cX7_lost 55 = .ok (.aload_n 0, 1) := by decide +kernel
theorem dX7_lost_56 : decode cX7_lost 56 = .ok (.getfield 7, 3) := by decide +kernel
theorem dX7_lost_59 : decode cX7_lost 59 = .ok (.iconst 1, 1) := by decide +kernel
theorem dX7_lost_60 : decode cX7_lost 60 = .ok (.iaload, 1) := by decide +kernel
theorem dX7_lost_61 : decode cX7_lost 61 = .ok (.if_icmp .ge 38, 3) := by decide +kernel
theorem dX7_lost_64 : decode cX7_lost 64 = .ok (.aload_n 0, 1) := by decide +kernel
theorem dX7_lost_65 : decode cX7_lost 65 = .ok (.getfield 7, 3) := by decide +kernel
theorem dX7_lost_68 : decode cX7_lost 68 = .ok (.bipush 30, 2) := by decide +kernel
theorem dX7_lost_70 : decode cX7_lost 70 = .ok (.iload 6, 2) := by decide +kernel
theorem dX7_lost_72 : decode cX7_lost 72 = .ok (.iadd, 1) := by decide +kernel
theorem dX7_lost_73 : decode cX7_lost 73 = .ok (.iaload, 1) := by decide +kernel
theorem dX7_lost_74 : decode cX7_lost 74 = .ok (.iload_n 1, 1) := by decide +kernel
theorem dX7_lost_75 : decode cX7_lost 75 = .ok (.invokestatic 127, 3) := by decide +kernel
theorem dX7_lost_78 : decode cX7_lost 78 = .ok (.ifCond .eq 15, 3) := by decide +kernel
theorem dX7_lost_81 : decode cX7_lost 81 = .ok (.aload_n 0, 1) := by decide +kernel
theorem dX7_lost_82 : decode cX7_lost 82 = .ok (.getfield 31, 3) := by decide +kernel
theorem dX7_lost_85 : decode cX7_lost 85 = .ok (.iload 5, 2) := by decide +kernel
theorem dX7_lost_87 : decode cX7_lost 87 = .ok (.iload 6, 2) := by decide +kernel
theorem dX7_lost_89 : decode cX7_lost 89 = .ok (.iastore, 1) := by decide +kernel
theorem dX7_lost_90 : decode cX7_lost 90 = .ok (.iinc 5 1, 3) := by decide +kernel
theorem dX7_lost_93 : decode cX7_lost 93 = .ok (.iinc 6 1, 3) := by decide +kernel
theorem dX7_lost_96 : decode cX7_lost 96 = .ok (.goto (-43), 3) := by decide +kernel
theorem dX7_lost_99 : decode cX7_lost 99 = .ok (.lconst 0, 1) := by decide +kernel
theorem dX7_lost_100 : decode cX7_lost 100 = .ok (.lstore 6, 2) := by decide +kernel
theorem dX7_lost_102 : decode cX7_lost 102 = .ok (.lconst 1, 1) := by decide +kernel
theorem dX7_lost_103 : decode cX7_lost 103 = .ok (.lstore 8, 2) := by decide +kernel
theorem dX7_lost_105 : decode cX7_lost 105 = .ok (.iconst 0, 1) := by decide +kernel
theorem dX7_lost_106 : decode cX7_lost 106 = .ok (.istore 10, 2) := by decide +kernel
theorem dX7_lost_108 : decode cX7_lost 108 = .ok (.iload 10, 2) := by decide +kernel
theorem dX7_lost_110 : decode cX7_lost 110 = .ok (.iload 5, 2) := by decide +kernel
theorem dX7_lost_112 : decode cX7_lost 112 = .ok (.if_icmp .ge 17, 3) := by decide +kernel
theorem dX7_lost_115 : decode cX7_lost 115 = .ok (.lload 8, 2) := by decide +kernel
theorem dX7_lost_117 : decode cX7_lost 117 = .ok (.ldc2_w 200, 3) := by decide +kernel
theorem dX7_lost_120 : decode cX7_lost 120 = .ok (.lmul, 1) := by decide +kernel
theorem dX7_lost_121 : decode cX7_lost 121 = .ok (.lstore 8, 2) := by decide +kernel
theorem dX7_lost_123 : decode cX7_lost 123 = .ok (.iinc 10 1, 3) := by decide +kernel
theorem dX7_lost_126 : decode cX7_lost 126 = .ok (.goto (-18), 3) := by decide +kernel
theorem dX7_lost_129 : decode cX7_lost 129 = .ok (.iconst 0, 1) := by decide +kernel
theorem dX7_lost_130 : decode cX7_lost 130 = .ok (.istore 10, 2) := by decide +kernel
theorem dX7_lost_132 : decode cX7_lost 132 = .ok (.iload 10, 2) := by decide +kernel
theorem dX7_lost_134 : decode cX7_lost 134 = .ok (.iconst 1, 1) := by decide +kernel
theorem dX7_lost_135 : decode cX7_lost 135 = .ok (.iload 5, 2) := by decide +kernel
theorem dX7_lost_137 : decode cX7_lost 137 = .ok (.ishl, 1) := by decide +kernel
theorem dX7_lost_138 : decode cX7_lost 138 = .ok (.if_icmp .ge 129, 3) := by decide +kernel
theorem dX7_lost_141 : decode cX7_lost 141 = .ok (.lconst 1, 1) := by decide +kernel
theorem dX7_lost_142 : decode cX7_lost 142 = .ok (.lstore 11, 2) := by decide +kernel
theorem dX7_lost_144 : decode cX7_lost 144 = .ok (.aload_n 0, 1) := by decide +kernel
theorem dX7_lost_145 : decode cX7_lost 145 = .ok (.invokevirtual 172, 3) := by decide +kernel
theorem dX7_lost_148 : decode cX7_lost 148 = .ok (.iconst 0, 1) := by decide +kernel
theorem dX7_lost_149 : decode cX7_lost 149 = .ok (.istore 13, 2) := by decide +kernel
theorem dX7_lost_151 : decode cX7_lost 151 = .ok (.iload 13, 2) := by decide +kernel
theorem dX7_lost_153 : decode cX7_lost 153 = .ok (.iload 5, 2) := by decide +kernel
theorem dX7_lost_155 : decode cX7_lost 155 = .ok (.if_icmp .ge 71, 3) := by decide +kernel
theorem dX7_lost_158 : decode cX7_lost 158 = .ok (.lload 11, 2) := by decide +kernel
theorem dX7_lost_160 : decode cX7_lost 160 = .ok (.iload 10, 2) := by decide +kernel
theorem dX7_lost_162 : decode cX7_lost 162 = .ok (.iload 13, 2) := by decide +kernel
theorem dX7_lost_164 : decode cX7_lost 164 = .ok (.invokestatic 127, 3) := by decide +kernel
theorem dX7_lost_167 : decode cX7_lost 167 = .ok (.ifCond .eq 8, 3) := by decide +kernel
theorem dX7_lost_170 : decode cX7_lost 170 = .ok (.iload_n 3, 1) := by decide +kernel
theorem dX7_lost_171 : decode cX7_lost 171 = .ok (.i2l, 1) := by decide +kernel
theorem dX7_lost_172 : decode cX7_lost 172 = .ok (.goto 8, 3) := by decide +kernel
theorem dX7_lost_175 : decode cX7_lost 175 = .ok (.bipush 10, 2) := by decide +kernel
theorem dX7_lost_177 : decode cX7_lost 177 = .ok (.iload_n 3, 1) := by decide +kernel
theorem dX7_lost_178 : decode cX7_lost 178 = .ok (.isub, 1) := by decide +kernel
theorem dX7_lost_179 : decode cX7_lost 179 = .ok (.i2l, 1) := by decide +kernel
theorem dX7_lost_180 : decode cX7_lost 180 = .ok (.lmul, 1) := by decide +kernel
theorem dX7_lost_181 : decode cX7_lost 181 = .ok (.lstore 11, 2) := by decide +kernel
theorem dX7_lost_183 : decode cX7_lost 183 = .ok (.aload_n 0, 1) := by decide +kernel
theorem dX7_lost_184 : decode cX7_lost 184 = .ok (.getfield 7, 3) := by decide +kernel
theorem dX7_lost_187 : decode cX7_lost 187 = .ok (.bipush 73, 2) := by decide +kernel
theorem dX7_lost_189 : decode cX7_lost 189 = .ok (.aload_n 0, 1) := by decide +kernel
theorem dX7_lost_190 : decode cX7_lost 190 = .ok (.getfield 31, 3) := by decide +kernel
theorem dX7_lost_193 : decode cX7_lost 193 = .ok (.iload 13, 2) := by decide +kernel
theorem dX7_lost_195 : decode cX7_lost 195 = .ok (.iaload, 1) := by decide +kernel
theorem dX7_lost_196 : decode cX7_lost 196 = .ok (.iadd, 1) := by decide +kernel
theorem dX7_lost_197 : decode cX7_lost 197 = .ok (.dup2, 1) := by decide +kernel
theorem dX7_lost_198 : decode cX7_lost 198 = .ok (.iaload, 1) := by decide +kernel
theorem dX7_lost_199 : decode cX7_lost 199 = .ok (.iload 10, 2) := by decide +kernel
theorem dX7_lost_201 : decode cX7_lost 201 = .ok (.iload 13, 2) := by decide +kernel
theorem dX7_lost_203 : decode cX7_lost 203 = .ok (.invokestatic 127, 3) := by decide +kernel
theorem dX7_lost_206 : decode cX7_lost 206 = .ok (.ifCond .eq 11, 3) := by decide +kernel
theorem dX7_lost_209 : decode cX7_lost 209 = .ok (.iconst 1, 1) := by decide +kernel
theorem dX7_lost_210 : decode cX7_lost 210 = .ok (.iload_n 1, 1) := by decide +kernel
theorem dX7_lost_211 : decode cX7_lost 211 = .ok (.ishl, 1) := by decide +kernel
theorem dX7_lost_212 : decode cX7_lost 212 = .ok (.iconst (-1), 1) := by decide +kernel
theorem dX7_lost_213 : decode cX7_lost 213 = .ok (.ixor, 1) := by decide +kernel
theorem dX7_lost_214 : decode cX7_lost 214 = .ok (.goto 4, 3) := by decide +kernel
theorem dX7_lost_217 : decode cX7_lost 217 = .ok (.iconst (-1), 1) := by decide +kernel
theorem dX7_lost_218 : decode cX7_lost 218 = .ok (.iand, 1) := by decide +kernel
theorem dX7_lost_219 : decode cX7_lost 219 = .ok (.iastore, 1) := by decide +kernel
theorem dX7_lost_220 : decode cX7_lost 220 = .ok (.iinc 13 1, 3) := by decide +kernel
theorem dX7_lost_223 : decode cX7_lost 223 = .ok (.goto (-72), 3) := by decide +kernel
theorem dX7_lost_226 : decode cX7_lost 226 = .ok (.lload 11, 2) := by decide +kernel
theorem dX7_lost_228 : decode cX7_lost 228 = .ok (.lconst 0, 1) := by decide +kernel
theorem dX7_lost_229 : decode cX7_lost 229 = .ok (.lcmp, 1) := by decide +kernel
theorem dX7_lost_230 : decode cX7_lost 230 = .ok (.ifCond .le 31, 3) := by decide +kernel
theorem dX7_lost_233 : decode cX7_lost 233 = .ok (.aload_n 0, 1) := by decide +kernel
theorem dX7_lost_234 : decode cX7_lost 234 = .ok (.iload_n 2, 1) := by decide +kernel
theorem dX7_lost_235 : decode cX7_lost 235 = .ok (.invokevirtual 175, 3) := by decide +kernel
theorem dX7_lost_238 : decode cX7_lost 238 = .ok (.lload 6, 2) := by decide +kernel
theorem dX7_lost_240 : decode cX7_lost 240 = .ok (.aload_n 0, 1) := by decide +kernel
theorem dX7_lost_241 : decode cX7_lost 241 = .ok (.getfield 7, 3) := by decide +kernel
theorem dX7_lost_244 : decode cX7_lost 244 = .ok (.bipush 61, 2) := by decide +kernel
theorem dX7_lost_246 : decode cX7_lost 246 = .ok (.iload_n 1, 1) := by decide +kernel
theorem dX7_lost_247 : decode cX7_lost 247 = .ok (.iadd, 1) := by decide +kernel
theorem dX7_lost_248 : decode cX7_lost 248 = .ok (.iaload, 1) := by decide +kernel
theorem dX7_lost_249 : decode cX7_lost 249 = .ok (.ifCond .le 8, 3) := by decide +kernel
theorem dX7_lost_252 : decode cX7_lost 252 = .ok (.lload 11, 2) := by decide +kernel
theorem dX7_lost_254 : decode cX7_lost 254 = .ok (.goto 4, 3) := by decide +kernel
theorem dX7_lost_257 : decode cX7_lost 257 = .ok (.lconst 0, 1) := by decide +kernel
theorem dX7_lost_258 : decode cX7_lost 258 = .ok (.ladd, 1) := by decide +kernel
theorem dX7_lost_259 : decode cX7_lost 259 = .ok (.lstore 6, 2) := by decide +kernel
theorem dX7_lost_261 : decode cX7_lost 261 = .ok (.iinc 10 1, 3) := by decide +kernel
theorem dX7_lost_264 : decode cX7_lost 264 = .ok (.goto (-132), 3) := by decide +kernel
theorem dX7_lost_267 : decode cX7_lost 267 = .ok (.lload 6, 2) := by decide +kernel
theorem dX7_lost_269 : decode cX7_lost 269 = .ok (.lstore 10, 2) := by decide +kernel
theorem dX7_lost_271 : decode cX7_lost 271 = .ok (.lload 8, 2) := by decide +kernel
theorem dX7_lost_273 : decode cX7_lost 273 = .ok (.lstore 12, 2) := by decide +kernel
theorem dX7_lost_275 : decode cX7_lost 275 = .ok (.lload 12, 2) := by decide +kernel
theorem dX7_lost_277 : decode cX7_lost 277 = .ok (.lconst 0, 1) := by decide +kernel
theorem dX7_lost_278 : decode cX7_lost 278 = .ok (.lcmp, 1) := by decide +kernel
theorem dX7_lost_279 : decode cX7_lost 279 = .ok (.ifCond .eq 21, 3) := by decide +kernel
theorem dX7_lost_282 : decode cX7_lost 282 = .ok (.lload 10, 2) := by decide +kernel
theorem dX7_lost_284 : decode cX7_lost 284 = .ok (.lload 12, 2) := by decide +kernel
theorem dX7_lost_286 : decode cX7_lost 286 = .ok (.lrem, 1) := by decide +kernel
theorem dX7_lost_287 : decode cX7_lost 287 = .ok (.lstore 14, 2) := by decide +kernel
theorem dX7_lost_289 : decode cX7_lost 289 = .ok (.lload 12, 2) := by decide +kernel
theorem dX7_lost_291 : decode cX7_lost 291 = .ok (.lstore 10, 2) := by decide +kernel
theorem dX7_lost_293 : decode cX7_lost 293 = .ok (.lload 14, 2) := by decide +kernel
theorem dX7_lost_295 : decode cX7_lost 295 = .ok (.lstore 12, 2) := by decide +kernel
theorem dX7_lost_297 : decode cX7_lost 297 = .ok (.goto (-22), 3) := by decide +kernel
theorem dX7_lost_300 : decode cX7_lost 300 = .ok (.iload 4, 2) := by decide +kernel
theorem dX7_lost_302 : decode cX7_lost 302 = .ok (.ifCond .ne 11, 3) := by decide +kernel
theorem dX7_lost_305 : decode cX7_lost 305 = .ok (.lload 6, 2) := by decide +kernel
theorem dX7_lost_307 : decode cX7_lost 307 = .ok (.lload 10, 2) := by decide +kernel
theorem dX7_lost_309 : decode cX7_lost 309 = .ok (.ldiv, 1) := by decide +kernel
theorem dX7_lost_310 : decode cX7_lost 310 = .ok (.goto 8, 3) := by decide +kernel
theorem dX7_lost_313 : decode cX7_lost 313 = .ok (.lload 8, 2) := by decide +kernel
theorem dX7_lost_315 : decode cX7_lost 315 = .ok (.lload 10, 2) := by decide +kernel
theorem dX7_lost_317 : decode cX7_lost 317 = .ok (.ldiv, 1) := by decide +kernel
theorem dX7_lost_318 : decode cX7_lost 318 = .ok (.lreturn, 1) := by decide +kernel
theorem dX7_drawn_0 : decode cX7_drawn 0 = .ok (.aload_n 0, 1) := by decide +kernel
theorem dX7_drawn_1 : decode cX7_drawn 1 = .ok (.invokevirtual 138, 3) := by decide +kernel
theorem dX7_drawn_4 : decode cX7_drawn 4 = .ok (.ifCond .ne 6, 3) := by decide +kernel
theorem dX7_drawn_7 : decode cX7_drawn 7 = .ok (.ldc 137, 2) := by decide +kernel
theorem dX7_drawn_9 : decode cX7_drawn 9 = .ok (.ireturn, 1) := by decide +kernel
theorem dX7_drawn_10 : decode cX7_drawn 10 = .ok (.iload_n 1, 1) := by decide +kernel
theorem dX7_drawn_11 : decode cX7_drawn 11 = .ok (.i2l, 1) := by decide +kernel
theorem dX7_drawn_12 : decode cX7_drawn 12 = .ok (.lconst 0, 1) := by decide +kernel
theorem dX7_drawn_13 : decode cX7_drawn 13 = .ok (.ldc2_w 170, 3) := by decide +kernel
theorem dX7_drawn_16 : decode cX7_drawn 16 = .ok (.invokestatic 41, 3) := by decide +kernel
theorem dX7_drawn_19 : decode cX7_drawn 19 = .ok (.ifCond .eq 25, 3) := by decide +kernel
theorem dX7_drawn_22 : decode cX7_drawn 22 = .ok (.iload_n 2, 1) := by decide +kernel
theorem dX7_drawn_23 : decode cX7_drawn 23 = .ok (.i2l, 1) := by decide +kernel
theorem dX7_drawn_24 : decode cX7_drawn 24 = .ok (.lconst 1, 1) := by decide +kernel
theorem dX7_drawn_25 : decode cX7_drawn 25 = .ok (.ldc2_w 204, 3) := by decide +kernel
theorem dX7_drawn_28 : decode cX7_drawn 28 = .ok (.invokestatic 41, 3) := by decide +kernel
theorem dX7_drawn_31 : decode cX7_drawn 31 = .ok (.ifCond .eq 13, 3) := by decide +kernel
theorem dX7_drawn_34 : decode cX7_drawn 34 = .ok (.iload_n 3, 1) := by decide +kernel
theorem dX7_drawn_35 : decode cX7_drawn 35 = .ok (.i2l, 1) := by decide +kernel
theorem dX7_drawn_36 : decode cX7_drawn 36 = .ok (.lconst 0, 1) := by decide +kernel
theorem dX7_drawn_37 : decode cX7_drawn 37 = .ok (.lconst 1, 1) := by decide +kernel
theorem dX7_drawn_38 : decode cX7_drawn 38 = .ok (.invokestatic 41, 3) := by decide +kernel
theorem dX7_drawn_41 : decode cX7_drawn 41 = .ok (.ifCond .ne 6, 3) := by decide +kernel
theorem dX7_drawn_44 : decode cX7_drawn 44 = .ok (.ldc 58, 2) := by decide +kernel
theorem dX7_drawn_46 : decode cX7_drawn 46 = .ok (.ireturn, 1) := by decide +kernel
theorem dX7_drawn_47 : decode cX7_drawn 47 = .ok (.aload_n 0, 1) := by decide +kernel
theorem dX7_drawn_48 : decode cX7_drawn 48 = .ok (.invokevirtual 172, 3) := by decide +kernel
theorem dX7_drawn_51 : decode cX7_drawn 51 = .ok (.aload_n 0, 1) := by decide +kernel
theorem dX7_drawn_52 : decode cX7_drawn 52 = .ok (.getfield 7, 3) := by decide +kernel
theorem dX7_drawn_55 : decode cX7_drawn 55 = .ok (.bipush 85, 2) := by decide +kernel
theorem dX7_drawn_57 : decode cX7_drawn 57 = .ok (.iconst 0, 1) := by decide +kernel
theorem dX7_drawn_58 : decode cX7_drawn 58 = .ok (.iastore, 1) := by decide +kernel
theorem dX7_drawn_59 : decode cX7_drawn 59 = .ok (.iload_n 2, 1) := by decide +kernel
theorem dX7_drawn_60 : decode cX7_drawn 60 = .ok (.i2l, 1) := by decide +kernel
theorem dX7_drawn_61 : decode cX7_drawn 61 = .ok (.lstore 4, 2) := by decide +kernel
theorem dX7_drawn_63 : decode cX7_drawn 63 = .ok (.iconst 0, 1) := by decide +kernel
theorem dX7_drawn_64 : decode cX7_drawn 64 = .ok (.istore 6, 2) := by decide +kernel
theorem dX7_drawn_66 : decode cX7_drawn 66 = .ok (.iconst 0, 1) := by decide +kernel
theorem dX7_drawn_67 : decode cX7_drawn 67 = .ok (.istore 7, 2) := by decide +kernel
theorem dX7_drawn_69 : decode cX7_drawn 69 = .ok (.iload 7, 2) := by decide +kernel
theorem dX7_drawn_71 : decode cX7_drawn 71 = .ok (.iload_n 1, 1) := by decide +kernel
theorem dX7_drawn_72 : decode cX7_drawn 72 = .ok (.if_icmp .ge 138, 3) := by decide +kernel
theorem dX7_drawn_75 : decode cX7_drawn 75 = .ok (.lload 4, 2) := by decide +kernel
theorem dX7_drawn_77 : decode cX7_drawn 77 = .ok (.ldc2_w 206, 3) := by decide +kernel
theorem dX7_drawn_80 : decode cX7_drawn 80 = .ok (.lmul, 1) := by decide +kernel
theorem dX7_drawn_81 : decode cX7_drawn 81 = .ok (.ldc2_w 208, 3) := by decide +kernel
theorem dX7_drawn_84 : decode cX7_drawn 84 = .ok (.lrem, 1) := by decide +kernel
theorem dX7_drawn_85 : decode cX7_drawn 85 = .ok (.lstore 4, 2) := by decide +kernel
theorem dX7_drawn_87 : decode cX7_drawn 87 = .ok (.aload_n 0, 1) := by decide +kernel
theorem dX7_drawn_88 : decode cX7_drawn 88 = .ok (.getfield 7, 3) := by decide +kernel
theorem dX7_drawn_91 : decode cX7_drawn 91 = .ok (.bipush 45, 2) := by decide +kernel
theorem dX7_drawn_93 : decode cX7_drawn 93 = .ok (.iaload, 1) := by decide +kernel
theorem dX7_drawn_94 : decode cX7_drawn 94 = .ok (.ifCond .ne 20, 3) := by decide +kernel
theorem dX7_drawn_97 : decode cX7_drawn 97 = .ok (.aload_n 0, 1) := by decide +kernel
theorem dX7_drawn_98 : decode cX7_drawn 98 = .ok (.getfield 7, 3) := by decide +kernel
theorem dX7_drawn_101 : decode cX7_drawn 101 = .ok (.bipush 45, 2) := by decide +kernel
theorem dX7_drawn_103 : decode cX7_drawn 103 = .ok (.lload 4, 2) := by decide +kernel
theorem dX7_drawn_105 : decode cX7_drawn 105 = .ok (.ldc2_w 210, 3) := by decide +kernel
theorem dX7_drawn_108 : decode cX7_drawn 108 = .ok (.lrem, 1) := by decide +kernel
theorem dX7_drawn_109 : decode cX7_drawn 109 = .ok (.l2i, 1) := by decide +kernel
theorem dX7_drawn_110 : decode cX7_drawn 110 = .ok (.iastore, 1) := by decide +kernel
theorem dX7_drawn_111 : decode cX7_drawn 111 = .ok (.goto 40, 3) := by decide +kernel
theorem dX7_drawn_114 : decode cX7_drawn 114 = .ok (.lload 4, 2) := by decide +kernel
theorem dX7_drawn_116 : decode cX7_drawn 116 = .ok (.ldc2_w 178, 3) := by decide +kernel
theorem dX7_drawn_119 : decode cX7_drawn 119 = .ok (.lrem, 1) := by decide +kernel
theorem dX7_drawn_120 : decode cX7_drawn 120 = .ok (.lconst 0, 1) := by decide +kernel
theorem dX7_drawn_121 : decode cX7_drawn 121 = .ok (.lcmp, 1) := by decide +kernel
theorem dX7_drawn_122 : decode cX7_drawn 122 = .ok (.ifCond .ne 29, 3) := by decide +kernel
theorem dX7_drawn_125 : decode cX7_drawn 125 = .ok (.aload_n 0, 1) := by decide +kernel
theorem dX7_drawn_126 : decode cX7_drawn 126 = .ok (.getfield 7, 3) := by decide +kernel
theorem dX7_drawn_129 : decode cX7_drawn 129 = .ok (.bipush 73, 2) := by decide +kernel
theorem dX7_drawn_131 : decode cX7_drawn 131 = .ok (.lload 4, 2) := by decide +kernel
theorem dX7_drawn_133 : decode cX7_drawn 133 = .ok (.aload_n 0, 1) := by decide +kernel
theorem dX7_drawn_134 : decode cX7_drawn 134 = .ok (.getfield 7, 3) := by decide +kernel
theorem dX7_drawn_137 : decode cX7_drawn 137 = .ok (.iconst 1, 1) := by decide +kernel
theorem dX7_drawn_138 : decode cX7_drawn 138 = .ok (.iaload, 1) := by decide +kernel
theorem dX7_drawn_139 : decode cX7_drawn 139 = .ok (.i2l, 1) := by decide +kernel
theorem dX7_drawn_140 : decode cX7_drawn 140 = .ok (.lrem, 1) := by decide +kernel
theorem dX7_drawn_141 : decode cX7_drawn 141 = .ok (.l2i, 1) := by decide +kernel
theorem dX7_drawn_142 : decode cX7_drawn 142 = .ok (.iadd, 1) := by decide +kernel
theorem dX7_drawn_143 : decode cX7_drawn 143 = .ok (.lload 4, 2) := by decide +kernel
theorem dX7_drawn_145 : decode cX7_drawn 145 = .ok (.ldc2_w 212, 3) := by decide +kernel
theorem dX7_drawn_148 : decode cX7_drawn 148 = .ok (.lrem, 1) := by decide +kernel
theorem dX7_drawn_149 : decode cX7_drawn 149 = .ok (.l2i, 1) := by decide +kernel
theorem dX7_drawn_150 : decode cX7_drawn 150 = .ok (.iastore, 1) := by decide +kernel
theorem dX7_drawn_151 : decode cX7_drawn 151 = .ok (.lload 4, 2) := by decide +kernel
theorem dX7_drawn_153 : decode cX7_drawn 153 = .ok (.aload_n 0, 1) := by decide +kernel
theorem dX7_drawn_154 : decode cX7_drawn 154 = .ok (.getfield 7, 3) := by decide +kernel
theorem dX7_drawn_157 : decode cX7_drawn 157 = .ok (.iconst 0, 1) := by decide +kernel
theorem dX7_drawn_158 : decode cX7_drawn 158 = .ok (.iaload, 1) := by decide +kernel
theorem dX7_drawn_159 : decode cX7_drawn 159 = .ok (.i2l, 1) := by decide +kernel
theorem dX7_drawn_160 : decode cX7_drawn 160 = .ok (.lrem, 1) := by decide +kernel
theorem dX7_drawn_161 : decode cX7_drawn 161 = .ok (.l2i, 1) := by decide +kernel
theorem dX7_drawn_162 : decode cX7_drawn 162 = .ok (.istore 8, 2) := by decide +kernel
theorem dX7_drawn_164 : decode cX7_drawn 164 = .ok (.aload_n 0, 1) := by decide +kernel
theorem dX7_drawn_165 : decode cX7_drawn 165 = .ok (.getfield 7, 3) := by decide +kernel
theorem dX7_drawn_168 : decode cX7_drawn 168 = .ok (.bipush 48, 2) := by decide +kernel
theorem dX7_drawn_170 : decode cX7_drawn 170 = .ok (.iaload, 1) := by decide +kernel
theorem dX7_drawn_171 : decode cX7_drawn 171 = .ok (.iload 8, 2) := by decide +kernel
theorem dX7_drawn_173 : decode cX7_drawn 173 = .ok (.invokestatic 127, 3) := by decide +kernel
theorem dX7_drawn_176 : decode cX7_drawn 176 = .ok (.ifCond .eq 11, 3) := by decide +kernel
theorem dX7_drawn_179 : decode cX7_drawn 179 = .ok (.aload_n 0, 1) := by decide +kernel
theorem dX7_drawn_180 : decode cX7_drawn 180 = .ok (.bipush 43, 2) := by decide +kernel
theorem dX7_drawn_182 : decode cX7_drawn 182 = .ok (.iload 8, 2) := by decide +kernel
theorem dX7_drawn_184 : decode cX7_drawn 184 = .ok (.invokevirtual 160, 3) := by decide +kernel
theorem dX7_drawn_187 : decode cX7_drawn 187 = .ok (.aload_n 0, 1) := by decide +kernel
theorem dX7_drawn_188 : decode cX7_drawn 188 = .ok (.bipush 43, 2) := by decide +kernel
theorem dX7_drawn_190 : decode cX7_drawn 190 = .ok (.invokevirtual 146, 3) := by decide +kernel
theorem dX7_drawn_193 : decode cX7_drawn 193 = .ok (.iload 6, 2) := by decide +kernel
theorem dX7_drawn_195 : decode cX7_drawn 195 = .ok (.aload_n 0, 1) := by decide +kernel
theorem dX7_drawn_196 : decode cX7_drawn 196 = .ok (.bipush 43, 2) := by decide +kernel
theorem dX7_drawn_198 : decode cX7_drawn 198 = .ok (.invokevirtual 149, 3) := by decide +kernel
theorem dX7_drawn_201 : decode cX7_drawn 201 = .ok (.iadd, 1) := by decide +kernel
theorem dX7_drawn_202 : decode cX7_drawn 202 = .ok (.istore 6, 2) := by decide +kernel
theorem dX7_drawn_204 : decode cX7_drawn 204 = .ok (.iinc 7 1, 3) := by decide +kernel
theorem dX7_drawn_207 : decode cX7_drawn 207 = .ok (.goto (-138), 3) := by decide +kernel
theorem dX7_drawn_210 : decode cX7_drawn 210 = .ok (.iload_n 3, 1) := by decide +kernel
theorem dX7_drawn_211 : decode cX7_drawn 211 = .ok (.ifCond .ne 13, 3) := by decide +kernel
theorem dX7_drawn_214 : decode cX7_drawn 214 = .ok (.aload_n 0, 1) := by decide +kernel
theorem dX7_drawn_215 : decode cX7_drawn 215 = .ok (.getfield 7, 3) := by decide +kernel
theorem dX7_drawn_218 : decode cX7_drawn 218 = .ok (.bipush 85, 2) := by decide +kernel
theorem dX7_drawn_220 : decode cX7_drawn 220 = .ok (.iaload, 1) := by decide +kernel
theorem dX7_drawn_221 : decode cX7_drawn 221 = .ok (.goto 5, 3) := by decide +kernel
theorem dX7_drawn_224 : decode cX7_drawn 224 = .ok (.iload 6, 2) := by decide +kernel
theorem dX7_drawn_226 : decode cX7_drawn 226 = .ok (.ireturn, 1) := by decide +kernel
theorem dX7_image_0 : decode cX7_image 0 = .ok (.iload_n 1, 1) := by decide +kernel
theorem dX7_image_1 : decode cX7_image 1 = .ok (.i2l, 1) := by decide +kernel
theorem dX7_image_2 : decode cX7_image 2 = .ok (.lconst 0, 1) := by decide +kernel
theorem dX7_image_3 : decode cX7_image 3 = .ok (.lconst 1, 1) := by decide +kernel
theorem dX7_image_4 : decode cX7_image 4 = .ok (.invokestatic 41, 3) := by decide +kernel
theorem dX7_image_7 : decode cX7_image 7 = .ok (.ifCond .ne 6, 3) := by decide +kernel
theorem dX7_image_10 : decode cX7_image 10 = .ok (.ldc 58, 2) := by decide +kernel
theorem dX7_image_12 : decode cX7_image 12 = .ok (.ireturn, 1) := by decide +kernel
theorem dX7_image_13 : decode cX7_image 13 = .ok (.aload_n 0, 1) := by decide +kernel
theorem dX7_image_14 : decode cX7_image 14 = .ok (.invokevirtual 138, 3) := by decide +kernel
theorem dX7_image_17 : decode cX7_image 17 = .ok (.ifCond .ne 6, 3) := by decide +kernel
theorem dX7_image_20 : decode cX7_image 20 = .ok (.ldc 137, 2) := by decide +kernel
theorem dX7_image_22 : decode cX7_image 22 = .ok (.ireturn, 1) := by decide +kernel
theorem dX7_image_23 : decode cX7_image 23 = .ok (.aload_n 0, 1) := by decide +kernel
theorem dX7_image_24 : decode cX7_image 24 = .ok (.iconst 0, 1) := by decide +kernel
theorem dX7_image_25 : decode cX7_image 25 = .ok (.bipush 86, 2) := by decide +kernel
theorem dX7_image_27 : decode cX7_image 27 = .ok (.bipush 43, 2) := by decide +kernel
theorem dX7_image_29 : decode cX7_image 29 = .ok (.iload_n 1, 1) := by decide +kernel
theorem dX7_image_30 : decode cX7_image 30 = .ok (.imul, 1) := by decide +kernel
theorem dX7_image_31 : decode cX7_image 31 = .ok (.iadd, 1) := by decide +kernel
theorem dX7_image_32 : decode cX7_image 32 = .ok (.invokevirtual 120, 3) := by decide +kernel
theorem dX7_image_35 : decode cX7_image 35 = .ok (.aload_n 0, 1) := by decide +kernel
theorem dX7_image_36 : decode cX7_image 36 = .ok (.getfield 34, 3) := by decide +kernel
theorem dX7_image_39 : decode cX7_image 39 = .ok (.iload_n 1, 1) := by decide +kernel
theorem dX7_image_40 : decode cX7_image 40 = .ok (.iconst 1, 1) := by decide +kernel
theorem dX7_image_41 : decode cX7_image 41 = .ok (.bastore, 1) := by decide +kernel
theorem dX7_image_42 : decode cX7_image 42 = .ok (.iconst 1, 1) := by decide +kernel
theorem dX7_image_43 : decode cX7_image 43 = .ok (.ireturn, 1) := by decide +kernel
theorem dX7_restore_0 : decode cX7_restore 0 = .ok (.iload_n 1, 1) := by decide +kernel
theorem dX7_restore_1 : decode cX7_restore 1 = .ok (.i2l, 1) := by decide +kernel
theorem dX7_restore_2 : decode cX7_restore 2 = .ok (.lconst 0, 1) := by decide +kernel
theorem dX7_restore_3 : decode cX7_restore 3 = .ok (.lconst 1, 1) := by decide +kernel
theorem dX7_restore_4 : decode cX7_restore 4 = .ok (.invokestatic 41, 3) := by decide +kernel
theorem dX7_restore_7 : decode cX7_restore 7 = .ok (.ifCond .ne 6, 3) := by decide +kernel
theorem dX7_restore_10 : decode cX7_restore 10 = .ok (.ldc 58, 2) := by decide +kernel
theorem dX7_restore_12 : decode cX7_restore 12 = .ok (.ireturn, 1) := by decide +kernel
theorem dX7_restore_13 : decode cX7_restore 13 = .ok (.aload_n 0, 1) := by decide +kernel
theorem dX7_restore_14 : decode cX7_restore 14 = .ok (.getfield 34, 3) := by decide +kernel
theorem dX7_restore_17 : decode cX7_restore 17 = .ok (.iload_n 1, 1) := by decide +kernel
theorem dX7_restore_18 : decode cX7_restore 18 = .ok (.baload, 1) := by decide +kernel
theorem dX7_restore_19 : decode cX7_restore 19 = .ok (.ifCond .ne 6, 3) := by decide +kernel
theorem dX7_restore_22 : decode cX7_restore 22 = .ok (.ldc 137, 2) := by decide +kernel
theorem dX7_restore_24 : decode cX7_restore 24 = .ok (.ireturn, 1) := by decide +kernel
theorem dX7_restore_25 : decode cX7_restore 25 = .ok (.aload_n 0, 1) := by decide +kernel
theorem dX7_restore_26 : decode cX7_restore 26 = .ok (.bipush 86, 2) := by decide +kernel
theorem dX7_restore_28 : decode cX7_restore 28 = .ok (.bipush 43, 2) := by decide +kernel
theorem dX7_restore_30 : decode cX7_restore 30 = .ok (.iload_n 1, 1) := by decide +kernel
theorem dX7_restore_31 : decode cX7_restore 31 = .ok (.imul, 1) := by decide +kernel
theorem dX7_restore_32 : decode cX7_restore 32 = .ok (.iadd, 1) := by decide +kernel
theorem dX7_restore_33 : decode cX7_restore 33 = .ok (.iconst 0, 1) := by decide +kernel
theorem dX7_restore_34 : decode cX7_restore 34 = .ok (.invokevirtual 120, 3) := by decide +kernel
theorem dX7_restore_37 : decode cX7_restore 37 = .ok (.aload_n 0, 1) := by decide +kernel
theorem dX7_restore_38 : decode cX7_restore 38 = .ok (.iconst 0, 1) := by decide +kernel
theorem dX7_restore_39 : decode cX7_restore 39 = .ok (.putfield 124, 3) := by decide +kernel
theorem dX7_restore_42 : decode cX7_restore 42 = .ok (.iconst 1, 1) := by decide +kernel
theorem dX7_restore_43 : decode cX7_restore 43 = .ok (.ireturn, 1) := by decide +kernel
theorem dX7_kind_0 : decode cX7_kind 0 = .ok (.aload_n 0, 1) := by decide +kernel
theorem dX7_kind_1 : decode cX7_kind 1 = .ok (.iload_n 1, 1) := by decide +kernel
theorem dX7_kind_2 : decode cX7_kind 2 = .ok (.invokevirtual 157, 3) := by decide +kernel
theorem dX7_kind_5 : decode cX7_kind 5 = .ok (.ifCond .eq 15, 3) := by decide +kernel
theorem dX7_kind_8 : decode cX7_kind 8 = .ok (.aload_n 0, 1) := by decide +kernel
theorem dX7_kind_9 : decode cX7_kind 9 = .ok (.getfield 7, 3) := by decide +kernel
theorem dX7_kind_12 : decode cX7_kind 12 = .ok (.bipush 6, 2) := by decide +kernel
theorem dX7_kind_14 : decode cX7_kind 14 = .ok (.iload_n 1, 1) := by decide +kernel
theorem dX7_kind_15 : decode cX7_kind 15 = .ok (.iadd, 1) := by decide +kernel
theorem dX7_kind_16 : decode cX7_kind 16 = .ok (.iaload, 1) := by decide +kernel
theorem dX7_kind_17 : decode cX7_kind 17 = .ok (.goto 5, 3) := by decide +kernel
theorem dX7_kind_20 : decode cX7_kind 20 = .ok (.ldc 58, 2) := by decide +kernel
theorem dX7_kind_22 : decode cX7_kind 22 = .ok (.ireturn, 1) := by decide +kernel
theorem dX7_isA_0 : decode cX7_isA 0 = .ok (.iload_n 1, 1) := by decide +kernel
theorem dX7_isA_1 : decode cX7_isA 1 = .ok (.ifCond .eq 33, 3) := by decide +kernel
theorem dX7_isA_4 : decode cX7_isA 4 = .ok (.iload_n 1, 1) := by decide +kernel
theorem dX7_isA_5 : decode cX7_isA 5 = .ok (.iload_n 0, 1) := by decide +kernel
theorem dX7_isA_6 : decode cX7_isA 6 = .ok (.if_icmp .eq 28, 3) := by decide +kernel
theorem dX7_isA_9 : decode cX7_isA 9 = .ok (.iload_n 1, 1) := by decide +kernel
theorem dX7_isA_10 : decode cX7_isA 10 = .ok (.iconst 1, 1) := by decide +kernel
theorem dX7_isA_11 : decode cX7_isA 11 = .ok (.if_icmp .ne 13, 3) := by decide +kernel
theorem dX7_isA_14 : decode cX7_isA 14 = .ok (.iload_n 0, 1) := by decide +kernel
theorem dX7_isA_15 : decode cX7_isA 15 = .ok (.iconst 2, 1) := by decide +kernel
theorem dX7_isA_16 : decode cX7_isA 16 = .ok (.if_icmp .eq 18, 3) := by decide +kernel
theorem dX7_isA_19 : decode cX7_isA 19 = .ok (.iload_n 0, 1) := by decide +kernel
theorem dX7_isA_20 : decode cX7_isA 20 = .ok (.iconst 3, 1) := by decide +kernel
theorem dX7_isA_21 : decode cX7_isA 21 = .ok (.if_icmp .eq 13, 3) := by decide +kernel
theorem dX7_isA_24 : decode cX7_isA 24 = .ok (.iload_n 1, 1) := by decide +kernel
theorem dX7_isA_25 : decode cX7_isA 25 = .ok (.iconst 4, 1) := by decide +kernel
theorem dX7_isA_26 : decode cX7_isA 26 = .ok (.if_icmp .ne 12, 3) := by decide +kernel
theorem dX7_isA_29 : decode cX7_isA 29 = .ok (.iload_n 0, 1) := by decide +kernel
theorem dX7_isA_30 : decode cX7_isA 30 = .ok (.iconst 5, 1) := by decide +kernel
theorem dX7_isA_31 : decode cX7_isA 31 = .ok (.if_icmp .ne 7, 3) := by decide +kernel
theorem dX7_isA_34 : decode cX7_isA 34 = .ok (.iconst 1, 1) := by decide +kernel
theorem dX7_isA_35 : decode cX7_isA 35 = .ok (.goto 4, 3) := by decide +kernel
theorem dX7_isA_38 : decode cX7_isA 38 = .ok (.iconst 0, 1) := by decide +kernel
theorem dX7_isA_39 : decode cX7_isA 39 = .ok (.ireturn, 1) := by decide +kernel
theorem dX7_as_0 : decode cX7_as 0 = .ok (.aload_n 0, 1) := by decide +kernel
theorem dX7_as_1 : decode cX7_as 1 = .ok (.iload_n 1, 1) := by decide +kernel
theorem dX7_as_2 : decode cX7_as 2 = .ok (.invokevirtual 157, 3) := by decide +kernel
theorem dX7_as_5 : decode cX7_as 5 = .ok (.ifCond .eq 15, 3) := by decide +kernel
theorem dX7_as_8 : decode cX7_as 8 = .ok (.iload_n 2, 1) := by decide +kernel
theorem dX7_as_9 : decode cX7_as 9 = .ok (.i2l, 1) := by decide +kernel
theorem dX7_as_10 : decode cX7_as 10 = .ok (.lconst 0, 1) := by decide +kernel
theorem dX7_as_11 : decode cX7_as 11 = .ok (.ldc2_w 214, 3) := by decide +kernel
theorem dX7_as_14 : decode cX7_as 14 = .ok (.invokestatic 41, 3) := by decide +kernel
theorem dX7_as_17 : decode cX7_as 17 = .ok (.ifCond .ne 6, 3) := by decide +kernel
theorem dX7_as_20 : decode cX7_as 20 = .ok (.ldc 58, 2) := by decide +kernel
theorem dX7_as_22 : decode cX7_as 22 = .ok (.ireturn, 1) := by decide +kernel
theorem dX7_as_23 : decode cX7_as 23 = .ok (.aload_n 0, 1) := by decide +kernel
theorem dX7_as_24 : decode cX7_as 24 = .ok (.getfield 7, 3) := by decide +kernel
theorem dX7_as_27 : decode cX7_as 27 = .ok (.bipush 6, 2) := by decide +kernel
theorem dX7_as_29 : decode cX7_as 29 = .ok (.iload_n 1, 1) := by decide +kernel
theorem dX7_as_30 : decode cX7_as 30 = .ok (.iadd, 1) := by decide +kernel
theorem dX7_as_31 : decode cX7_as 31 = .ok (.iaload, 1) := by decide +kernel
theorem dX7_as_32 : decode cX7_as 32 = .ok (.iload_n 2, 1) := by decide +kernel
theorem dX7_as_33 : decode cX7_as 33 = .ok (.invokestatic 216, 3) := by decide +kernel
theorem dX7_as_36 : decode cX7_as 36 = .ok (.ifCond .ne 9, 3) := by decide +kernel
theorem dX7_as_39 : decode cX7_as 39 = .ok (.aload_n 0, 1) := by decide +kernel
theorem dX7_as_40 : decode cX7_as 40 = .ok (.iconst 3, 1) := by decide +kernel
theorem dX7_as_41 : decode cX7_as 41 = .ok (.invokevirtual 59, 3) := by decide +kernel
theorem dX7_as_44 : decode cX7_as 44 = .ok (.ireturn, 1) := by decide +kernel
theorem dX7_as_45 : decode cX7_as 45 = .ok (.aload_n 0, 1) := by decide +kernel
theorem dX7_as_46 : decode cX7_as 46 = .ok (.iconst 0, 1) := by decide +kernel
theorem dX7_as_47 : decode cX7_as 47 = .ok (.putfield 47, 3) := by decide +kernel
theorem dX7_as_50 : decode cX7_as 50 = .ok (.iload_n 1, 1) := by decide +kernel
theorem dX7_as_51 : decode cX7_as 51 = .ok (.ireturn, 1) := by decide +kernel
theorem dX7_traces_0 : decode cX7_traces 0 = .ok (.aload_n 0, 1) := by decide +kernel
theorem dX7_traces_1 : decode cX7_traces 1 = .ok (.getfield 219, 3) := by decide +kernel
theorem dX7_traces_4 : decode cX7_traces 4 = .ok (.bipush 16, 2) := by decide +kernel
theorem dX7_traces_6 : decode cX7_traces 6 = .ok (.if_icmp .ge 23, 3) := by decide +kernel
theorem dX7_traces_9 : decode cX7_traces 9 = .ok (.aload_n 0, 1) := by decide +kernel
theorem dX7_traces_10 : decode cX7_traces 10 = .ok (.getfield 38, 3) := by decide +kernel
theorem dX7_traces_13 : decode cX7_traces 13 = .ok (.aload_n 0, 1) := by decide +kernel
theorem dX7_traces_14 : decode cX7_traces 14 = .ok (.getfield 219, 3) := by decide +kernel
theorem dX7_traces_17 : decode cX7_traces 17 = .ok (.iload_n 1, 1) := by decide +kernel
theorem dX7_traces_18 : decode cX7_traces 18 = .ok (.iastore, 1) := by decide +kernel
theorem dX7_traces_19 : decode cX7_traces 19 = .ok (.aload_n 0, 1) := by decide +kernel
theorem dX7_traces_20 : decode cX7_traces 20 = .ok (.dup, 1) := by decide +kernel
theorem dX7_traces_21 : decode cX7_traces 21 = .ok (.getfield 219, 3) := by decide +kernel
theorem dX7_traces_24 : decode cX7_traces 24 = .ok (.iconst 1, 1) := by decide +kernel
theorem dX7_traces_25 : decode cX7_traces 25 = .ok (.iadd, 1) := by decide +kernel
theorem dX7_traces_26 : decode cX7_traces 26 = .ok (.putfield 219, 3) := by decide +kernel
theorem dX7_traces_29 : decode cX7_traces 29 = .ok (.return_, 1) := by decide +kernel
theorem dX7_size10_0 : decode cX7_size10 0 = .ok (.aload_n 0, 1) := by decide +kernel
theorem dX7_size10_1 : decode cX7_size10 1 = .ok (.bipush 10, 2) := by decide +kernel
theorem dX7_size10_3 : decode cX7_size10 3 = .ok (.invokevirtual 222, 3) := by decide +kernel
theorem dX7_size10_6 : decode cX7_size10 6 = .ok (.aload_n 0, 1) := by decide +kernel
theorem dX7_size10_7 : decode cX7_size10 7 = .ok (.getfield 7, 3) := by decide +kernel
theorem dX7_size10_10 : decode cX7_size10 10 = .ok (.bipush 12, 2) := by decide +kernel
theorem dX7_size10_12 : decode cX7_size10 12 = .ok (.iload_n 1, 1) := by decide +kernel
theorem dX7_size10_13 : decode cX7_size10 13 = .ok (.iadd, 1) := by decide +kernel
theorem dX7_size10_14 : decode cX7_size10 14 = .ok (.iaload, 1) := by decide +kernel
theorem dX7_size10_15 : decode cX7_size10 15 = .ok (.ireturn, 1) := by decide +kernel
theorem dX7_size11_0 : decode cX7_size11 0 = .ok (.aload_n 0, 1) := by decide +kernel
theorem dX7_size11_1 : decode cX7_size11 1 = .ok (.bipush 11, 2) := by decide +kernel
theorem dX7_size11_3 : decode cX7_size11 3 = .ok (.invokevirtual 222, 3) := by decide +kernel
theorem dX7_size11_6 : decode cX7_size11 6 = .ok (.aload_n 0, 1) := by decide +kernel
theorem dX7_size11_7 : decode cX7_size11 7 = .ok (.iload_n 1, 1) := by decide +kernel
theorem dX7_size11_8 : decode cX7_size11 8 = .ok (.invokevirtual 225, 3) := by decide +kernel
theorem dX7_size11_11 : decode cX7_size11 11 = .ok (.istore_n 2, 1) := by decide +kernel
theorem dX7_size11_12 : decode cX7_size11 12 = .ok (.iload_n 2, 1) := by decide +kernel
theorem dX7_size11_13 : decode cX7_size11 13 = .ok (.aload_n 0, 1) := by decide +kernel
theorem dX7_size11_14 : decode cX7_size11 14 = .ok (.iload_n 1, 1) := by decide +kernel
theorem dX7_size11_15 : decode cX7_size11 15 = .ok (.invokevirtual 228, 3) := by decide +kernel
theorem dX7_size11_18 : decode cX7_size11 18 = .ok (.iadd, 1) := by decide +kernel
theorem dX7_size11_19 : decode cX7_size11 19 = .ok (.ireturn, 1) := by decide +kernel
theorem dX7_size13_0 : decode cX7_size13 0 = .ok (.aload_n 0, 1) := by decide +kernel
theorem dX7_size13_1 : decode cX7_size13 1 = .ok (.bipush 13, 2) := by decide +kernel
theorem dX7_size13_3 : decode cX7_size13 3 = .ok (.invokevirtual 222, 3) := by decide +kernel
theorem dX7_size13_6 : decode cX7_size13 6 = .ok (.aload_n 0, 1) := by decide +kernel
theorem dX7_size13_7 : decode cX7_size13 7 = .ok (.iload_n 1, 1) := by decide +kernel
theorem dX7_size13_8 : decode cX7_size13 8 = .ok (.invokevirtual 225, 3) := by decide +kernel
theorem dX7_size13_11 : decode cX7_size13 11 = .ok (.bipush 100, 2) := by decide +kernel
theorem dX7_size13_13 : decode cX7_size13 13 = .ok (.isub, 1) := by decide +kernel
theorem dX7_size13_14 : decode cX7_size13 14 = .ok (.ireturn, 1) := by decide +kernel
theorem dX7_sizeOf_0 : decode cX7_sizeOf 0 = .ok (.aload_n 0, 1) := by decide +kernel
theorem dX7_sizeOf_1 : decode cX7_sizeOf 1 = .ok (.getfield 7, 3) := by decide +kernel
theorem dX7_sizeOf_4 : decode cX7_sizeOf 4 = .ok (.bipush 6, 2) := by decide +kernel
theorem dX7_sizeOf_6 : decode cX7_sizeOf 6 = .ok (.iload_n 1, 1) := by decide +kernel
theorem dX7_sizeOf_7 : decode cX7_sizeOf 7 = .ok (.iadd, 1) := by decide +kernel
theorem dX7_sizeOf_8 : decode cX7_sizeOf 8 = .ok (.iaload, 1) := by decide +kernel
theorem dX7_sizeOf_9 : decode cX7_sizeOf 9 = .ok (.tableswitch 64 2 5 #[31, 64, 44, 50], 31) := by decide +kernel
theorem dX7_sizeOf_40 : decode cX7_sizeOf 40 = .ok (.aload_n 0, 1) := by decide +kernel
theorem dX7_sizeOf_41 : decode cX7_sizeOf 41 = .ok (.bipush 12, 2) := by decide +kernel
theorem dX7_sizeOf_43 : decode cX7_sizeOf 43 = .ok (.invokevirtual 222, 3) := by decide +kernel
theorem dX7_sizeOf_46 : decode cX7_sizeOf 46 = .ok (.aload_n 0, 1) := by decide +kernel
theorem dX7_sizeOf_47 : decode cX7_sizeOf 47 = .ok (.iload_n 1, 1) := by decide +kernel
theorem dX7_sizeOf_48 : decode cX7_sizeOf 48 = .ok (.invokevirtual 231, 3) := by decide +kernel
theorem dX7_sizeOf_51 : decode cX7_sizeOf 51 = .ok (.ineg, 1) := by decide +kernel
theorem dX7_sizeOf_52 : decode cX7_sizeOf 52 = .ok (.ireturn, 1) := by decide +kernel
theorem dX7_sizeOf_53 : decode cX7_sizeOf 53 = .ok (.aload_n 0, 1) := by decide +kernel
theorem dX7_sizeOf_54 : decode cX7_sizeOf 54 = .ok (.iload_n 1, 1) := by decide +kernel
theorem dX7_sizeOf_55 : decode cX7_sizeOf 55 = .ok (.invokevirtual 234, 3) := by decide +kernel
theorem dX7_sizeOf_58 : decode cX7_sizeOf 58 = .ok (.ireturn, 1) := by decide +kernel
theorem dX7_sizeOf_59 : decode cX7_sizeOf 59 = .ok (.aload_n 0, 1) := by decide +kernel
theorem dX7_sizeOf_60 : decode cX7_sizeOf 60 = .ok (.bipush 14, 2) := by decide +kernel
theorem dX7_sizeOf_62 : decode cX7_sizeOf 62 = .ok (.invokevirtual 222, 3) := by decide +kernel
theorem dX7_sizeOf_65 : decode cX7_sizeOf 65 = .ok (.iconst 2, 1) := by decide +kernel
theorem dX7_sizeOf_66 : decode cX7_sizeOf 66 = .ok (.aload_n 0, 1) := by decide +kernel
theorem dX7_sizeOf_67 : decode cX7_sizeOf 67 = .ok (.iload_n 1, 1) := by decide +kernel
theorem dX7_sizeOf_68 : decode cX7_sizeOf 68 = .ok (.invokevirtual 234, 3) := by decide +kernel
theorem dX7_sizeOf_71 : decode cX7_sizeOf 71 = .ok (.imul, 1) := by decide +kernel
theorem dX7_sizeOf_72 : decode cX7_sizeOf 72 = .ok (.ireturn, 1) := by decide +kernel
theorem dX7_sizeOf_73 : decode cX7_sizeOf 73 = .ok (.aload_n 0, 1) := by decide +kernel
theorem dX7_sizeOf_74 : decode cX7_sizeOf 74 = .ok (.iload_n 1, 1) := by decide +kernel
theorem dX7_sizeOf_75 : decode cX7_sizeOf 75 = .ok (.invokevirtual 231, 3) := by decide +kernel
theorem dX7_sizeOf_78 : decode cX7_sizeOf 78 = .ok (.ireturn, 1) := by decide +kernel
theorem dX7_mark20_0 : decode cX7_mark20 0 = .ok (.aload_n 0, 1) := by decide +kernel
theorem dX7_mark20_1 : decode cX7_mark20 1 = .ok (.bipush 20, 2) := by decide +kernel
theorem dX7_mark20_3 : decode cX7_mark20 3 = .ok (.invokevirtual 222, 3) := by decide +kernel
theorem dX7_mark20_6 : decode cX7_mark20 6 = .ok (.iload_n 1, 1) := by decide +kernel
theorem dX7_mark20_7 : decode cX7_mark20 7 = .ok (.ireturn, 1) := by decide +kernel
theorem dX7_mark21_0 : decode cX7_mark21 0 = .ok (.aload_n 0, 1) := by decide +kernel
theorem dX7_mark21_1 : decode cX7_mark21 1 = .ok (.bipush 21, 2) := by decide +kernel
theorem dX7_mark21_3 : decode cX7_mark21 3 = .ok (.invokevirtual 222, 3) := by decide +kernel
theorem dX7_mark21_6 : decode cX7_mark21 6 = .ok (.aload_n 0, 1) := by decide +kernel
theorem dX7_mark21_7 : decode cX7_mark21 7 = .ok (.iload_n 1, 1) := by decide +kernel
theorem dX7_mark21_8 : decode cX7_mark21 8 = .ok (.invokevirtual 237, 3) := by decide +kernel
theorem dX7_mark21_11 : decode cX7_mark21 11 = .ok (.aload_n 0, 1) := by decide +kernel
theorem dX7_mark21_12 : decode cX7_mark21 12 = .ok (.getfield 7, 3) := by decide +kernel
theorem dX7_mark21_15 : decode cX7_mark21 15 = .ok (.bipush 18, 2) := by decide +kernel
theorem dX7_mark21_17 : decode cX7_mark21 17 = .ok (.iload_n 1, 1) := by decide +kernel
theorem dX7_mark21_18 : decode cX7_mark21 18 = .ok (.iadd, 1) := by decide +kernel
theorem dX7_mark21_19 : decode cX7_mark21 19 = .ok (.iaload, 1) := by decide +kernel
theorem dX7_mark21_20 : decode cX7_mark21 20 = .ok (.iadd, 1) := by decide +kernel
theorem dX7_mark21_21 : decode cX7_mark21 21 = .ok (.ireturn, 1) := by decide +kernel
theorem dX7_markOf_0 : decode cX7_markOf 0 = .ok (.aload_n 0, 1) := by decide +kernel
theorem dX7_markOf_1 : decode cX7_markOf 1 = .ok (.getfield 7, 3) := by decide +kernel
theorem dX7_markOf_4 : decode cX7_markOf 4 = .ok (.bipush 6, 2) := by decide +kernel
theorem dX7_markOf_6 : decode cX7_markOf 6 = .ok (.iload_n 1, 1) := by decide +kernel
theorem dX7_markOf_7 : decode cX7_markOf 7 = .ok (.iadd, 1) := by decide +kernel
theorem dX7_markOf_8 : decode cX7_markOf 8 = .ok (.iaload, 1) := by decide +kernel
theorem dX7_markOf_9 : decode cX7_markOf 9 = .ok (.lookupswitch 57 #[(2, 27), (3, 41)], 27) := by decide +kernel
theorem dX7_markOf_36 : decode cX7_markOf 36 = .ok (.aload_n 0, 1) := by decide +kernel
theorem dX7_markOf_37 : decode cX7_markOf 37 = .ok (.bipush 24, 2) := by decide +kernel
theorem dX7_markOf_39 : decode cX7_markOf 39 = .ok (.invokevirtual 222, 3) := by decide +kernel
theorem dX7_markOf_42 : decode cX7_markOf 42 = .ok (.iconst 2, 1) := by decide +kernel
theorem dX7_markOf_43 : decode cX7_markOf 43 = .ok (.aload_n 0, 1) := by decide +kernel
theorem dX7_markOf_44 : decode cX7_markOf 44 = .ok (.iload_n 1, 1) := by decide +kernel
theorem dX7_markOf_45 : decode cX7_markOf 45 = .ok (.invokevirtual 240, 3) := by decide +kernel
theorem dX7_markOf_48 : decode cX7_markOf 48 = .ok (.imul, 1) := by decide +kernel
theorem dX7_markOf_49 : decode cX7_markOf 49 = .ok (.ireturn, 1) := by decide +kernel
theorem dX7_markOf_50 : decode cX7_markOf 50 = .ok (.aload_n 0, 1) := by decide +kernel
theorem dX7_markOf_51 : decode cX7_markOf 51 = .ok (.bipush 22, 2) := by decide +kernel
theorem dX7_markOf_53 : decode cX7_markOf 53 = .ok (.invokevirtual 222, 3) := by decide +kernel
theorem dX7_markOf_56 : decode cX7_markOf 56 = .ok (.aload_n 0, 1) := by decide +kernel
theorem dX7_markOf_57 : decode cX7_markOf 57 = .ok (.iload_n 1, 1) := by decide +kernel
theorem dX7_markOf_58 : decode cX7_markOf 58 = .ok (.invokevirtual 240, 3) := by decide +kernel
theorem dX7_markOf_61 : decode cX7_markOf 61 = .ok (.sipush 1000, 3) := by decide +kernel
theorem dX7_markOf_64 : decode cX7_markOf 64 = .ok (.isub, 1) := by decide +kernel
theorem dX7_markOf_65 : decode cX7_markOf 65 = .ok (.ireturn, 1) := by decide +kernel
theorem dX7_markOf_66 : decode cX7_markOf 66 = .ok (.aload_n 0, 1) := by decide +kernel
theorem dX7_markOf_67 : decode cX7_markOf 67 = .ok (.iload_n 1, 1) := by decide +kernel
theorem dX7_markOf_68 : decode cX7_markOf 68 = .ok (.invokevirtual 240, 3) := by decide +kernel
theorem dX7_markOf_71 : decode cX7_markOf 71 = .ok (.ireturn, 1) := by decide +kernel
theorem dX7_mark23_0 : decode cX7_mark23 0 = .ok (.aload_n 0, 1) := by decide +kernel
theorem dX7_mark23_1 : decode cX7_mark23 1 = .ok (.bipush 23, 2) := by decide +kernel
theorem dX7_mark23_3 : decode cX7_mark23 3 = .ok (.invokevirtual 222, 3) := by decide +kernel
theorem dX7_mark23_6 : decode cX7_mark23 6 = .ok (.aload_n 0, 1) := by decide +kernel
theorem dX7_mark23_7 : decode cX7_mark23 7 = .ok (.iload_n 1, 1) := by decide +kernel
theorem dX7_mark23_8 : decode cX7_mark23 8 = .ok (.invokevirtual 237, 3) := by decide +kernel
theorem dX7_mark23_11 : decode cX7_mark23 11 = .ok (.istore_n 2, 1) := by decide +kernel
theorem dX7_mark23_12 : decode cX7_mark23 12 = .ok (.iload_n 2, 1) := by decide +kernel
theorem dX7_mark23_13 : decode cX7_mark23 13 = .ok (.aload_n 0, 1) := by decide +kernel
theorem dX7_mark23_14 : decode cX7_mark23 14 = .ok (.iload_n 1, 1) := by decide +kernel
theorem dX7_mark23_15 : decode cX7_mark23 15 = .ok (.invokevirtual 243, 3) := by decide +kernel
theorem dX7_mark23_18 : decode cX7_mark23 18 = .ok (.isub, 1) := by decide +kernel
theorem dX7_mark23_19 : decode cX7_mark23 19 = .ok (.ireturn, 1) := by decide +kernel
theorem dX7_ask_0 : decode cX7_ask 0 = .ok (.aload_n 0, 1) := by decide +kernel
theorem dX7_ask_1 : decode cX7_ask 1 = .ok (.iload_n 1, 1) := by decide +kernel
theorem dX7_ask_2 : decode cX7_ask 2 = .ok (.invokevirtual 157, 3) := by decide +kernel
theorem dX7_ask_5 : decode cX7_ask 5 = .ok (.ifCond .eq 13, 3) := by decide +kernel
theorem dX7_ask_8 : decode cX7_ask 8 = .ok (.iload_n 2, 1) := by decide +kernel
theorem dX7_ask_9 : decode cX7_ask 9 = .ok (.i2l, 1) := by decide +kernel
theorem dX7_ask_10 : decode cX7_ask 10 = .ok (.lconst 0, 1) := by decide +kernel
theorem dX7_ask_11 : decode cX7_ask 11 = .ok (.lconst 1, 1) := by decide +kernel
theorem dX7_ask_12 : decode cX7_ask 12 = .ok (.invokestatic 41, 3) := by decide +kernel
theorem dX7_ask_15 : decode cX7_ask 15 = .ok (.ifCond .ne 6, 3) := by decide +kernel
theorem dX7_ask_18 : decode cX7_ask 18 = .ok (.ldc 58, 2) := by decide +kernel
theorem dX7_ask_20 : decode cX7_ask 20 = .ok (.ireturn, 1) := by decide +kernel
theorem dX7_ask_21 : decode cX7_ask 21 = .ok (.aload_n 0, 1) := by decide +kernel
theorem dX7_ask_22 : decode cX7_ask 22 = .ok (.iconst 0, 1) := by decide +kernel
theorem dX7_ask_23 : decode cX7_ask 23 = .ok (.putfield 219, 3) := by decide +kernel
theorem dX7_ask_26 : decode cX7_ask 26 = .ok (.iload_n 2, 1) := by decide +kernel
theorem dX7_ask_27 : decode cX7_ask 27 = .ok (.ifCond .ne 11, 3) := by decide +kernel
theorem dX7_ask_30 : decode cX7_ask 30 = .ok (.aload_n 0, 1) := by decide +kernel
theorem dX7_ask_31 : decode cX7_ask 31 = .ok (.iload_n 1, 1) := by decide +kernel
theorem dX7_ask_32 : decode cX7_ask 32 = .ok (.invokevirtual 243, 3) := by decide +kernel
theorem dX7_ask_35 : decode cX7_ask 35 = .ok (.goto 29, 3) := by decide +kernel
theorem dX7_ask_38 : decode cX7_ask 38 = .ok (.aload_n 0, 1) := by decide +kernel
theorem dX7_ask_39 : decode cX7_ask 39 = .ok (.getfield 7, 3) := by decide +kernel
theorem dX7_ask_42 : decode cX7_ask 42 = .ok (.bipush 6, 2) := by decide +kernel
theorem dX7_ask_44 : decode cX7_ask 44 = .ok (.iload_n 1, 1) := by decide +kernel
theorem dX7_ask_45 : decode cX7_ask 45 = .ok (.iadd, 1) := by decide +kernel
theorem dX7_ask_46 : decode cX7_ask 46 = .ok (.iaload, 1) := by decide +kernel
theorem dX7_ask_47 : decode cX7_ask 47 = .ok (.iconst 4, 1) := by decide +kernel
theorem dX7_ask_48 : decode cX7_ask 48 = .ok (.if_icmp .lt 11, 3) := by decide +kernel
theorem dX7_ask_51 : decode cX7_ask 51 = .ok (.aload_n 0, 1) := by decide +kernel
theorem dX7_ask_52 : decode cX7_ask 52 = .ok (.iload_n 1, 1) := by decide +kernel
theorem dX7_ask_53 : decode cX7_ask 53 = .ok (.invokevirtual 246, 3) := by decide +kernel
theorem dX7_ask_56 : decode cX7_ask 56 = .ok (.goto 8, 3) := by decide +kernel
theorem dX7_ask_59 : decode cX7_ask 59 = .ok (.aload_n 0, 1) := by decide +kernel
theorem dX7_ask_60 : decode cX7_ask 60 = .ok (.iload_n 1, 1) := by decide +kernel
theorem dX7_ask_61 : decode cX7_ask 61 = .ok (.invokevirtual 228, 3) := by decide +kernel
theorem dX7_ask_64 : decode cX7_ask 64 = .ok (.ireturn, 1) := by decide +kernel
theorem dX7_trace_0 : decode cX7_trace 0 = .ok (.iload_n 1, 1) := by decide +kernel
theorem dX7_trace_1 : decode cX7_trace 1 = .ok (.i2l, 1) := by decide +kernel
theorem dX7_trace_2 : decode cX7_trace 2 = .ok (.lconst 0, 1) := by decide +kernel
theorem dX7_trace_3 : decode cX7_trace 3 = .ok (.aload_n 0, 1) := by decide +kernel
theorem dX7_trace_4 : decode cX7_trace 4 = .ok (.getfield 219, 3) := by decide +kernel
theorem dX7_trace_7 : decode cX7_trace 7 = .ok (.iconst 1, 1) := by decide +kernel
theorem dX7_trace_8 : decode cX7_trace 8 = .ok (.isub, 1) := by decide +kernel
theorem dX7_trace_9 : decode cX7_trace 9 = .ok (.i2l, 1) := by decide +kernel
theorem dX7_trace_10 : decode cX7_trace 10 = .ok (.invokestatic 41, 3) := by decide +kernel
theorem dX7_trace_13 : decode cX7_trace 13 = .ok (.ifCond .eq 12, 3) := by decide +kernel
theorem dX7_trace_16 : decode cX7_trace 16 = .ok (.aload_n 0, 1) := by decide +kernel
theorem dX7_trace_17 : decode cX7_trace 17 = .ok (.getfield 38, 3) := by decide +kernel
theorem dX7_trace_20 : decode cX7_trace 20 = .ok (.iload_n 1, 1) := by decide +kernel
theorem dX7_trace_21 : decode cX7_trace 21 = .ok (.iaload, 1) := by decide +kernel
theorem dX7_trace_22 : decode cX7_trace 22 = .ok (.goto 5, 3) := by decide +kernel
theorem dX7_trace_25 : decode cX7_trace 25 = .ok (.ldc 180, 2) := by decide +kernel
theorem dX7_trace_27 : decode cX7_trace 27 = .ok (.ireturn, 1) := by decide +kernel
theorem dX7_rowsThere_0 : decode cX7_rowsThere 0 = .ok (.iconst 0, 1) := by decide +kernel
theorem dX7_rowsThere_1 : decode cX7_rowsThere 1 = .ok (.istore_n 1, 1) := by decide +kernel
theorem dX7_rowsThere_2 : decode cX7_rowsThere 2 = .ok (.iconst 0, 1) := by decide +kernel
theorem dX7_rowsThere_3 : decode cX7_rowsThere 3 = .ok (.istore_n 2, 1) := by decide +kernel
theorem dX7_rowsThere_4 : decode cX7_rowsThere 4 = .ok (.iload_n 2, 1) := by decide +kernel
theorem dX7_rowsThere_5 : decode cX7_rowsThere 5 = .ok (.bipush 8, 2) := by decide +kernel
theorem dX7_rowsThere_7 : decode cX7_rowsThere 7 = .ok (.if_icmp .ge 26, 3) := by decide +kernel
theorem dX7_rowsThere_10 : decode cX7_rowsThere 10 = .ok (.iload_n 1, 1) := by decide +kernel
theorem dX7_rowsThere_11 : decode cX7_rowsThere 11 = .ok (.aload_n 0, 1) := by decide +kernel
theorem dX7_rowsThere_12 : decode cX7_rowsThere 12 = .ok (.getfield 16, 3) := by decide +kernel
theorem dX7_rowsThere_15 : decode cX7_rowsThere 15 = .ok (.iload_n 2, 1) := by decide +kernel
theorem dX7_rowsThere_16 : decode cX7_rowsThere 16 = .ok (.iaload, 1) := by decide +kernel
theorem dX7_rowsThere_17 : decode cX7_rowsThere 17 = .ok (.ifCond .lt 7, 3) := by decide +kernel
theorem dX7_rowsThere_20 : decode cX7_rowsThere 20 = .ok (.iconst 1, 1) := by decide +kernel
theorem dX7_rowsThere_21 : decode cX7_rowsThere 21 = .ok (.goto 4, 3) := by decide +kernel
theorem dX7_rowsThere_24 : decode cX7_rowsThere 24 = .ok (.iconst 0, 1) := by decide +kernel
theorem dX7_rowsThere_25 : decode cX7_rowsThere 25 = .ok (.iadd, 1) := by decide +kernel
theorem dX7_rowsThere_26 : decode cX7_rowsThere 26 = .ok (.istore_n 1, 1) := by decide +kernel
theorem dX7_rowsThere_27 : decode cX7_rowsThere 27 = .ok (.iinc 2 1, 3) := by decide +kernel
theorem dX7_rowsThere_30 : decode cX7_rowsThere 30 = .ok (.goto (-26), 3) := by decide +kernel
theorem dX7_rowsThere_33 : decode cX7_rowsThere 33 = .ok (.iload_n 1, 1) := by decide +kernel
theorem dX7_rowsThere_34 : decode cX7_rowsThere 34 = .ok (.ireturn, 1) := by decide +kernel
theorem dX7_pluckedAll_0 : decode cX7_pluckedAll 0 = .ok (.iconst 0, 1) := by decide +kernel
theorem dX7_pluckedAll_1 : decode cX7_pluckedAll 1 = .ok (.istore_n 1, 1) := by decide +kernel
theorem dX7_pluckedAll_2 : decode cX7_pluckedAll 2 = .ok (.iconst 0, 1) := by decide +kernel
theorem dX7_pluckedAll_3 : decode cX7_pluckedAll 3 = .ok (.istore_n 2, 1) := by decide +kernel
theorem dX7_pluckedAll_4 : decode cX7_pluckedAll 4 = .ok (.iload_n 2, 1) := by decide +kernel
theorem dX7_pluckedAll_5 : decode cX7_pluckedAll 5 = .ok (.aload_n 0, 1) := by decide +kernel
theorem dX7_pluckedAll_6 : decode cX7_pluckedAll 6 = .ok (.getfield 7, 3) := by decide +kernel
theorem dX7_pluckedAll_9 : decode cX7_pluckedAll 9 = .ok (.iconst 0, 1) := by decide +kernel
theorem dX7_pluckedAll_10 : decode cX7_pluckedAll 10 = .ok (.iaload, 1) := by decide +kernel
theorem dX7_pluckedAll_11 : decode cX7_pluckedAll 11 = .ok (.if_icmp .ge 21, 3) := by decide +kernel
theorem dX7_pluckedAll_14 : decode cX7_pluckedAll 14 = .ok (.iload_n 1, 1) := by decide +kernel
theorem dX7_pluckedAll_15 : decode cX7_pluckedAll 15 = .ok (.aload_n 0, 1) := by decide +kernel
theorem dX7_pluckedAll_16 : decode cX7_pluckedAll 16 = .ok (.getfield 7, 3) := by decide +kernel
theorem dX7_pluckedAll_19 : decode cX7_pluckedAll 19 = .ok (.bipush 24, 2) := by decide +kernel
theorem dX7_pluckedAll_21 : decode cX7_pluckedAll 21 = .ok (.iload_n 2, 1) := by decide +kernel
theorem dX7_pluckedAll_22 : decode cX7_pluckedAll 22 = .ok (.iadd, 1) := by decide +kernel
theorem dX7_pluckedAll_23 : decode cX7_pluckedAll 23 = .ok (.iaload, 1) := by decide +kernel
theorem dX7_pluckedAll_24 : decode cX7_pluckedAll 24 = .ok (.iadd, 1) := by decide +kernel
theorem dX7_pluckedAll_25 : decode cX7_pluckedAll 25 = .ok (.istore_n 1, 1) := by decide +kernel
theorem dX7_pluckedAll_26 : decode cX7_pluckedAll 26 = .ok (.iinc 2 1, 3) := by decide +kernel
theorem dX7_pluckedAll_29 : decode cX7_pluckedAll 29 = .ok (.goto (-25), 3) := by decide +kernel
theorem dX7_pluckedAll_32 : decode cX7_pluckedAll 32 = .ok (.iload_n 1, 1) := by decide +kernel
theorem dX7_pluckedAll_33 : decode cX7_pluckedAll 33 = .ok (.ireturn, 1) := by decide +kernel
theorem dX7_count_0 : decode cX7_count 0 = .ok (.iload_n 1, 1) := by decide +kernel
theorem dX7_count_1 : decode cX7_count 1 = .ok (.tableswitch 95 0 7 #[47, 52, 59, 66, 73, 80, 85, 90], 47) := by decide +kernel
theorem dX7_count_48 : decode cX7_count 48 = .ok (.aload_n 0, 1) := by decide +kernel
theorem dX7_count_49 : decode cX7_count 49 = .ok (.invokevirtual 249, 3) := by decide +kernel
theorem dX7_count_52 : decode cX7_count 52 = .ok (.ireturn, 1) := by decide +kernel
theorem dX7_count_53 : decode cX7_count 53 = .ok (.aload_n 0, 1) := by decide +kernel
theorem dX7_count_54 : decode cX7_count 54 = .ok (.getfield 7, 3) := by decide +kernel
theorem dX7_count_57 : decode cX7_count 57 = .ok (.iconst 0, 1) := by decide +kernel
theorem dX7_count_58 : decode cX7_count 58 = .ok (.iaload, 1) := by decide +kernel
theorem dX7_count_59 : decode cX7_count 59 = .ok (.ireturn, 1) := by decide +kernel
theorem dX7_count_60 : decode cX7_count 60 = .ok (.aload_n 0, 1) := by decide +kernel
theorem dX7_count_61 : decode cX7_count 61 = .ok (.getfield 7, 3) := by decide +kernel
theorem dX7_count_64 : decode cX7_count 64 = .ok (.iconst 1, 1) := by decide +kernel
theorem dX7_count_65 : decode cX7_count 65 = .ok (.iaload, 1) := by decide +kernel
theorem dX7_count_66 : decode cX7_count 66 = .ok (.ireturn, 1) := by decide +kernel
theorem dX7_count_67 : decode cX7_count 67 = .ok (.aload_n 0, 1) := by decide +kernel
theorem dX7_count_68 : decode cX7_count 68 = .ok (.getfield 7, 3) := by decide +kernel
theorem dX7_count_71 : decode cX7_count 71 = .ok (.iconst 4, 1) := by decide +kernel
theorem dX7_count_72 : decode cX7_count 72 = .ok (.iaload, 1) := by decide +kernel
theorem dX7_count_73 : decode cX7_count 73 = .ok (.ireturn, 1) := by decide +kernel
theorem dX7_count_74 : decode cX7_count 74 = .ok (.aload_n 0, 1) := by decide +kernel
theorem dX7_count_75 : decode cX7_count 75 = .ok (.getfield 7, 3) := by decide +kernel
theorem dX7_count_78 : decode cX7_count 78 = .ok (.iconst 2, 1) := by decide +kernel
theorem dX7_count_79 : decode cX7_count 79 = .ok (.iaload, 1) := by decide +kernel
theorem dX7_count_80 : decode cX7_count 80 = .ok (.ireturn, 1) := by decide +kernel
theorem dX7_count_81 : decode cX7_count 81 = .ok (.aload_n 0, 1) := by decide +kernel
theorem dX7_count_82 : decode cX7_count 82 = .ok (.invokevirtual 252, 3) := by decide +kernel
theorem dX7_count_85 : decode cX7_count 85 = .ok (.ireturn, 1) := by decide +kernel
theorem dX7_count_86 : decode cX7_count 86 = .ok (.aload_n 0, 1) := by decide +kernel
theorem dX7_count_87 : decode cX7_count 87 = .ok (.getfield 124, 3) := by decide +kernel
theorem dX7_count_90 : decode cX7_count 90 = .ok (.ireturn, 1) := by decide +kernel
theorem dX7_count_91 : decode cX7_count 91 = .ok (.aload_n 0, 1) := by decide +kernel
theorem dX7_count_92 : decode cX7_count 92 = .ok (.getfield 69, 3) := by decide +kernel
theorem dX7_count_95 : decode cX7_count 95 = .ok (.ireturn, 1) := by decide +kernel
theorem dX7_count_96 : decode cX7_count 96 = .ok (.ldc 58, 2) := by decide +kernel
theorem dX7_count_98 : decode cX7_count 98 = .ok (.ireturn, 1) := by decide +kernel
theorem dX7_status_0 : decode cX7_status 0 = .ok (.aload_n 0, 1) := by decide +kernel
theorem dX7_status_1 : decode cX7_status 1 = .ok (.getfield 47, 3) := by decide +kernel
theorem dX7_status_4 : decode cX7_status 4 = .ok (.ireturn, 1) := by decide +kernel
theorem dJ6_bitCount_0f7a4_0 : decode cJ6_bitCount_0f7a4 0 = .ok (.iload_n 0, 1) := by decide +kernel
theorem dJ6_bitCount_0f7a4_1 : decode cJ6_bitCount_0f7a4 1 = .ok (.iload_n 0, 1) := by decide +kernel
theorem dJ6_bitCount_0f7a4_2 : decode cJ6_bitCount_0f7a4 2 = .ok (.iconst 1, 1) := by decide +kernel
theorem dJ6_bitCount_0f7a4_3 : decode cJ6_bitCount_0f7a4 3 = .ok (.iushr, 1) := by decide +kernel
theorem dJ6_bitCount_0f7a4_4 : decode cJ6_bitCount_0f7a4 4 = .ok (.ldc_w 265, 3) := by decide +kernel
theorem dJ6_bitCount_0f7a4_7 : decode cJ6_bitCount_0f7a4 7 = .ok (.iand, 1) := by decide +kernel
theorem dJ6_bitCount_0f7a4_8 : decode cJ6_bitCount_0f7a4 8 = .ok (.isub, 1) := by decide +kernel
theorem dJ6_bitCount_0f7a4_9 : decode cJ6_bitCount_0f7a4 9 = .ok (.istore_n 0, 1) := by decide +kernel
theorem dJ6_bitCount_0f7a4_10 : decode cJ6_bitCount_0f7a4 10 = .ok (.iload_n 0, 1) := by decide +kernel
theorem dJ6_bitCount_0f7a4_11 : decode cJ6_bitCount_0f7a4 11 = .ok (.ldc_w 266, 3) := by decide +kernel
theorem dJ6_bitCount_0f7a4_14 : decode cJ6_bitCount_0f7a4 14 = .ok (.iand, 1) := by decide +kernel
theorem dJ6_bitCount_0f7a4_15 : decode cJ6_bitCount_0f7a4 15 = .ok (.iload_n 0, 1) := by decide +kernel
theorem dJ6_bitCount_0f7a4_16 : decode cJ6_bitCount_0f7a4 16 = .ok (.iconst 2, 1) := by decide +kernel
theorem dJ6_bitCount_0f7a4_17 : decode cJ6_bitCount_0f7a4 17 = .ok (.iushr, 1) := by decide +kernel
theorem dJ6_bitCount_0f7a4_18 : decode cJ6_bitCount_0f7a4 18 = .ok (.ldc_w 266, 3) := by decide +kernel
theorem dJ6_bitCount_0f7a4_21 : decode cJ6_bitCount_0f7a4 21 = .ok (.iand, 1) := by decide +kernel
theorem dJ6_bitCount_0f7a4_22 : decode cJ6_bitCount_0f7a4 22 = .ok (.iadd, 1) := by decide +kernel
theorem dJ6_bitCount_0f7a4_23 : decode cJ6_bitCount_0f7a4 23 = .ok (.istore_n 0, 1) := by decide +kernel
theorem dJ6_bitCount_0f7a4_24 : decode cJ6_bitCount_0f7a4 24 = .ok (.iload_n 0, 1) := by decide +kernel
theorem dJ6_bitCount_0f7a4_25 : decode cJ6_bitCount_0f7a4 25 = .ok (.iload_n 0, 1) := by decide +kernel
theorem dJ6_bitCount_0f7a4_26 : decode cJ6_bitCount_0f7a4 26 = .ok (.iconst 4, 1) := by decide +kernel
theorem dJ6_bitCount_0f7a4_27 : decode cJ6_bitCount_0f7a4 27 = .ok (.iushr, 1) := by decide +kernel
theorem dJ6_bitCount_0f7a4_28 : decode cJ6_bitCount_0f7a4 28 = .ok (.iadd, 1) := by decide +kernel
theorem dJ6_bitCount_0f7a4_29 : decode cJ6_bitCount_0f7a4 29 = .ok (.ldc_w 267, 3) := by decide +kernel
theorem dJ6_bitCount_0f7a4_32 : decode cJ6_bitCount_0f7a4 32 = .ok (.iand, 1) := by decide +kernel
theorem dJ6_bitCount_0f7a4_33 : decode cJ6_bitCount_0f7a4 33 = .ok (.istore_n 0, 1) := by decide +kernel
theorem dJ6_bitCount_0f7a4_34 : decode cJ6_bitCount_0f7a4 34 = .ok (.iload_n 0, 1) := by decide +kernel
theorem dJ6_bitCount_0f7a4_35 : decode cJ6_bitCount_0f7a4 35 = .ok (.iload_n 0, 1) := by decide +kernel
theorem dJ6_bitCount_0f7a4_36 : decode cJ6_bitCount_0f7a4 36 = .ok (.bipush 8, 2) := by decide +kernel
theorem dJ6_bitCount_0f7a4_38 : decode cJ6_bitCount_0f7a4 38 = .ok (.iushr, 1) := by decide +kernel
theorem dJ6_bitCount_0f7a4_39 : decode cJ6_bitCount_0f7a4 39 = .ok (.iadd, 1) := by decide +kernel
theorem dJ6_bitCount_0f7a4_40 : decode cJ6_bitCount_0f7a4 40 = .ok (.istore_n 0, 1) := by decide +kernel
theorem dJ6_bitCount_0f7a4_41 : decode cJ6_bitCount_0f7a4 41 = .ok (.iload_n 0, 1) := by decide +kernel
theorem dJ6_bitCount_0f7a4_42 : decode cJ6_bitCount_0f7a4 42 = .ok (.iload_n 0, 1) := by decide +kernel
theorem dJ6_bitCount_0f7a4_43 : decode cJ6_bitCount_0f7a4 43 = .ok (.bipush 16, 2) := by decide +kernel
theorem dJ6_bitCount_0f7a4_45 : decode cJ6_bitCount_0f7a4 45 = .ok (.iushr, 1) := by decide +kernel
theorem dJ6_bitCount_0f7a4_46 : decode cJ6_bitCount_0f7a4 46 = .ok (.iadd, 1) := by decide +kernel
theorem dJ6_bitCount_0f7a4_47 : decode cJ6_bitCount_0f7a4 47 = .ok (.istore_n 0, 1) := by decide +kernel
theorem dJ6_bitCount_0f7a4_48 : decode cJ6_bitCount_0f7a4 48 = .ok (.iload_n 0, 1) := by decide +kernel
theorem dJ6_bitCount_0f7a4_49 : decode cJ6_bitCount_0f7a4 49 = .ok (.bipush 63, 2) := by decide +kernel
theorem dJ6_bitCount_0f7a4_51 : decode cJ6_bitCount_0f7a4 51 = .ok (.iand, 1) := by decide +kernel
theorem dJ6_bitCount_0f7a4_52 : decode cJ6_bitCount_0f7a4 52 = .ok (.ireturn, 1) := by decide +kernel
theorem dJ9_max_7cf53_0 : decode cJ9_max_7cf53 0 = .ok (.iload_n 0, 1) := by decide +kernel
theorem dJ9_max_7cf53_1 : decode cJ9_max_7cf53 1 = .ok (.iload_n 1, 1) := by decide +kernel
theorem dJ9_max_7cf53_2 : decode cJ9_max_7cf53 2 = .ok (.if_icmp .lt 7, 3) := by decide +kernel
theorem dJ9_max_7cf53_5 : decode cJ9_max_7cf53 5 = .ok (.iload_n 0, 1) := by decide +kernel
theorem dJ9_max_7cf53_6 : decode cJ9_max_7cf53 6 = .ok (.goto 4, 3) := by decide +kernel
theorem dJ9_max_7cf53_9 : decode cJ9_max_7cf53 9 = .ok (.iload_n 1, 1) := by decide +kernel
theorem dJ9_max_7cf53_10 : decode cJ9_max_7cf53 10 = .ok (.ireturn, 1) := by decide +kernel
theorem dJ9_min_7cf53_0 : decode cJ9_min_7cf53 0 = .ok (.iload_n 0, 1) := by decide +kernel
theorem dJ9_min_7cf53_1 : decode cJ9_min_7cf53 1 = .ok (.iload_n 1, 1) := by decide +kernel
theorem dJ9_min_7cf53_2 : decode cJ9_min_7cf53 2 = .ok (.if_icmp .gt 7, 3) := by decide +kernel
theorem dJ9_min_7cf53_5 : decode cJ9_min_7cf53 5 = .ok (.iload_n 0, 1) := by decide +kernel
theorem dJ9_min_7cf53_6 : decode cJ9_min_7cf53 6 = .ok (.goto 4, 3) := by decide +kernel
theorem dJ9_min_7cf53_9 : decode cJ9_min_7cf53 9 = .ok (.iload_n 1, 1) := by decide +kernel
theorem dJ9_min_7cf53_10 : decode cJ9_min_7cf53 10 = .ok (.ireturn, 1) := by decide +kernel
theorem dJ7_fill_53178_0 : decode cJ7_fill_53178 0 = .ok (.iconst 0, 1) := by decide +kernel
theorem dJ7_fill_53178_1 : decode cJ7_fill_53178 1 = .ok (.istore_n 2, 1) := by decide +kernel
theorem dJ7_fill_53178_2 : decode cJ7_fill_53178 2 = .ok (.aload_n 0, 1) := by decide +kernel
theorem dJ7_fill_53178_3 : decode cJ7_fill_53178 3 = .ok (.arraylength, 1) := by decide +kernel
theorem dJ7_fill_53178_4 : decode cJ7_fill_53178 4 = .ok (.istore_n 3, 1) := by decide +kernel
theorem dJ7_fill_53178_5 : decode cJ7_fill_53178 5 = .ok (.iload_n 2, 1) := by decide +kernel
theorem dJ7_fill_53178_6 : decode cJ7_fill_53178 6 = .ok (.iload_n 3, 1) := by decide +kernel
theorem dJ7_fill_53178_7 : decode cJ7_fill_53178 7 = .ok (.if_icmp .ge 13, 3) := by decide +kernel
theorem dJ7_fill_53178_10 : decode cJ7_fill_53178 10 = .ok (.aload_n 0, 1) := by decide +kernel
theorem dJ7_fill_53178_11 : decode cJ7_fill_53178 11 = .ok (.iload_n 2, 1) := by decide +kernel
theorem dJ7_fill_53178_12 : decode cJ7_fill_53178 12 = .ok (.iload_n 1, 1) := by decide +kernel
theorem dJ7_fill_53178_13 : decode cJ7_fill_53178 13 = .ok (.iastore, 1) := by decide +kernel
theorem dJ7_fill_53178_14 : decode cJ7_fill_53178 14 = .ok (.iinc 2 1, 3) := by decide +kernel
theorem dJ7_fill_53178_17 : decode cJ7_fill_53178 17 = .ok (.goto (-12), 3) := by decide +kernel
theorem dJ7_fill_53178_20 : decode cJ7_fill_53178 20 = .ok (.return_, 1) := by decide +kernel
theorem dL_law_0 : decode cL_law 0 = .ok (.new 7, 3) := by decide +kernel
theorem dL_law_3 : decode cL_law 3 = .ok (.dup, 1) := by decide +kernel
theorem dL_law_4 : decode cL_law 4 = .ok (.invokespecial 9, 3) := by decide +kernel
theorem dL_law_7 : decode cL_law 7 = .ok (.astore_n 1, 1) := by decide +kernel
theorem dL_law_8 : decode cL_law 8 = .ok (.new 10, 3) := by decide +kernel
theorem dL_law_11 : decode cL_law 11 = .ok (.dup, 1) := by decide +kernel
theorem dL_law_12 : decode cL_law 12 = .ok (.invokespecial 12, 3) := by decide +kernel
theorem dL_law_15 : decode cL_law 15 = .ok (.astore_n 2, 1) := by decide +kernel
theorem dL_law_16 : decode cL_law 16 = .ok (.iconst 0, 1) := by decide +kernel
theorem dL_law_17 : decode cL_law 17 = .ok (.istore_n 3, 1) := by decide +kernel
theorem dL_law_18 : decode cL_law 18 = .ok (.iload_n 3, 1) := by decide +kernel
theorem dL_law_19 : decode cL_law 19 = .ok (.aload_n 0, 1) := by decide +kernel
theorem dL_law_20 : decode cL_law 20 = .ok (.arraylength, 1) := by decide +kernel
theorem dL_law_21 : decode cL_law 21 = .ok (.bipush 6, 2) := by decide +kernel
theorem dL_law_23 : decode cL_law 23 = .ok (.isub, 1) := by decide +kernel
theorem dL_law_24 : decode cL_law 24 = .ok (.if_icmp .gt 1327, 3) := by decide +kernel
theorem dL_law_27 : decode cL_law 27 = .ok (.aload_n 0, 1) := by decide +kernel
theorem dL_law_28 : decode cL_law 28 = .ok (.iload_n 3, 1) := by decide +kernel
theorem dL_law_29 : decode cL_law 29 = .ok (.iaload, 1) := by decide +kernel
theorem dL_law_30 : decode cL_law 30 = .ok (.bipush 63, 2) := by decide +kernel
theorem dL_law_32 : decode cL_law 32 = .ok (.iand, 1) := by decide +kernel
theorem dL_law_33 : decode cL_law 33 = .ok (.tableswitch 1312 0 37 #[167, 210, 253, 316, 339, 362, 375, 388, 401, 424, 447, 480, 503, 526, 559, 582, 605, 648, 681, 714, 727, 760, 793, 816, 859, 892, 925, 958, 1021, 1075, 1118, 1141, 1164, 1187, 1220, 1253, 1276, 1299], 167) := by decide +kernel
theorem dL_law_200 : decode cL_law 200 = .ok (.aload_n 1, 1) := by decide +kernel
theorem dL_law_201 : decode cL_law 201 = .ok (.aload_n 0, 1) := by decide +kernel
theorem dL_law_202 : decode cL_law 202 = .ok (.iload_n 3, 1) := by decide +kernel
theorem dL_law_203 : decode cL_law 203 = .ok (.iconst 1, 1) := by decide +kernel
theorem dL_law_204 : decode cL_law 204 = .ok (.iadd, 1) := by decide +kernel
theorem dL_law_205 : decode cL_law 205 = .ok (.iaload, 1) := by decide +kernel
theorem dL_law_206 : decode cL_law 206 = .ok (.aload_n 0, 1) := by decide +kernel
theorem dL_law_207 : decode cL_law 207 = .ok (.iload_n 3, 1) := by decide +kernel
theorem dL_law_208 : decode cL_law 208 = .ok (.iconst 2, 1) := by decide +kernel
theorem dL_law_209 : decode cL_law 209 = .ok (.iadd, 1) := by decide +kernel
theorem dL_law_210 : decode cL_law 210 = .ok (.iaload, 1) := by decide +kernel
theorem dL_law_211 : decode cL_law 211 = .ok (.aload_n 0, 1) := by decide +kernel
theorem dL_law_212 : decode cL_law 212 = .ok (.iload_n 3, 1) := by decide +kernel
theorem dL_law_213 : decode cL_law 213 = .ok (.iconst 3, 1) := by decide +kernel
theorem dL_law_214 : decode cL_law 214 = .ok (.iadd, 1) := by decide +kernel
theorem dL_law_215 : decode cL_law 215 = .ok (.iaload, 1) := by decide +kernel
theorem dL_law_216 : decode cL_law 216 = .ok (.invokevirtual 13, 3) := by decide +kernel
theorem dL_law_219 : decode cL_law 219 = .ok (.aload_n 2, 1) := by decide +kernel
theorem dL_law_220 : decode cL_law 220 = .ok (.aload_n 0, 1) := by decide +kernel
theorem dL_law_221 : decode cL_law 221 = .ok (.iload_n 3, 1) := by decide +kernel
theorem dL_law_222 : decode cL_law 222 = .ok (.iconst 1, 1) := by decide +kernel
theorem dL_law_223 : decode cL_law 223 = .ok (.iadd, 1) := by decide +kernel
theorem dL_law_224 : decode cL_law 224 = .ok (.iaload, 1) := by decide +kernel
theorem dL_law_225 : decode cL_law 225 = .ok (.aload_n 0, 1) := by decide +kernel
theorem dL_law_226 : decode cL_law 226 = .ok (.iload_n 3, 1) := by decide +kernel
theorem dL_law_227 : decode cL_law 227 = .ok (.iconst 2, 1) := by decide +kernel
theorem dL_law_228 : decode cL_law 228 = .ok (.iadd, 1) := by decide +kernel
theorem dL_law_229 : decode cL_law 229 = .ok (.iaload, 1) := by decide +kernel
theorem dL_law_230 : decode cL_law 230 = .ok (.aload_n 0, 1) := by decide +kernel
theorem dL_law_231 : decode cL_law 231 = .ok (.iload_n 3, 1) := by decide +kernel
theorem dL_law_232 : decode cL_law 232 = .ok (.iconst 3, 1) := by decide +kernel
theorem dL_law_233 : decode cL_law 233 = .ok (.iadd, 1) := by decide +kernel
theorem dL_law_234 : decode cL_law 234 = .ok (.iaload, 1) := by decide +kernel
theorem dL_law_235 : decode cL_law 235 = .ok (.invokevirtual 17, 3) := by decide +kernel
theorem dL_law_238 : decode cL_law 238 = .ok (.if_icmp .eq 1107, 3) := by decide +kernel
theorem dL_law_241 : decode cL_law 241 = .ok (.iconst 0, 1) := by decide +kernel
theorem dL_law_242 : decode cL_law 242 = .ok (.ireturn, 1) := by decide +kernel
theorem dL_law_243 : decode cL_law 243 = .ok (.aload_n 1, 1) := by decide +kernel
theorem dL_law_244 : decode cL_law 244 = .ok (.aload_n 0, 1) := by decide +kernel
theorem dL_law_245 : decode cL_law 245 = .ok (.iload_n 3, 1) := by decide +kernel
theorem dL_law_246 : decode cL_law 246 = .ok (.iconst 1, 1) := by decide +kernel
theorem dL_law_247 : decode cL_law 247 = .ok (.iadd, 1) := by decide +kernel
theorem dL_law_248 : decode cL_law 248 = .ok (.iaload, 1) := by decide +kernel
theorem dL_law_249 : decode cL_law 249 = .ok (.aload_n 0, 1) := by decide +kernel
theorem dL_law_250 : decode cL_law 250 = .ok (.iload_n 3, 1) := by decide +kernel
theorem dL_law_251 : decode cL_law 251 = .ok (.iconst 2, 1) := by decide +kernel
theorem dL_law_252 : decode cL_law 252 = .ok (.iadd, 1) := by decide +kernel
theorem dL_law_253 : decode cL_law 253 = .ok (.iaload, 1) := by decide +kernel
theorem dL_law_254 : decode cL_law 254 = .ok (.aload_n 0, 1) := by decide +kernel
theorem dL_law_255 : decode cL_law 255 = .ok (.iload_n 3, 1) := by decide +kernel
theorem dL_law_256 : decode cL_law 256 = .ok (.iconst 3, 1) := by decide +kernel
theorem dL_law_257 : decode cL_law 257 = .ok (.iadd, 1) := by decide +kernel
theorem dL_law_258 : decode cL_law 258 = .ok (.iaload, 1) := by decide +kernel
theorem dL_law_259 : decode cL_law 259 = .ok (.invokevirtual 18, 3) := by decide +kernel
theorem dL_law_262 : decode cL_law 262 = .ok (.aload_n 2, 1) := by decide +kernel
theorem dL_law_263 : decode cL_law 263 = .ok (.aload_n 0, 1) := by decide +kernel
theorem dL_law_264 : decode cL_law 264 = .ok (.iload_n 3, 1) := by decide +kernel
theorem dL_law_265 : decode cL_law 265 = .ok (.iconst 1, 1) := by decide +kernel
theorem dL_law_266 : decode cL_law 266 = .ok (.iadd, 1) := by decide +kernel
theorem dL_law_267 : decode cL_law 267 = .ok (.iaload, 1) := by decide +kernel
theorem dL_law_268 : decode cL_law 268 = .ok (.aload_n 0, 1) := by decide +kernel
theorem dL_law_269 : decode cL_law 269 = .ok (.iload_n 3, 1) := by decide +kernel
theorem dL_law_270 : decode cL_law 270 = .ok (.iconst 2, 1) := by decide +kernel
theorem dL_law_271 : decode cL_law 271 = .ok (.iadd, 1) := by decide +kernel
theorem dL_law_272 : decode cL_law 272 = .ok (.iaload, 1) := by decide +kernel
theorem dL_law_273 : decode cL_law 273 = .ok (.aload_n 0, 1) := by decide +kernel
theorem dL_law_274 : decode cL_law 274 = .ok (.iload_n 3, 1) := by decide +kernel
theorem dL_law_275 : decode cL_law 275 = .ok (.iconst 3, 1) := by decide +kernel
theorem dL_law_276 : decode cL_law 276 = .ok (.iadd, 1) := by decide +kernel
theorem dL_law_277 : decode cL_law 277 = .ok (.iaload, 1) := by decide +kernel
theorem dL_law_278 : decode cL_law 278 = .ok (.invokevirtual 21, 3) := by decide +kernel
theorem dL_law_281 : decode cL_law 281 = .ok (.if_icmp .eq 1064, 3) := by decide +kernel
theorem dL_law_284 : decode cL_law 284 = .ok (.iconst 0, 1) := by decide +kernel
theorem dL_law_285 : decode cL_law 285 = .ok (.ireturn, 1) := by decide +kernel
theorem dL_law_286 : decode cL_law 286 = .ok (.aload_n 1, 1) := by decide +kernel
theorem dL_law_287 : decode cL_law 287 = .ok (.aload_n 0, 1) := by decide +kernel
theorem dL_law_288 : decode cL_law 288 = .ok (.iload_n 3, 1) := by decide +kernel
theorem dL_law_289 : decode cL_law 289 = .ok (.iconst 1, 1) := by decide +kernel
theorem dL_law_290 : decode cL_law 290 = .ok (.iadd, 1) := by decide +kernel
theorem dL_law_291 : decode cL_law 291 = .ok (.iaload, 1) := by decide +kernel
theorem dL_law_292 : decode cL_law 292 = .ok (.aload_n 0, 1) := by decide +kernel
theorem dL_law_293 : decode cL_law 293 = .ok (.iload_n 3, 1) := by decide +kernel
theorem dL_law_294 : decode cL_law 294 = .ok (.iconst 2, 1) := by decide +kernel
theorem dL_law_295 : decode cL_law 295 = .ok (.iadd, 1) := by decide +kernel
theorem dL_law_296 : decode cL_law 296 = .ok (.iaload, 1) := by decide +kernel
theorem dL_law_297 : decode cL_law 297 = .ok (.aload_n 0, 1) := by decide +kernel
theorem dL_law_298 : decode cL_law 298 = .ok (.iload_n 3, 1) := by decide +kernel
theorem dL_law_299 : decode cL_law 299 = .ok (.iconst 3, 1) := by decide +kernel
theorem dL_law_300 : decode cL_law 300 = .ok (.iadd, 1) := by decide +kernel
theorem dL_law_301 : decode cL_law 301 = .ok (.iaload, 1) := by decide +kernel
theorem dL_law_302 : decode cL_law 302 = .ok (.aload_n 0, 1) := by decide +kernel
theorem dL_law_303 : decode cL_law 303 = .ok (.iload_n 3, 1) := by decide +kernel
theorem dL_law_304 : decode cL_law 304 = .ok (.iconst 4, 1) := by decide +kernel
theorem dL_law_305 : decode cL_law 305 = .ok (.iadd, 1) := by decide +kernel
theorem dL_law_306 : decode cL_law 306 = .ok (.iaload, 1) := by decide +kernel
theorem dL_law_307 : decode cL_law 307 = .ok (.aload_n 0, 1) := by decide +kernel
theorem dL_law_308 : decode cL_law 308 = .ok (.iload_n 3, 1) := by decide +kernel
theorem dL_law_309 : decode cL_law 309 = .ok (.iconst 5, 1) := by decide +kernel
theorem dL_law_310 : decode cL_law 310 = .ok (.iadd, 1) := by decide +kernel
theorem dL_law_311 : decode cL_law 311 = .ok (.iaload, 1) := by decide +kernel
theorem dL_law_312 : decode cL_law 312 = .ok (.invokevirtual 22, 3) := by decide +kernel
theorem dL_law_315 : decode cL_law 315 = .ok (.aload_n 2, 1) := by decide +kernel
theorem dL_law_316 : decode cL_law 316 = .ok (.aload_n 0, 1) := by decide +kernel
theorem dL_law_317 : decode cL_law 317 = .ok (.iload_n 3, 1) := by decide +kernel
theorem dL_law_318 : decode cL_law 318 = .ok (.iconst 1, 1) := by decide +kernel
theorem dL_law_319 : decode cL_law 319 = .ok (.iadd, 1) := by decide +kernel
theorem dL_law_320 : decode cL_law 320 = .ok (.iaload, 1) := by decide +kernel
theorem dL_law_321 : decode cL_law 321 = .ok (.aload_n 0, 1) := by decide +kernel
theorem dL_law_322 : decode cL_law 322 = .ok (.iload_n 3, 1) := by decide +kernel
theorem dL_law_323 : decode cL_law 323 = .ok (.iconst 2, 1) := by decide +kernel
theorem dL_law_324 : decode cL_law 324 = .ok (.iadd, 1) := by decide +kernel
theorem dL_law_325 : decode cL_law 325 = .ok (.iaload, 1) := by decide +kernel
theorem dL_law_326 : decode cL_law 326 = .ok (.aload_n 0, 1) := by decide +kernel
theorem dL_law_327 : decode cL_law 327 = .ok (.iload_n 3, 1) := by decide +kernel
theorem dL_law_328 : decode cL_law 328 = .ok (.iconst 3, 1) := by decide +kernel
theorem dL_law_329 : decode cL_law 329 = .ok (.iadd, 1) := by decide +kernel
theorem dL_law_330 : decode cL_law 330 = .ok (.iaload, 1) := by decide +kernel
theorem dL_law_331 : decode cL_law 331 = .ok (.aload_n 0, 1) := by decide +kernel
theorem dL_law_332 : decode cL_law 332 = .ok (.iload_n 3, 1) := by decide +kernel
theorem dL_law_333 : decode cL_law 333 = .ok (.iconst 4, 1) := by decide +kernel
theorem dL_law_334 : decode cL_law 334 = .ok (.iadd, 1) := by decide +kernel
theorem dL_law_335 : decode cL_law 335 = .ok (.iaload, 1) := by decide +kernel
theorem dL_law_336 : decode cL_law 336 = .ok (.aload_n 0, 1) := by decide +kernel
theorem dL_law_337 : decode cL_law 337 = .ok (.iload_n 3, 1) := by decide +kernel
theorem dL_law_338 : decode cL_law 338 = .ok (.iconst 5, 1) := by decide +kernel
theorem dL_law_339 : decode cL_law 339 = .ok (.iadd, 1) := by decide +kernel
theorem dL_law_340 : decode cL_law 340 = .ok (.iaload, 1) := by decide +kernel
theorem dL_law_341 : decode cL_law 341 = .ok (.invokevirtual 26, 3) := by decide +kernel
theorem dL_law_344 : decode cL_law 344 = .ok (.if_icmp .eq 1001, 3) := by decide +kernel
theorem dL_law_347 : decode cL_law 347 = .ok (.iconst 0, 1) := by decide +kernel
theorem dL_law_348 : decode cL_law 348 = .ok (.ireturn, 1) := by decide +kernel
theorem dL_law_349 : decode cL_law 349 = .ok (.aload_n 1, 1) := by decide +kernel
theorem dL_law_350 : decode cL_law 350 = .ok (.aload_n 0, 1) := by decide +kernel
theorem dL_law_351 : decode cL_law 351 = .ok (.iload_n 3, 1) := by decide +kernel
theorem dL_law_352 : decode cL_law 352 = .ok (.iconst 1, 1) := by decide +kernel
theorem dL_law_353 : decode cL_law 353 = .ok (.iadd, 1) := by decide +kernel
theorem dL_law_354 : decode cL_law 354 = .ok (.iaload, 1) := by decide +kernel
theorem dL_law_355 : decode cL_law 355 = .ok (.invokevirtual 27, 3) := by decide +kernel
theorem dL_law_358 : decode cL_law 358 = .ok (.aload_n 2, 1) := by decide +kernel
theorem dL_law_359 : decode cL_law 359 = .ok (.aload_n 0, 1) := by decide +kernel
theorem dL_law_360 : decode cL_law 360 = .ok (.iload_n 3, 1) := by decide +kernel
theorem dL_law_361 : decode cL_law 361 = .ok (.iconst 1, 1) := by decide +kernel
theorem dL_law_362 : decode cL_law 362 = .ok (.iadd, 1) := by decide +kernel
theorem dL_law_363 : decode cL_law 363 = .ok (.iaload, 1) := by decide +kernel
theorem dL_law_364 : decode cL_law 364 = .ok (.invokevirtual 31, 3) := by decide +kernel
theorem dL_law_367 : decode cL_law 367 = .ok (.if_icmp .eq 978, 3) := by decide +kernel
theorem dL_law_370 : decode cL_law 370 = .ok (.iconst 0, 1) := by decide +kernel
theorem dL_law_371 : decode cL_law 371 = .ok (.ireturn, 1) := by decide +kernel
theorem dL_law_372 : decode cL_law 372 = .ok (.aload_n 1, 1) := by decide +kernel
theorem dL_law_373 : decode cL_law 373 = .ok (.aload_n 0, 1) := by decide +kernel
theorem dL_law_374 : decode cL_law 374 = .ok (.iload_n 3, 1) := by decide +kernel
theorem dL_law_375 : decode cL_law 375 = .ok (.iconst 1, 1) := by decide +kernel
theorem dL_law_376 : decode cL_law 376 = .ok (.iadd, 1) := by decide +kernel
theorem dL_law_377 : decode cL_law 377 = .ok (.iaload, 1) := by decide +kernel
theorem dL_law_378 : decode cL_law 378 = .ok (.invokevirtual 32, 3) := by decide +kernel
theorem dL_law_381 : decode cL_law 381 = .ok (.aload_n 2, 1) := by decide +kernel
theorem dL_law_382 : decode cL_law 382 = .ok (.aload_n 0, 1) := by decide +kernel
theorem dL_law_383 : decode cL_law 383 = .ok (.iload_n 3, 1) := by decide +kernel
theorem dL_law_384 : decode cL_law 384 = .ok (.iconst 1, 1) := by decide +kernel
theorem dL_law_385 : decode cL_law 385 = .ok (.iadd, 1) := by decide +kernel
theorem dL_law_386 : decode cL_law 386 = .ok (.iaload, 1) := by decide +kernel
theorem dL_law_387 : decode cL_law 387 = .ok (.invokevirtual 35, 3) := by decide +kernel
theorem dL_law_390 : decode cL_law 390 = .ok (.if_icmp .eq 955, 3) := by decide +kernel
theorem dL_law_393 : decode cL_law 393 = .ok (.iconst 0, 1) := by decide +kernel
theorem dL_law_394 : decode cL_law 394 = .ok (.ireturn, 1) := by decide +kernel
theorem dL_law_395 : decode cL_law 395 = .ok (.aload_n 1, 1) := by decide +kernel
theorem dL_law_396 : decode cL_law 396 = .ok (.invokevirtual 36, 3) := by decide +kernel
theorem dL_law_399 : decode cL_law 399 = .ok (.aload_n 2, 1) := by decide +kernel
theorem dL_law_400 : decode cL_law 400 = .ok (.invokevirtual 40, 3) := by decide +kernel
theorem dL_law_403 : decode cL_law 403 = .ok (.if_icmp .eq 942, 3) := by decide +kernel
theorem dL_law_406 : decode cL_law 406 = .ok (.iconst 0, 1) := by decide +kernel
theorem dL_law_407 : decode cL_law 407 = .ok (.ireturn, 1) := by decide +kernel
theorem dL_law_408 : decode cL_law 408 = .ok (.aload_n 1, 1) := by decide +kernel
theorem dL_law_409 : decode cL_law 409 = .ok (.invokevirtual 41, 3) := by decide +kernel
theorem dL_law_412 : decode cL_law 412 = .ok (.aload_n 2, 1) := by decide +kernel
theorem dL_law_413 : decode cL_law 413 = .ok (.invokevirtual 44, 3) := by decide +kernel
theorem dL_law_416 : decode cL_law 416 = .ok (.if_icmp .eq 929, 3) := by decide +kernel
theorem dL_law_419 : decode cL_law 419 = .ok (.iconst 0, 1) := by decide +kernel
theorem dL_law_420 : decode cL_law 420 = .ok (.ireturn, 1) := by decide +kernel
theorem dL_law_421 : decode cL_law 421 = .ok (.aload_n 1, 1) := by decide +kernel
theorem dL_law_422 : decode cL_law 422 = .ok (.invokevirtual 45, 3) := by decide +kernel
theorem dL_law_425 : decode cL_law 425 = .ok (.aload_n 2, 1) := by decide +kernel
theorem dL_law_426 : decode cL_law 426 = .ok (.invokevirtual 48, 3) := by decide +kernel
theorem dL_law_429 : decode cL_law 429 = .ok (.if_icmp .eq 916, 3) := by decide +kernel
theorem dL_law_432 : decode cL_law 432 = .ok (.iconst 0, 1) := by decide +kernel
theorem dL_law_433 : decode cL_law 433 = .ok (.ireturn, 1) := by decide +kernel
theorem dL_law_434 : decode cL_law 434 = .ok (.aload_n 1, 1) := by decide +kernel
theorem dL_law_435 : decode cL_law 435 = .ok (.aload_n 0, 1) := by decide +kernel
theorem dL_law_436 : decode cL_law 436 = .ok (.iload_n 3, 1) := by decide +kernel
theorem dL_law_437 : decode cL_law 437 = .ok (.iconst 1, 1) := by decide +kernel
theorem dL_law_438 : decode cL_law 438 = .ok (.iadd, 1) := by decide +kernel
theorem dL_law_439 : decode cL_law 439 = .ok (.iaload, 1) := by decide +kernel
theorem dL_law_440 : decode cL_law 440 = .ok (.invokevirtual 49, 3) := by decide +kernel
theorem dL_law_443 : decode cL_law 443 = .ok (.aload_n 2, 1) := by decide +kernel
theorem dL_law_444 : decode cL_law 444 = .ok (.aload_n 0, 1) := by decide +kernel
theorem dL_law_445 : decode cL_law 445 = .ok (.iload_n 3, 1) := by decide +kernel
theorem dL_law_446 : decode cL_law 446 = .ok (.iconst 1, 1) := by decide +kernel
theorem dL_law_447 : decode cL_law 447 = .ok (.iadd, 1) := by decide +kernel
theorem dL_law_448 : decode cL_law 448 = .ok (.iaload, 1) := by decide +kernel
theorem dL_law_449 : decode cL_law 449 = .ok (.invokevirtual 52, 3) := by decide +kernel
theorem dL_law_452 : decode cL_law 452 = .ok (.if_icmp .eq 893, 3) := by decide +kernel
theorem dL_law_455 : decode cL_law 455 = .ok (.iconst 0, 1) := by decide +kernel
theorem dL_law_456 : decode cL_law 456 = .ok (.ireturn, 1) := by decide +kernel
theorem dL_law_457 : decode cL_law 457 = .ok (.aload_n 1, 1) := by decide +kernel
theorem dL_law_458 : decode cL_law 458 = .ok (.aload_n 0, 1) := by decide +kernel
theorem dL_law_459 : decode cL_law 459 = .ok (.iload_n 3, 1) := by decide +kernel
theorem dL_law_460 : decode cL_law 460 = .ok (.iconst 1, 1) := by decide +kernel
theorem dL_law_461 : decode cL_law 461 = .ok (.iadd, 1) := by decide +kernel
theorem dL_law_462 : decode cL_law 462 = .ok (.iaload, 1) := by decide +kernel
theorem dL_law_463 : decode cL_law 463 = .ok (.invokevirtual 53, 3) := by decide +kernel
theorem dL_law_466 : decode cL_law 466 = .ok (.aload_n 2, 1) := by decide +kernel
theorem dL_law_467 : decode cL_law 467 = .ok (.aload_n 0, 1) := by decide +kernel
theorem dL_law_468 : decode cL_law 468 = .ok (.iload_n 3, 1) := by decide +kernel
theorem dL_law_469 : decode cL_law 469 = .ok (.iconst 1, 1) := by decide +kernel
theorem dL_law_470 : decode cL_law 470 = .ok (.iadd, 1) := by decide +kernel
theorem dL_law_471 : decode cL_law 471 = .ok (.iaload, 1) := by decide +kernel
theorem dL_law_472 : decode cL_law 472 = .ok (.invokevirtual 56, 3) := by decide +kernel
theorem dL_law_475 : decode cL_law 475 = .ok (.if_icmp .eq 870, 3) := by decide +kernel
theorem dL_law_478 : decode cL_law 478 = .ok (.iconst 0, 1) := by decide +kernel
theorem dL_law_479 : decode cL_law 479 = .ok (.ireturn, 1) := by decide +kernel
theorem dL_law_480 : decode cL_law 480 = .ok (.aload_n 1, 1) := by decide +kernel
theorem dL_law_481 : decode cL_law 481 = .ok (.aload_n 0, 1) := by decide +kernel
theorem dL_law_482 : decode cL_law 482 = .ok (.iload_n 3, 1) := by decide +kernel
theorem dL_law_483 : decode cL_law 483 = .ok (.iconst 1, 1) := by decide +kernel
theorem dL_law_484 : decode cL_law 484 = .ok (.iadd, 1) := by decide +kernel
theorem dL_law_485 : decode cL_law 485 = .ok (.iaload, 1) := by decide +kernel
theorem dL_law_486 : decode cL_law 486 = .ok (.aload_n 0, 1) := by decide +kernel
theorem dL_law_487 : decode cL_law 487 = .ok (.iload_n 3, 1) := by decide +kernel
theorem dL_law_488 : decode cL_law 488 = .ok (.iconst 2, 1) := by decide +kernel
theorem dL_law_489 : decode cL_law 489 = .ok (.iadd, 1) := by decide +kernel
theorem dL_law_490 : decode cL_law 490 = .ok (.iaload, 1) := by decide +kernel
theorem dL_law_491 : decode cL_law 491 = .ok (.invokevirtual 57, 3) := by decide +kernel
theorem dL_law_494 : decode cL_law 494 = .ok (.aload_n 2, 1) := by decide +kernel
theorem dL_law_495 : decode cL_law 495 = .ok (.aload_n 0, 1) := by decide +kernel
theorem dL_law_496 : decode cL_law 496 = .ok (.iload_n 3, 1) := by decide +kernel
theorem dL_law_497 : decode cL_law 497 = .ok (.iconst 1, 1) := by decide +kernel
theorem dL_law_498 : decode cL_law 498 = .ok (.iadd, 1) := by decide +kernel
theorem dL_law_499 : decode cL_law 499 = .ok (.iaload, 1) := by decide +kernel
theorem dL_law_500 : decode cL_law 500 = .ok (.aload_n 0, 1) := by decide +kernel
theorem dL_law_501 : decode cL_law 501 = .ok (.iload_n 3, 1) := by decide +kernel
theorem dL_law_502 : decode cL_law 502 = .ok (.iconst 2, 1) := by decide +kernel
theorem dL_law_503 : decode cL_law 503 = .ok (.iadd, 1) := by decide +kernel
theorem dL_law_504 : decode cL_law 504 = .ok (.iaload, 1) := by decide +kernel
theorem dL_law_505 : decode cL_law 505 = .ok (.invokevirtual 61, 3) := by decide +kernel
theorem dL_law_508 : decode cL_law 508 = .ok (.if_icmp .eq 837, 3) := by decide +kernel
theorem dL_law_511 : decode cL_law 511 = .ok (.iconst 0, 1) := by decide +kernel
theorem dL_law_512 : decode cL_law 512 = .ok (.ireturn, 1) := by decide +kernel
theorem dL_law_513 : decode cL_law 513 = .ok (.aload_n 1, 1) := by decide +kernel
theorem dL_law_514 : decode cL_law 514 = .ok (.aload_n 0, 1) := by decide +kernel
theorem dL_law_515 : decode cL_law 515 = .ok (.iload_n 3, 1) := by decide +kernel
theorem dL_law_516 : decode cL_law 516 = .ok (.iconst 1, 1) := by decide +kernel
theorem dL_law_517 : decode cL_law 517 = .ok (.iadd, 1) := by decide +kernel
theorem dL_law_518 : decode cL_law 518 = .ok (.iaload, 1) := by decide +kernel
theorem dL_law_519 : decode cL_law 519 = .ok (.invokevirtual 62, 3) := by decide +kernel
theorem dL_law_522 : decode cL_law 522 = .ok (.aload_n 2, 1) := by decide +kernel
theorem dL_law_523 : decode cL_law 523 = .ok (.aload_n 0, 1) := by decide +kernel
theorem dL_law_524 : decode cL_law 524 = .ok (.iload_n 3, 1) := by decide +kernel
theorem dL_law_525 : decode cL_law 525 = .ok (.iconst 1, 1) := by decide +kernel
theorem dL_law_526 : decode cL_law 526 = .ok (.iadd, 1) := by decide +kernel
theorem dL_law_527 : decode cL_law 527 = .ok (.iaload, 1) := by decide +kernel
theorem dL_law_528 : decode cL_law 528 = .ok (.invokevirtual 65, 3) := by decide +kernel
theorem dL_law_531 : decode cL_law 531 = .ok (.if_icmp .eq 814, 3) := by decide +kernel
theorem dL_law_534 : decode cL_law 534 = .ok (.iconst 0, 1) := by decide +kernel
theorem dL_law_535 : decode cL_law 535 = .ok (.ireturn, 1) := by decide +kernel
theorem dL_law_536 : decode cL_law 536 = .ok (.aload_n 1, 1) := by decide +kernel
theorem dL_law_537 : decode cL_law 537 = .ok (.aload_n 0, 1) := by decide +kernel
theorem dL_law_538 : decode cL_law 538 = .ok (.iload_n 3, 1) := by decide +kernel
theorem dL_law_539 : decode cL_law 539 = .ok (.iconst 1, 1) := by decide +kernel
theorem dL_law_540 : decode cL_law 540 = .ok (.iadd, 1) := by decide +kernel
theorem dL_law_541 : decode cL_law 541 = .ok (.iaload, 1) := by decide +kernel
theorem dL_law_542 : decode cL_law 542 = .ok (.invokevirtual 66, 3) := by decide +kernel
theorem dL_law_545 : decode cL_law 545 = .ok (.aload_n 2, 1) := by decide +kernel
theorem dL_law_546 : decode cL_law 546 = .ok (.aload_n 0, 1) := by decide +kernel
theorem dL_law_547 : decode cL_law 547 = .ok (.iload_n 3, 1) := by decide +kernel
theorem dL_law_548 : decode cL_law 548 = .ok (.iconst 1, 1) := by decide +kernel
theorem dL_law_549 : decode cL_law 549 = .ok (.iadd, 1) := by decide +kernel
theorem dL_law_550 : decode cL_law 550 = .ok (.iaload, 1) := by decide +kernel
theorem dL_law_551 : decode cL_law 551 = .ok (.invokevirtual 69, 3) := by decide +kernel
theorem dL_law_554 : decode cL_law 554 = .ok (.if_icmp .eq 791, 3) := by decide +kernel
theorem dL_law_557 : decode cL_law 557 = .ok (.iconst 0, 1) := by decide +kernel
theorem dL_law_558 : decode cL_law 558 = .ok (.ireturn, 1) := by decide +kernel
theorem dL_law_559 : decode cL_law 559 = .ok (.aload_n 1, 1) := by decide +kernel
theorem dL_law_560 : decode cL_law 560 = .ok (.aload_n 0, 1) := by decide +kernel
theorem dL_law_561 : decode cL_law 561 = .ok (.iload_n 3, 1) := by decide +kernel
theorem dL_law_562 : decode cL_law 562 = .ok (.iconst 1, 1) := by decide +kernel
theorem dL_law_563 : decode cL_law 563 = .ok (.iadd, 1) := by decide +kernel
theorem dL_law_564 : decode cL_law 564 = .ok (.iaload, 1) := by decide +kernel
theorem dL_law_565 : decode cL_law 565 = .ok (.aload_n 0, 1) := by decide +kernel
theorem dL_law_566 : decode cL_law 566 = .ok (.iload_n 3, 1) := by decide +kernel
theorem dL_law_567 : decode cL_law 567 = .ok (.iconst 2, 1) := by decide +kernel
theorem dL_law_568 : decode cL_law 568 = .ok (.iadd, 1) := by decide +kernel
theorem dL_law_569 : decode cL_law 569 = .ok (.iaload, 1) := by decide +kernel
theorem dL_law_570 : decode cL_law 570 = .ok (.invokevirtual 70, 3) := by decide +kernel
theorem dL_law_573 : decode cL_law 573 = .ok (.aload_n 2, 1) := by decide +kernel
theorem dL_law_574 : decode cL_law 574 = .ok (.aload_n 0, 1) := by decide +kernel
theorem dL_law_575 : decode cL_law 575 = .ok (.iload_n 3, 1) := by decide +kernel
theorem dL_law_576 : decode cL_law 576 = .ok (.iconst 1, 1) := by decide +kernel
theorem dL_law_577 : decode cL_law 577 = .ok (.iadd, 1) := by decide +kernel
theorem dL_law_578 : decode cL_law 578 = .ok (.iaload, 1) := by decide +kernel
theorem dL_law_579 : decode cL_law 579 = .ok (.aload_n 0, 1) := by decide +kernel
theorem dL_law_580 : decode cL_law 580 = .ok (.iload_n 3, 1) := by decide +kernel
theorem dL_law_581 : decode cL_law 581 = .ok (.iconst 2, 1) := by decide +kernel
theorem dL_law_582 : decode cL_law 582 = .ok (.iadd, 1) := by decide +kernel
theorem dL_law_583 : decode cL_law 583 = .ok (.iaload, 1) := by decide +kernel
theorem dL_law_584 : decode cL_law 584 = .ok (.invokevirtual 73, 3) := by decide +kernel
theorem dL_law_587 : decode cL_law 587 = .ok (.if_icmp .eq 758, 3) := by decide +kernel
theorem dL_law_590 : decode cL_law 590 = .ok (.iconst 0, 1) := by decide +kernel
theorem dL_law_591 : decode cL_law 591 = .ok (.ireturn, 1) := by decide +kernel
theorem dL_law_592 : decode cL_law 592 = .ok (.aload_n 1, 1) := by decide +kernel
theorem dL_law_593 : decode cL_law 593 = .ok (.aload_n 0, 1) := by decide +kernel
theorem dL_law_594 : decode cL_law 594 = .ok (.iload_n 3, 1) := by decide +kernel
theorem dL_law_595 : decode cL_law 595 = .ok (.iconst 1, 1) := by decide +kernel
theorem dL_law_596 : decode cL_law 596 = .ok (.iadd, 1) := by decide +kernel
theorem dL_law_597 : decode cL_law 597 = .ok (.iaload, 1) := by decide +kernel
theorem dL_law_598 : decode cL_law 598 = .ok (.invokevirtual 74, 3) := by decide +kernel
theorem dL_law_601 : decode cL_law 601 = .ok (.aload_n 2, 1) := by decide +kernel
theorem dL_law_602 : decode cL_law 602 = .ok (.aload_n 0, 1) := by decide +kernel
theorem dL_law_603 : decode cL_law 603 = .ok (.iload_n 3, 1) := by decide +kernel
theorem dL_law_604 : decode cL_law 604 = .ok (.iconst 1, 1) := by decide +kernel
theorem dL_law_605 : decode cL_law 605 = .ok (.iadd, 1) := by decide +kernel
theorem dL_law_606 : decode cL_law 606 = .ok (.iaload, 1) := by decide +kernel
theorem dL_law_607 : decode cL_law 607 = .ok (.invokevirtual 77, 3) := by decide +kernel
theorem dL_law_610 : decode cL_law 610 = .ok (.if_icmp .eq 735, 3) := by decide +kernel
theorem dL_law_613 : decode cL_law 613 = .ok (.iconst 0, 1) := by decide +kernel
theorem dL_law_614 : decode cL_law 614 = .ok (.ireturn, 1) := by decide +kernel
theorem dL_law_615 : decode cL_law 615 = .ok (.aload_n 1, 1) := by decide +kernel
theorem dL_law_616 : decode cL_law 616 = .ok (.aload_n 0, 1) := by decide +kernel
theorem dL_law_617 : decode cL_law 617 = .ok (.iload_n 3, 1) := by decide +kernel
theorem dL_law_618 : decode cL_law 618 = .ok (.iconst 1, 1) := by decide +kernel
theorem dL_law_619 : decode cL_law 619 = .ok (.iadd, 1) := by decide +kernel
theorem dL_law_620 : decode cL_law 620 = .ok (.iaload, 1) := by decide +kernel
theorem dL_law_621 : decode cL_law 621 = .ok (.invokevirtual 78, 3) := by decide +kernel
theorem dL_law_624 : decode cL_law 624 = .ok (.aload_n 2, 1) := by decide +kernel
theorem dL_law_625 : decode cL_law 625 = .ok (.aload_n 0, 1) := by decide +kernel
theorem dL_law_626 : decode cL_law 626 = .ok (.iload_n 3, 1) := by decide +kernel
theorem dL_law_627 : decode cL_law 627 = .ok (.iconst 1, 1) := by decide +kernel
theorem dL_law_628 : decode cL_law 628 = .ok (.iadd, 1) := by decide +kernel
theorem dL_law_629 : decode cL_law 629 = .ok (.iaload, 1) := by decide +kernel
theorem dL_law_630 : decode cL_law 630 = .ok (.invokevirtual 81, 3) := by decide +kernel
theorem dL_law_633 : decode cL_law 633 = .ok (.if_icmp .eq 712, 3) := by decide +kernel
theorem dL_law_636 : decode cL_law 636 = .ok (.iconst 0, 1) := by decide +kernel
theorem dL_law_637 : decode cL_law 637 = .ok (.ireturn, 1) := by decide +kernel
theorem dL_law_638 : decode cL_law 638 = .ok (.aload_n 1, 1) := by decide +kernel
theorem dL_law_639 : decode cL_law 639 = .ok (.aload_n 0, 1) := by decide +kernel
theorem dL_law_640 : decode cL_law 640 = .ok (.iload_n 3, 1) := by decide +kernel
theorem dL_law_641 : decode cL_law 641 = .ok (.iconst 1, 1) := by decide +kernel
theorem dL_law_642 : decode cL_law 642 = .ok (.iadd, 1) := by decide +kernel
theorem dL_law_643 : decode cL_law 643 = .ok (.iaload, 1) := by decide +kernel
theorem dL_law_644 : decode cL_law 644 = .ok (.aload_n 0, 1) := by decide +kernel
theorem dL_law_645 : decode cL_law 645 = .ok (.iload_n 3, 1) := by decide +kernel
theorem dL_law_646 : decode cL_law 646 = .ok (.iconst 2, 1) := by decide +kernel
theorem dL_law_647 : decode cL_law 647 = .ok (.iadd, 1) := by decide +kernel
theorem dL_law_648 : decode cL_law 648 = .ok (.iaload, 1) := by decide +kernel
theorem dL_law_649 : decode cL_law 649 = .ok (.aload_n 0, 1) := by decide +kernel
theorem dL_law_650 : decode cL_law 650 = .ok (.iload_n 3, 1) := by decide +kernel
theorem dL_law_651 : decode cL_law 651 = .ok (.iconst 3, 1) := by decide +kernel
theorem dL_law_652 : decode cL_law 652 = .ok (.iadd, 1) := by decide +kernel
theorem dL_law_653 : decode cL_law 653 = .ok (.iaload, 1) := by decide +kernel
theorem dL_law_654 : decode cL_law 654 = .ok (.invokevirtual 82, 3) := by decide +kernel
theorem dL_law_657 : decode cL_law 657 = .ok (.aload_n 2, 1) := by decide +kernel
theorem dL_law_658 : decode cL_law 658 = .ok (.aload_n 0, 1) := by decide +kernel
theorem dL_law_659 : decode cL_law 659 = .ok (.iload_n 3, 1) := by decide +kernel
theorem dL_law_660 : decode cL_law 660 = .ok (.iconst 1, 1) := by decide +kernel
theorem dL_law_661 : decode cL_law 661 = .ok (.iadd, 1) := by decide +kernel
theorem dL_law_662 : decode cL_law 662 = .ok (.iaload, 1) := by decide +kernel
theorem dL_law_663 : decode cL_law 663 = .ok (.aload_n 0, 1) := by decide +kernel
theorem dL_law_664 : decode cL_law 664 = .ok (.iload_n 3, 1) := by decide +kernel
theorem dL_law_665 : decode cL_law 665 = .ok (.iconst 2, 1) := by decide +kernel
theorem dL_law_666 : decode cL_law 666 = .ok (.iadd, 1) := by decide +kernel
theorem dL_law_667 : decode cL_law 667 = .ok (.iaload, 1) := by decide +kernel
theorem dL_law_668 : decode cL_law 668 = .ok (.aload_n 0, 1) := by decide +kernel
theorem dL_law_669 : decode cL_law 669 = .ok (.iload_n 3, 1) := by decide +kernel
theorem dL_law_670 : decode cL_law 670 = .ok (.iconst 3, 1) := by decide +kernel
theorem dL_law_671 : decode cL_law 671 = .ok (.iadd, 1) := by decide +kernel
theorem dL_law_672 : decode cL_law 672 = .ok (.iaload, 1) := by decide +kernel
theorem dL_law_673 : decode cL_law 673 = .ok (.invokevirtual 85, 3) := by decide +kernel
theorem dL_law_676 : decode cL_law 676 = .ok (.if_icmp .eq 669, 3) := by decide +kernel
theorem dL_law_679 : decode cL_law 679 = .ok (.iconst 0, 1) := by decide +kernel
theorem dL_law_680 : decode cL_law 680 = .ok (.ireturn, 1) := by decide +kernel
theorem dL_law_681 : decode cL_law 681 = .ok (.aload_n 1, 1) := by decide +kernel
theorem dL_law_682 : decode cL_law 682 = .ok (.aload_n 0, 1) := by decide +kernel
theorem dL_law_683 : decode cL_law 683 = .ok (.iload_n 3, 1) := by decide +kernel
theorem dL_law_684 : decode cL_law 684 = .ok (.iconst 1, 1) := by decide +kernel
theorem dL_law_685 : decode cL_law 685 = .ok (.iadd, 1) := by decide +kernel
theorem dL_law_686 : decode cL_law 686 = .ok (.iaload, 1) := by decide +kernel
theorem dL_law_687 : decode cL_law 687 = .ok (.aload_n 0, 1) := by decide +kernel
theorem dL_law_688 : decode cL_law 688 = .ok (.iload_n 3, 1) := by decide +kernel
theorem dL_law_689 : decode cL_law 689 = .ok (.iconst 2, 1) := by decide +kernel
theorem dL_law_690 : decode cL_law 690 = .ok (.iadd, 1) := by decide +kernel
theorem dL_law_691 : decode cL_law 691 = .ok (.iaload, 1) := by decide +kernel
theorem dL_law_692 : decode cL_law 692 = .ok (.invokevirtual 86, 3) := by decide +kernel
theorem dL_law_695 : decode cL_law 695 = .ok (.aload_n 2, 1) := by decide +kernel
theorem dL_law_696 : decode cL_law 696 = .ok (.aload_n 0, 1) := by decide +kernel
theorem dL_law_697 : decode cL_law 697 = .ok (.iload_n 3, 1) := by decide +kernel
theorem dL_law_698 : decode cL_law 698 = .ok (.iconst 1, 1) := by decide +kernel
theorem dL_law_699 : decode cL_law 699 = .ok (.iadd, 1) := by decide +kernel
theorem dL_law_700 : decode cL_law 700 = .ok (.iaload, 1) := by decide +kernel
theorem dL_law_701 : decode cL_law 701 = .ok (.aload_n 0, 1) := by decide +kernel
theorem dL_law_702 : decode cL_law 702 = .ok (.iload_n 3, 1) := by decide +kernel
theorem dL_law_703 : decode cL_law 703 = .ok (.iconst 2, 1) := by decide +kernel
theorem dL_law_704 : decode cL_law 704 = .ok (.iadd, 1) := by decide +kernel
theorem dL_law_705 : decode cL_law 705 = .ok (.iaload, 1) := by decide +kernel
theorem dL_law_706 : decode cL_law 706 = .ok (.invokevirtual 89, 3) := by decide +kernel
theorem dL_law_709 : decode cL_law 709 = .ok (.if_icmp .eq 636, 3) := by decide +kernel
theorem dL_law_712 : decode cL_law 712 = .ok (.iconst 0, 1) := by decide +kernel
theorem dL_law_713 : decode cL_law 713 = .ok (.ireturn, 1) := by decide +kernel
theorem dL_law_714 : decode cL_law 714 = .ok (.aload_n 1, 1) := by decide +kernel
theorem dL_law_715 : decode cL_law 715 = .ok (.aload_n 0, 1) := by decide +kernel
theorem dL_law_716 : decode cL_law 716 = .ok (.iload_n 3, 1) := by decide +kernel
theorem dL_law_717 : decode cL_law 717 = .ok (.iconst 1, 1) := by decide +kernel
theorem dL_law_718 : decode cL_law 718 = .ok (.iadd, 1) := by decide +kernel
theorem dL_law_719 : decode cL_law 719 = .ok (.iaload, 1) := by decide +kernel
theorem dL_law_720 : decode cL_law 720 = .ok (.aload_n 0, 1) := by decide +kernel
theorem dL_law_721 : decode cL_law 721 = .ok (.iload_n 3, 1) := by decide +kernel
theorem dL_law_722 : decode cL_law 722 = .ok (.iconst 2, 1) := by decide +kernel
theorem dL_law_723 : decode cL_law 723 = .ok (.iadd, 1) := by decide +kernel
theorem dL_law_724 : decode cL_law 724 = .ok (.iaload, 1) := by decide +kernel
theorem dL_law_725 : decode cL_law 725 = .ok (.invokevirtual 90, 3) := by decide +kernel
theorem dL_law_728 : decode cL_law 728 = .ok (.aload_n 2, 1) := by decide +kernel
theorem dL_law_729 : decode cL_law 729 = .ok (.aload_n 0, 1) := by decide +kernel
theorem dL_law_730 : decode cL_law 730 = .ok (.iload_n 3, 1) := by decide +kernel
theorem dL_law_731 : decode cL_law 731 = .ok (.iconst 1, 1) := by decide +kernel
theorem dL_law_732 : decode cL_law 732 = .ok (.iadd, 1) := by decide +kernel
theorem dL_law_733 : decode cL_law 733 = .ok (.iaload, 1) := by decide +kernel
theorem dL_law_734 : decode cL_law 734 = .ok (.aload_n 0, 1) := by decide +kernel
theorem dL_law_735 : decode cL_law 735 = .ok (.iload_n 3, 1) := by decide +kernel
theorem dL_law_736 : decode cL_law 736 = .ok (.iconst 2, 1) := by decide +kernel
theorem dL_law_737 : decode cL_law 737 = .ok (.iadd, 1) := by decide +kernel
theorem dL_law_738 : decode cL_law 738 = .ok (.iaload, 1) := by decide +kernel
theorem dL_law_739 : decode cL_law 739 = .ok (.invokevirtual 93, 3) := by decide +kernel
theorem dL_law_742 : decode cL_law 742 = .ok (.if_icmp .eq 603, 3) := by decide +kernel
theorem dL_law_745 : decode cL_law 745 = .ok (.iconst 0, 1) := by decide +kernel
theorem dL_law_746 : decode cL_law 746 = .ok (.ireturn, 1) := by decide +kernel
theorem dL_law_747 : decode cL_law 747 = .ok (.aload_n 1, 1) := by decide +kernel
theorem dL_law_748 : decode cL_law 748 = .ok (.invokevirtual 94, 3) := by decide +kernel
theorem dL_law_751 : decode cL_law 751 = .ok (.aload_n 2, 1) := by decide +kernel
theorem dL_law_752 : decode cL_law 752 = .ok (.invokevirtual 97, 3) := by decide +kernel
theorem dL_law_755 : decode cL_law 755 = .ok (.if_icmp .eq 590, 3) := by decide +kernel
theorem dL_law_758 : decode cL_law 758 = .ok (.iconst 0, 1) := by decide +kernel
theorem dL_law_759 : decode cL_law 759 = .ok (.ireturn, 1) := by decide +kernel
theorem dL_law_760 : decode cL_law 760 = .ok (.aload_n 1, 1) := by decide +kernel
theorem dL_law_761 : decode cL_law 761 = .ok (.aload_n 0, 1) := by decide +kernel
theorem dL_law_762 : decode cL_law 762 = .ok (.iload_n 3, 1) := by decide +kernel
theorem dL_law_763 : decode cL_law 763 = .ok (.iconst 1, 1) := by decide +kernel
theorem dL_law_764 : decode cL_law 764 = .ok (.iadd, 1) := by decide +kernel
theorem dL_law_765 : decode cL_law 765 = .ok (.iaload, 1) := by decide +kernel
theorem dL_law_766 : decode cL_law 766 = .ok (.aload_n 0, 1) := by decide +kernel
theorem dL_law_767 : decode cL_law 767 = .ok (.iload_n 3, 1) := by decide +kernel
theorem dL_law_768 : decode cL_law 768 = .ok (.iconst 2, 1) := by decide +kernel
theorem dL_law_769 : decode cL_law 769 = .ok (.iadd, 1) := by decide +kernel
theorem dL_law_770 : decode cL_law 770 = .ok (.iaload, 1) := by decide +kernel
theorem dL_law_771 : decode cL_law 771 = .ok (.invokevirtual 98, 3) := by decide +kernel
theorem dL_law_774 : decode cL_law 774 = .ok (.aload_n 2, 1) := by decide +kernel
theorem dL_law_775 : decode cL_law 775 = .ok (.aload_n 0, 1) := by decide +kernel
theorem dL_law_776 : decode cL_law 776 = .ok (.iload_n 3, 1) := by decide +kernel
theorem dL_law_777 : decode cL_law 777 = .ok (.iconst 1, 1) := by decide +kernel
theorem dL_law_778 : decode cL_law 778 = .ok (.iadd, 1) := by decide +kernel
theorem dL_law_779 : decode cL_law 779 = .ok (.iaload, 1) := by decide +kernel
theorem dL_law_780 : decode cL_law 780 = .ok (.aload_n 0, 1) := by decide +kernel
theorem dL_law_781 : decode cL_law 781 = .ok (.iload_n 3, 1) := by decide +kernel
theorem dL_law_782 : decode cL_law 782 = .ok (.iconst 2, 1) := by decide +kernel
theorem dL_law_783 : decode cL_law 783 = .ok (.iadd, 1) := by decide +kernel
theorem dL_law_784 : decode cL_law 784 = .ok (.iaload, 1) := by decide +kernel
theorem dL_law_785 : decode cL_law 785 = .ok (.invokevirtual 101, 3) := by decide +kernel
theorem dL_law_788 : decode cL_law 788 = .ok (.if_icmp .eq 557, 3) := by decide +kernel
theorem dL_law_791 : decode cL_law 791 = .ok (.iconst 0, 1) := by decide +kernel
theorem dL_law_792 : decode cL_law 792 = .ok (.ireturn, 1) := by decide +kernel
theorem dL_law_793 : decode cL_law 793 = .ok (.aload_n 1, 1) := by decide +kernel
theorem dL_law_794 : decode cL_law 794 = .ok (.aload_n 0, 1) := by decide +kernel
theorem dL_law_795 : decode cL_law 795 = .ok (.iload_n 3, 1) := by decide +kernel
theorem dL_law_796 : decode cL_law 796 = .ok (.iconst 1, 1) := by decide +kernel
theorem dL_law_797 : decode cL_law 797 = .ok (.iadd, 1) := by decide +kernel
theorem dL_law_798 : decode cL_law 798 = .ok (.iaload, 1) := by decide +kernel
theorem dL_law_799 : decode cL_law 799 = .ok (.aload_n 0, 1) := by decide +kernel
theorem dL_law_800 : decode cL_law 800 = .ok (.iload_n 3, 1) := by decide +kernel
theorem dL_law_801 : decode cL_law 801 = .ok (.iconst 2, 1) := by decide +kernel
theorem dL_law_802 : decode cL_law 802 = .ok (.iadd, 1) := by decide +kernel
theorem dL_law_803 : decode cL_law 803 = .ok (.iaload, 1) := by decide +kernel
theorem dL_law_804 : decode cL_law 804 = .ok (.invokevirtual 102, 3) := by decide +kernel
theorem dL_law_807 : decode cL_law 807 = .ok (.aload_n 2, 1) := by decide +kernel
theorem dL_law_808 : decode cL_law 808 = .ok (.aload_n 0, 1) := by decide +kernel
theorem dL_law_809 : decode cL_law 809 = .ok (.iload_n 3, 1) := by decide +kernel
theorem dL_law_810 : decode cL_law 810 = .ok (.iconst 1, 1) := by decide +kernel
theorem dL_law_811 : decode cL_law 811 = .ok (.iadd, 1) := by decide +kernel
theorem dL_law_812 : decode cL_law 812 = .ok (.iaload, 1) := by decide +kernel
theorem dL_law_813 : decode cL_law 813 = .ok (.aload_n 0, 1) := by decide +kernel
theorem dL_law_814 : decode cL_law 814 = .ok (.iload_n 3, 1) := by decide +kernel
theorem dL_law_815 : decode cL_law 815 = .ok (.iconst 2, 1) := by decide +kernel
theorem dL_law_816 : decode cL_law 816 = .ok (.iadd, 1) := by decide +kernel
theorem dL_law_817 : decode cL_law 817 = .ok (.iaload, 1) := by decide +kernel
theorem dL_law_818 : decode cL_law 818 = .ok (.invokevirtual 105, 3) := by decide +kernel
theorem dL_law_821 : decode cL_law 821 = .ok (.if_icmp .eq 524, 3) := by decide +kernel
theorem dL_law_824 : decode cL_law 824 = .ok (.iconst 0, 1) := by decide +kernel
theorem dL_law_825 : decode cL_law 825 = .ok (.ireturn, 1) := by decide +kernel
theorem dL_law_826 : decode cL_law 826 = .ok (.aload_n 1, 1) := by decide +kernel
theorem dL_law_827 : decode cL_law 827 = .ok (.aload_n 0, 1) := by decide +kernel
theorem dL_law_828 : decode cL_law 828 = .ok (.iload_n 3, 1) := by decide +kernel
theorem dL_law_829 : decode cL_law 829 = .ok (.iconst 1, 1) := by decide +kernel
theorem dL_law_830 : decode cL_law 830 = .ok (.iadd, 1) := by decide +kernel
theorem dL_law_831 : decode cL_law 831 = .ok (.iaload, 1) := by decide +kernel
theorem dL_law_832 : decode cL_law 832 = .ok (.invokevirtual 106, 3) := by decide +kernel
theorem dL_law_835 : decode cL_law 835 = .ok (.aload_n 2, 1) := by decide +kernel
theorem dL_law_836 : decode cL_law 836 = .ok (.aload_n 0, 1) := by decide +kernel
theorem dL_law_837 : decode cL_law 837 = .ok (.iload_n 3, 1) := by decide +kernel
theorem dL_law_838 : decode cL_law 838 = .ok (.iconst 1, 1) := by decide +kernel
theorem dL_law_839 : decode cL_law 839 = .ok (.iadd, 1) := by decide +kernel
theorem dL_law_840 : decode cL_law 840 = .ok (.iaload, 1) := by decide +kernel
theorem dL_law_841 : decode cL_law 841 = .ok (.invokevirtual 109, 3) := by decide +kernel
theorem dL_law_844 : decode cL_law 844 = .ok (.if_icmp .eq 501, 3) := by decide +kernel
theorem dL_law_847 : decode cL_law 847 = .ok (.iconst 0, 1) := by decide +kernel
theorem dL_law_848 : decode cL_law 848 = .ok (.ireturn, 1) := by decide +kernel
theorem dL_law_849 : decode cL_law 849 = .ok (.aload_n 1, 1) := by decide +kernel
theorem dL_law_850 : decode cL_law 850 = .ok (.aload_n 0, 1) := by decide +kernel
theorem dL_law_851 : decode cL_law 851 = .ok (.iload_n 3, 1) := by decide +kernel
theorem dL_law_852 : decode cL_law 852 = .ok (.iconst 1, 1) := by decide +kernel
theorem dL_law_853 : decode cL_law 853 = .ok (.iadd, 1) := by decide +kernel
theorem dL_law_854 : decode cL_law 854 = .ok (.iaload, 1) := by decide +kernel
theorem dL_law_855 : decode cL_law 855 = .ok (.aload_n 0, 1) := by decide +kernel
theorem dL_law_856 : decode cL_law 856 = .ok (.iload_n 3, 1) := by decide +kernel
theorem dL_law_857 : decode cL_law 857 = .ok (.iconst 2, 1) := by decide +kernel
theorem dL_law_858 : decode cL_law 858 = .ok (.iadd, 1) := by decide +kernel
theorem dL_law_859 : decode cL_law 859 = .ok (.iaload, 1) := by decide +kernel
theorem dL_law_860 : decode cL_law 860 = .ok (.aload_n 0, 1) := by decide +kernel
theorem dL_law_861 : decode cL_law 861 = .ok (.iload_n 3, 1) := by decide +kernel
theorem dL_law_862 : decode cL_law 862 = .ok (.iconst 3, 1) := by decide +kernel
theorem dL_law_863 : decode cL_law 863 = .ok (.iadd, 1) := by decide +kernel
theorem dL_law_864 : decode cL_law 864 = .ok (.iaload, 1) := by decide +kernel
theorem dL_law_865 : decode cL_law 865 = .ok (.invokevirtual 110, 3) := by decide +kernel
theorem dL_law_868 : decode cL_law 868 = .ok (.aload_n 2, 1) := by decide +kernel
theorem dL_law_869 : decode cL_law 869 = .ok (.aload_n 0, 1) := by decide +kernel
theorem dL_law_870 : decode cL_law 870 = .ok (.iload_n 3, 1) := by decide +kernel
theorem dL_law_871 : decode cL_law 871 = .ok (.iconst 1, 1) := by decide +kernel
theorem dL_law_872 : decode cL_law 872 = .ok (.iadd, 1) := by decide +kernel
theorem dL_law_873 : decode cL_law 873 = .ok (.iaload, 1) := by decide +kernel
theorem dL_law_874 : decode cL_law 874 = .ok (.aload_n 0, 1) := by decide +kernel
theorem dL_law_875 : decode cL_law 875 = .ok (.iload_n 3, 1) := by decide +kernel
theorem dL_law_876 : decode cL_law 876 = .ok (.iconst 2, 1) := by decide +kernel
theorem dL_law_877 : decode cL_law 877 = .ok (.iadd, 1) := by decide +kernel
theorem dL_law_878 : decode cL_law 878 = .ok (.iaload, 1) := by decide +kernel
theorem dL_law_879 : decode cL_law 879 = .ok (.aload_n 0, 1) := by decide +kernel
theorem dL_law_880 : decode cL_law 880 = .ok (.iload_n 3, 1) := by decide +kernel
theorem dL_law_881 : decode cL_law 881 = .ok (.iconst 3, 1) := by decide +kernel
theorem dL_law_882 : decode cL_law 882 = .ok (.iadd, 1) := by decide +kernel
theorem dL_law_883 : decode cL_law 883 = .ok (.iaload, 1) := by decide +kernel
theorem dL_law_884 : decode cL_law 884 = .ok (.invokevirtual 113, 3) := by decide +kernel
theorem dL_law_887 : decode cL_law 887 = .ok (.if_icmp .eq 458, 3) := by decide +kernel
theorem dL_law_890 : decode cL_law 890 = .ok (.iconst 0, 1) := by decide +kernel
theorem dL_law_891 : decode cL_law 891 = .ok (.ireturn, 1) := by decide +kernel
theorem dL_law_892 : decode cL_law 892 = .ok (.aload_n 1, 1) := by decide +kernel
theorem dL_law_893 : decode cL_law 893 = .ok (.aload_n 0, 1) := by decide +kernel
theorem dL_law_894 : decode cL_law 894 = .ok (.iload_n 3, 1) := by decide +kernel
theorem dL_law_895 : decode cL_law 895 = .ok (.iconst 1, 1) := by decide +kernel
theorem dL_law_896 : decode cL_law 896 = .ok (.iadd, 1) := by decide +kernel
theorem dL_law_897 : decode cL_law 897 = .ok (.iaload, 1) := by decide +kernel
theorem dL_law_898 : decode cL_law 898 = .ok (.aload_n 0, 1) := by decide +kernel
theorem dL_law_899 : decode cL_law 899 = .ok (.iload_n 3, 1) := by decide +kernel
theorem dL_law_900 : decode cL_law 900 = .ok (.iconst 2, 1) := by decide +kernel
theorem dL_law_901 : decode cL_law 901 = .ok (.iadd, 1) := by decide +kernel
theorem dL_law_902 : decode cL_law 902 = .ok (.iaload, 1) := by decide +kernel
theorem dL_law_903 : decode cL_law 903 = .ok (.invokevirtual 114, 3) := by decide +kernel
theorem dL_law_906 : decode cL_law 906 = .ok (.aload_n 2, 1) := by decide +kernel
theorem dL_law_907 : decode cL_law 907 = .ok (.aload_n 0, 1) := by decide +kernel
theorem dL_law_908 : decode cL_law 908 = .ok (.iload_n 3, 1) := by decide +kernel
theorem dL_law_909 : decode cL_law 909 = .ok (.iconst 1, 1) := by decide +kernel
theorem dL_law_910 : decode cL_law 910 = .ok (.iadd, 1) := by decide +kernel
theorem dL_law_911 : decode cL_law 911 = .ok (.iaload, 1) := by decide +kernel
theorem dL_law_912 : decode cL_law 912 = .ok (.aload_n 0, 1) := by decide +kernel
theorem dL_law_913 : decode cL_law 913 = .ok (.iload_n 3, 1) := by decide +kernel
theorem dL_law_914 : decode cL_law 914 = .ok (.iconst 2, 1) := by decide +kernel
theorem dL_law_915 : decode cL_law 915 = .ok (.iadd, 1) := by decide +kernel
theorem dL_law_916 : decode cL_law 916 = .ok (.iaload, 1) := by decide +kernel
theorem dL_law_917 : decode cL_law 917 = .ok (.invokevirtual 117, 3) := by decide +kernel
theorem dL_law_920 : decode cL_law 920 = .ok (.if_icmp .eq 425, 3) := by decide +kernel
theorem dL_law_923 : decode cL_law 923 = .ok (.iconst 0, 1) := by decide +kernel
theorem dL_law_924 : decode cL_law 924 = .ok (.ireturn, 1) := by decide +kernel
theorem dL_law_925 : decode cL_law 925 = .ok (.aload_n 1, 1) := by decide +kernel
theorem dL_law_926 : decode cL_law 926 = .ok (.aload_n 0, 1) := by decide +kernel
theorem dL_law_927 : decode cL_law 927 = .ok (.iload_n 3, 1) := by decide +kernel
theorem dL_law_928 : decode cL_law 928 = .ok (.iconst 1, 1) := by decide +kernel
theorem dL_law_929 : decode cL_law 929 = .ok (.iadd, 1) := by decide +kernel
theorem dL_law_930 : decode cL_law 930 = .ok (.iaload, 1) := by decide +kernel
theorem dL_law_931 : decode cL_law 931 = .ok (.aload_n 0, 1) := by decide +kernel
theorem dL_law_932 : decode cL_law 932 = .ok (.iload_n 3, 1) := by decide +kernel
theorem dL_law_933 : decode cL_law 933 = .ok (.iconst 2, 1) := by decide +kernel
theorem dL_law_934 : decode cL_law 934 = .ok (.iadd, 1) := by decide +kernel
theorem dL_law_935 : decode cL_law 935 = .ok (.iaload, 1) := by decide +kernel
theorem dL_law_936 : decode cL_law 936 = .ok (.invokevirtual 118, 3) := by decide +kernel
theorem dL_law_939 : decode cL_law 939 = .ok (.aload_n 2, 1) := by decide +kernel
theorem dL_law_940 : decode cL_law 940 = .ok (.aload_n 0, 1) := by decide +kernel
theorem dL_law_941 : decode cL_law 941 = .ok (.iload_n 3, 1) := by decide +kernel
theorem dL_law_942 : decode cL_law 942 = .ok (.iconst 1, 1) := by decide +kernel
theorem dL_law_943 : decode cL_law 943 = .ok (.iadd, 1) := by decide +kernel
theorem dL_law_944 : decode cL_law 944 = .ok (.iaload, 1) := by decide +kernel
theorem dL_law_945 : decode cL_law 945 = .ok (.aload_n 0, 1) := by decide +kernel
theorem dL_law_946 : decode cL_law 946 = .ok (.iload_n 3, 1) := by decide +kernel
theorem dL_law_947 : decode cL_law 947 = .ok (.iconst 2, 1) := by decide +kernel
theorem dL_law_948 : decode cL_law 948 = .ok (.iadd, 1) := by decide +kernel
theorem dL_law_949 : decode cL_law 949 = .ok (.iaload, 1) := by decide +kernel
theorem dL_law_950 : decode cL_law 950 = .ok (.invokevirtual 121, 3) := by decide +kernel
theorem dL_law_953 : decode cL_law 953 = .ok (.if_icmp .eq 392, 3) := by decide +kernel
theorem dL_law_956 : decode cL_law 956 = .ok (.iconst 0, 1) := by decide +kernel
theorem dL_law_957 : decode cL_law 957 = .ok (.ireturn, 1) := by decide +kernel
theorem dL_law_958 : decode cL_law 958 = .ok (.aload_n 1, 1) := by decide +kernel
theorem dL_law_959 : decode cL_law 959 = .ok (.aload_n 0, 1) := by decide +kernel
theorem dL_law_960 : decode cL_law 960 = .ok (.iload_n 3, 1) := by decide +kernel
theorem dL_law_961 : decode cL_law 961 = .ok (.iconst 1, 1) := by decide +kernel
theorem dL_law_962 : decode cL_law 962 = .ok (.iadd, 1) := by decide +kernel
theorem dL_law_963 : decode cL_law 963 = .ok (.iaload, 1) := by decide +kernel
theorem dL_law_964 : decode cL_law 964 = .ok (.aload_n 0, 1) := by decide +kernel
theorem dL_law_965 : decode cL_law 965 = .ok (.iload_n 3, 1) := by decide +kernel
theorem dL_law_966 : decode cL_law 966 = .ok (.iconst 2, 1) := by decide +kernel
theorem dL_law_967 : decode cL_law 967 = .ok (.iadd, 1) := by decide +kernel
theorem dL_law_968 : decode cL_law 968 = .ok (.iaload, 1) := by decide +kernel
theorem dL_law_969 : decode cL_law 969 = .ok (.invokevirtual 122, 3) := by decide +kernel
theorem dL_law_972 : decode cL_law 972 = .ok (.aload_n 2, 1) := by decide +kernel
theorem dL_law_973 : decode cL_law 973 = .ok (.aload_n 0, 1) := by decide +kernel
theorem dL_law_974 : decode cL_law 974 = .ok (.iload_n 3, 1) := by decide +kernel
theorem dL_law_975 : decode cL_law 975 = .ok (.iconst 1, 1) := by decide +kernel
theorem dL_law_976 : decode cL_law 976 = .ok (.iadd, 1) := by decide +kernel
theorem dL_law_977 : decode cL_law 977 = .ok (.iaload, 1) := by decide +kernel
theorem dL_law_978 : decode cL_law 978 = .ok (.aload_n 0, 1) := by decide +kernel
theorem dL_law_979 : decode cL_law 979 = .ok (.iload_n 3, 1) := by decide +kernel
theorem dL_law_980 : decode cL_law 980 = .ok (.iconst 2, 1) := by decide +kernel
theorem dL_law_981 : decode cL_law 981 = .ok (.iadd, 1) := by decide +kernel
theorem dL_law_982 : decode cL_law 982 = .ok (.iaload, 1) := by decide +kernel
theorem dL_law_983 : decode cL_law 983 = .ok (.invokevirtual 125, 3) := by decide +kernel
theorem dL_law_986 : decode cL_law 986 = .ok (.if_icmp .eq 359, 3) := by decide +kernel
theorem dL_law_989 : decode cL_law 989 = .ok (.iconst 0, 1) := by decide +kernel
theorem dL_law_990 : decode cL_law 990 = .ok (.ireturn, 1) := by decide +kernel
theorem dL_law_991 : decode cL_law 991 = .ok (.aload_n 1, 1) := by decide +kernel
theorem dL_law_992 : decode cL_law 992 = .ok (.aload_n 0, 1) := by decide +kernel
theorem dL_law_993 : decode cL_law 993 = .ok (.iload_n 3, 1) := by decide +kernel
theorem dL_law_994 : decode cL_law 994 = .ok (.iconst 1, 1) := by decide +kernel
theorem dL_law_995 : decode cL_law 995 = .ok (.iadd, 1) := by decide +kernel
theorem dL_law_996 : decode cL_law 996 = .ok (.iaload, 1) := by decide +kernel
theorem dL_law_997 : decode cL_law 997 = .ok (.aload_n 0, 1) := by decide +kernel
theorem dL_law_998 : decode cL_law 998 = .ok (.iload_n 3, 1) := by decide +kernel
theorem dL_law_999 : decode cL_law 999 = .ok (.iconst 2, 1) := by decide +kernel
theorem dL_law_1000 : decode cL_law 1000 = .ok (.iadd, 1) := by decide +kernel
theorem dL_law_1001 : decode cL_law 1001 = .ok (.iaload, 1) := by decide +kernel
theorem dL_law_1002 : decode cL_law 1002 = .ok (.aload_n 0, 1) := by decide +kernel
theorem dL_law_1003 : decode cL_law 1003 = .ok (.iload_n 3, 1) := by decide +kernel
theorem dL_law_1004 : decode cL_law 1004 = .ok (.iconst 3, 1) := by decide +kernel
theorem dL_law_1005 : decode cL_law 1005 = .ok (.iadd, 1) := by decide +kernel
theorem dL_law_1006 : decode cL_law 1006 = .ok (.iaload, 1) := by decide +kernel
theorem dL_law_1007 : decode cL_law 1007 = .ok (.aload_n 0, 1) := by decide +kernel
theorem dL_law_1008 : decode cL_law 1008 = .ok (.iload_n 3, 1) := by decide +kernel
theorem dL_law_1009 : decode cL_law 1009 = .ok (.iconst 4, 1) := by decide +kernel
theorem dL_law_1010 : decode cL_law 1010 = .ok (.iadd, 1) := by decide +kernel
theorem dL_law_1011 : decode cL_law 1011 = .ok (.iaload, 1) := by decide +kernel
theorem dL_law_1012 : decode cL_law 1012 = .ok (.aload_n 0, 1) := by decide +kernel
theorem dL_law_1013 : decode cL_law 1013 = .ok (.iload_n 3, 1) := by decide +kernel
theorem dL_law_1014 : decode cL_law 1014 = .ok (.iconst 5, 1) := by decide +kernel
theorem dL_law_1015 : decode cL_law 1015 = .ok (.iadd, 1) := by decide +kernel
theorem dL_law_1016 : decode cL_law 1016 = .ok (.iaload, 1) := by decide +kernel
theorem dL_law_1017 : decode cL_law 1017 = .ok (.invokevirtual 126, 3) := by decide +kernel
theorem dL_law_1020 : decode cL_law 1020 = .ok (.aload_n 2, 1) := by decide +kernel
theorem dL_law_1021 : decode cL_law 1021 = .ok (.aload_n 0, 1) := by decide +kernel
theorem dL_law_1022 : decode cL_law 1022 = .ok (.iload_n 3, 1) := by decide +kernel
theorem dL_law_1023 : decode cL_law 1023 = .ok (.iconst 1, 1) := by decide +kernel
theorem dL_law_1024 : decode cL_law 1024 = .ok (.iadd, 1) := by decide +kernel
theorem dL_law_1025 : decode cL_law 1025 = .ok (.iaload, 1) := by decide +kernel
theorem dL_law_1026 : decode cL_law 1026 = .ok (.aload_n 0, 1) := by decide +kernel
theorem dL_law_1027 : decode cL_law 1027 = .ok (.iload_n 3, 1) := by decide +kernel
theorem dL_law_1028 : decode cL_law 1028 = .ok (.iconst 2, 1) := by decide +kernel
theorem dL_law_1029 : decode cL_law 1029 = .ok (.iadd, 1) := by decide +kernel
theorem dL_law_1030 : decode cL_law 1030 = .ok (.iaload, 1) := by decide +kernel
theorem dL_law_1031 : decode cL_law 1031 = .ok (.aload_n 0, 1) := by decide +kernel
theorem dL_law_1032 : decode cL_law 1032 = .ok (.iload_n 3, 1) := by decide +kernel
theorem dL_law_1033 : decode cL_law 1033 = .ok (.iconst 3, 1) := by decide +kernel
theorem dL_law_1034 : decode cL_law 1034 = .ok (.iadd, 1) := by decide +kernel
theorem dL_law_1035 : decode cL_law 1035 = .ok (.iaload, 1) := by decide +kernel
theorem dL_law_1036 : decode cL_law 1036 = .ok (.aload_n 0, 1) := by decide +kernel
theorem dL_law_1037 : decode cL_law 1037 = .ok (.iload_n 3, 1) := by decide +kernel
theorem dL_law_1038 : decode cL_law 1038 = .ok (.iconst 4, 1) := by decide +kernel
theorem dL_law_1039 : decode cL_law 1039 = .ok (.iadd, 1) := by decide +kernel
theorem dL_law_1040 : decode cL_law 1040 = .ok (.iaload, 1) := by decide +kernel
theorem dL_law_1041 : decode cL_law 1041 = .ok (.aload_n 0, 1) := by decide +kernel
theorem dL_law_1042 : decode cL_law 1042 = .ok (.iload_n 3, 1) := by decide +kernel
theorem dL_law_1043 : decode cL_law 1043 = .ok (.iconst 5, 1) := by decide +kernel
theorem dL_law_1044 : decode cL_law 1044 = .ok (.iadd, 1) := by decide +kernel
theorem dL_law_1045 : decode cL_law 1045 = .ok (.iaload, 1) := by decide +kernel
theorem dL_law_1046 : decode cL_law 1046 = .ok (.invokevirtual 129, 3) := by decide +kernel
theorem dL_law_1049 : decode cL_law 1049 = .ok (.if_icmp .eq 296, 3) := by decide +kernel
theorem dL_law_1052 : decode cL_law 1052 = .ok (.iconst 0, 1) := by decide +kernel
theorem dL_law_1053 : decode cL_law 1053 = .ok (.ireturn, 1) := by decide +kernel
theorem dL_law_1054 : decode cL_law 1054 = .ok (.aload_n 1, 1) := by decide +kernel
theorem dL_law_1055 : decode cL_law 1055 = .ok (.aload_n 0, 1) := by decide +kernel
theorem dL_law_1056 : decode cL_law 1056 = .ok (.iload_n 3, 1) := by decide +kernel
theorem dL_law_1057 : decode cL_law 1057 = .ok (.iconst 1, 1) := by decide +kernel
theorem dL_law_1058 : decode cL_law 1058 = .ok (.iadd, 1) := by decide +kernel
theorem dL_law_1059 : decode cL_law 1059 = .ok (.iaload, 1) := by decide +kernel
theorem dL_law_1060 : decode cL_law 1060 = .ok (.aload_n 0, 1) := by decide +kernel
theorem dL_law_1061 : decode cL_law 1061 = .ok (.iload_n 3, 1) := by decide +kernel
theorem dL_law_1062 : decode cL_law 1062 = .ok (.iconst 2, 1) := by decide +kernel
theorem dL_law_1063 : decode cL_law 1063 = .ok (.iadd, 1) := by decide +kernel
theorem dL_law_1064 : decode cL_law 1064 = .ok (.iaload, 1) := by decide +kernel
theorem dL_law_1065 : decode cL_law 1065 = .ok (.aload_n 0, 1) := by decide +kernel
theorem dL_law_1066 : decode cL_law 1066 = .ok (.iload_n 3, 1) := by decide +kernel
theorem dL_law_1067 : decode cL_law 1067 = .ok (.iconst 3, 1) := by decide +kernel
theorem dL_law_1068 : decode cL_law 1068 = .ok (.iadd, 1) := by decide +kernel
theorem dL_law_1069 : decode cL_law 1069 = .ok (.iaload, 1) := by decide +kernel
theorem dL_law_1070 : decode cL_law 1070 = .ok (.aload_n 0, 1) := by decide +kernel
theorem dL_law_1071 : decode cL_law 1071 = .ok (.iload_n 3, 1) := by decide +kernel
theorem dL_law_1072 : decode cL_law 1072 = .ok (.iconst 4, 1) := by decide +kernel
theorem dL_law_1073 : decode cL_law 1073 = .ok (.iadd, 1) := by decide +kernel
theorem dL_law_1074 : decode cL_law 1074 = .ok (.iaload, 1) := by decide +kernel
theorem dL_law_1075 : decode cL_law 1075 = .ok (.invokevirtual 130, 3) := by decide +kernel
theorem dL_law_1078 : decode cL_law 1078 = .ok (.aload_n 2, 1) := by decide +kernel
theorem dL_law_1079 : decode cL_law 1079 = .ok (.aload_n 0, 1) := by decide +kernel
theorem dL_law_1080 : decode cL_law 1080 = .ok (.iload_n 3, 1) := by decide +kernel
theorem dL_law_1081 : decode cL_law 1081 = .ok (.iconst 1, 1) := by decide +kernel
theorem dL_law_1082 : decode cL_law 1082 = .ok (.iadd, 1) := by decide +kernel
theorem dL_law_1083 : decode cL_law 1083 = .ok (.iaload, 1) := by decide +kernel
theorem dL_law_1084 : decode cL_law 1084 = .ok (.aload_n 0, 1) := by decide +kernel
theorem dL_law_1085 : decode cL_law 1085 = .ok (.iload_n 3, 1) := by decide +kernel
theorem dL_law_1086 : decode cL_law 1086 = .ok (.iconst 2, 1) := by decide +kernel
theorem dL_law_1087 : decode cL_law 1087 = .ok (.iadd, 1) := by decide +kernel
theorem dL_law_1088 : decode cL_law 1088 = .ok (.iaload, 1) := by decide +kernel
theorem dL_law_1089 : decode cL_law 1089 = .ok (.aload_n 0, 1) := by decide +kernel
theorem dL_law_1090 : decode cL_law 1090 = .ok (.iload_n 3, 1) := by decide +kernel
theorem dL_law_1091 : decode cL_law 1091 = .ok (.iconst 3, 1) := by decide +kernel
theorem dL_law_1092 : decode cL_law 1092 = .ok (.iadd, 1) := by decide +kernel
theorem dL_law_1093 : decode cL_law 1093 = .ok (.iaload, 1) := by decide +kernel
theorem dL_law_1094 : decode cL_law 1094 = .ok (.aload_n 0, 1) := by decide +kernel
theorem dL_law_1095 : decode cL_law 1095 = .ok (.iload_n 3, 1) := by decide +kernel
theorem dL_law_1096 : decode cL_law 1096 = .ok (.iconst 4, 1) := by decide +kernel
theorem dL_law_1097 : decode cL_law 1097 = .ok (.iadd, 1) := by decide +kernel
theorem dL_law_1098 : decode cL_law 1098 = .ok (.iaload, 1) := by decide +kernel
theorem dL_law_1099 : decode cL_law 1099 = .ok (.invokevirtual 134, 3) := by decide +kernel
theorem dL_law_1102 : decode cL_law 1102 = .ok (.lcmp, 1) := by decide +kernel
theorem dL_law_1103 : decode cL_law 1103 = .ok (.ifCond .eq 242, 3) := by decide +kernel
theorem dL_law_1106 : decode cL_law 1106 = .ok (.iconst 0, 1) := by decide +kernel
theorem dL_law_1107 : decode cL_law 1107 = .ok (.ireturn, 1) := by decide +kernel
theorem dL_law_1108 : decode cL_law 1108 = .ok (.aload_n 1, 1) := by decide +kernel
theorem dL_law_1109 : decode cL_law 1109 = .ok (.aload_n 0, 1) := by decide +kernel
theorem dL_law_1110 : decode cL_law 1110 = .ok (.iload_n 3, 1) := by decide +kernel
theorem dL_law_1111 : decode cL_law 1111 = .ok (.iconst 1, 1) := by decide +kernel
theorem dL_law_1112 : decode cL_law 1112 = .ok (.iadd, 1) := by decide +kernel
theorem dL_law_1113 : decode cL_law 1113 = .ok (.iaload, 1) := by decide +kernel
theorem dL_law_1114 : decode cL_law 1114 = .ok (.aload_n 0, 1) := by decide +kernel
theorem dL_law_1115 : decode cL_law 1115 = .ok (.iload_n 3, 1) := by decide +kernel
theorem dL_law_1116 : decode cL_law 1116 = .ok (.iconst 2, 1) := by decide +kernel
theorem dL_law_1117 : decode cL_law 1117 = .ok (.iadd, 1) := by decide +kernel
theorem dL_law_1118 : decode cL_law 1118 = .ok (.iaload, 1) := by decide +kernel
theorem dL_law_1119 : decode cL_law 1119 = .ok (.aload_n 0, 1) := by decide +kernel
theorem dL_law_1120 : decode cL_law 1120 = .ok (.iload_n 3, 1) := by decide +kernel
theorem dL_law_1121 : decode cL_law 1121 = .ok (.iconst 3, 1) := by decide +kernel
theorem dL_law_1122 : decode cL_law 1122 = .ok (.iadd, 1) := by decide +kernel
theorem dL_law_1123 : decode cL_law 1123 = .ok (.iaload, 1) := by decide +kernel
theorem dL_law_1124 : decode cL_law 1124 = .ok (.invokevirtual 135, 3) := by decide +kernel
theorem dL_law_1127 : decode cL_law 1127 = .ok (.aload_n 2, 1) := by decide +kernel
theorem dL_law_1128 : decode cL_law 1128 = .ok (.aload_n 0, 1) := by decide +kernel
theorem dL_law_1129 : decode cL_law 1129 = .ok (.iload_n 3, 1) := by decide +kernel
theorem dL_law_1130 : decode cL_law 1130 = .ok (.iconst 1, 1) := by decide +kernel
theorem dL_law_1131 : decode cL_law 1131 = .ok (.iadd, 1) := by decide +kernel
theorem dL_law_1132 : decode cL_law 1132 = .ok (.iaload, 1) := by decide +kernel
theorem dL_law_1133 : decode cL_law 1133 = .ok (.aload_n 0, 1) := by decide +kernel
theorem dL_law_1134 : decode cL_law 1134 = .ok (.iload_n 3, 1) := by decide +kernel
theorem dL_law_1135 : decode cL_law 1135 = .ok (.iconst 2, 1) := by decide +kernel
theorem dL_law_1136 : decode cL_law 1136 = .ok (.iadd, 1) := by decide +kernel
theorem dL_law_1137 : decode cL_law 1137 = .ok (.iaload, 1) := by decide +kernel
theorem dL_law_1138 : decode cL_law 1138 = .ok (.aload_n 0, 1) := by decide +kernel
theorem dL_law_1139 : decode cL_law 1139 = .ok (.iload_n 3, 1) := by decide +kernel
theorem dL_law_1140 : decode cL_law 1140 = .ok (.iconst 3, 1) := by decide +kernel
theorem dL_law_1141 : decode cL_law 1141 = .ok (.iadd, 1) := by decide +kernel
theorem dL_law_1142 : decode cL_law 1142 = .ok (.iaload, 1) := by decide +kernel
theorem dL_law_1143 : decode cL_law 1143 = .ok (.invokevirtual 138, 3) := by decide +kernel
theorem dL_law_1146 : decode cL_law 1146 = .ok (.if_icmp .eq 199, 3) := by decide +kernel
theorem dL_law_1149 : decode cL_law 1149 = .ok (.iconst 0, 1) := by decide +kernel
theorem dL_law_1150 : decode cL_law 1150 = .ok (.ireturn, 1) := by decide +kernel
theorem dL_law_1151 : decode cL_law 1151 = .ok (.aload_n 1, 1) := by decide +kernel
theorem dL_law_1152 : decode cL_law 1152 = .ok (.aload_n 0, 1) := by decide +kernel
theorem dL_law_1153 : decode cL_law 1153 = .ok (.iload_n 3, 1) := by decide +kernel
theorem dL_law_1154 : decode cL_law 1154 = .ok (.iconst 1, 1) := by decide +kernel
theorem dL_law_1155 : decode cL_law 1155 = .ok (.iadd, 1) := by decide +kernel
theorem dL_law_1156 : decode cL_law 1156 = .ok (.iaload, 1) := by decide +kernel
theorem dL_law_1157 : decode cL_law 1157 = .ok (.invokevirtual 139, 3) := by decide +kernel
theorem dL_law_1160 : decode cL_law 1160 = .ok (.aload_n 2, 1) := by decide +kernel
theorem dL_law_1161 : decode cL_law 1161 = .ok (.aload_n 0, 1) := by decide +kernel
theorem dL_law_1162 : decode cL_law 1162 = .ok (.iload_n 3, 1) := by decide +kernel
theorem dL_law_1163 : decode cL_law 1163 = .ok (.iconst 1, 1) := by decide +kernel
theorem dL_law_1164 : decode cL_law 1164 = .ok (.iadd, 1) := by decide +kernel
theorem dL_law_1165 : decode cL_law 1165 = .ok (.iaload, 1) := by decide +kernel
theorem dL_law_1166 : decode cL_law 1166 = .ok (.invokevirtual 142, 3) := by decide +kernel
theorem dL_law_1169 : decode cL_law 1169 = .ok (.if_icmp .eq 176, 3) := by decide +kernel
theorem dL_law_1172 : decode cL_law 1172 = .ok (.iconst 0, 1) := by decide +kernel
theorem dL_law_1173 : decode cL_law 1173 = .ok (.ireturn, 1) := by decide +kernel
theorem dL_law_1174 : decode cL_law 1174 = .ok (.aload_n 1, 1) := by decide +kernel
theorem dL_law_1175 : decode cL_law 1175 = .ok (.aload_n 0, 1) := by decide +kernel
theorem dL_law_1176 : decode cL_law 1176 = .ok (.iload_n 3, 1) := by decide +kernel
theorem dL_law_1177 : decode cL_law 1177 = .ok (.iconst 1, 1) := by decide +kernel
theorem dL_law_1178 : decode cL_law 1178 = .ok (.iadd, 1) := by decide +kernel
theorem dL_law_1179 : decode cL_law 1179 = .ok (.iaload, 1) := by decide +kernel
theorem dL_law_1180 : decode cL_law 1180 = .ok (.invokevirtual 143, 3) := by decide +kernel
theorem dL_law_1183 : decode cL_law 1183 = .ok (.aload_n 2, 1) := by decide +kernel
theorem dL_law_1184 : decode cL_law 1184 = .ok (.aload_n 0, 1) := by decide +kernel
theorem dL_law_1185 : decode cL_law 1185 = .ok (.iload_n 3, 1) := by decide +kernel
theorem dL_law_1186 : decode cL_law 1186 = .ok (.iconst 1, 1) := by decide +kernel
theorem dL_law_1187 : decode cL_law 1187 = .ok (.iadd, 1) := by decide +kernel
theorem dL_law_1188 : decode cL_law 1188 = .ok (.iaload, 1) := by decide +kernel
theorem dL_law_1189 : decode cL_law 1189 = .ok (.invokevirtual 146, 3) := by decide +kernel
theorem dL_law_1192 : decode cL_law 1192 = .ok (.if_icmp .eq 153, 3) := by decide +kernel
theorem dL_law_1195 : decode cL_law 1195 = .ok (.iconst 0, 1) := by decide +kernel
theorem dL_law_1196 : decode cL_law 1196 = .ok (.ireturn, 1) := by decide +kernel
theorem dL_law_1197 : decode cL_law 1197 = .ok (.aload_n 1, 1) := by decide +kernel
theorem dL_law_1198 : decode cL_law 1198 = .ok (.aload_n 0, 1) := by decide +kernel
theorem dL_law_1199 : decode cL_law 1199 = .ok (.iload_n 3, 1) := by decide +kernel
theorem dL_law_1200 : decode cL_law 1200 = .ok (.iconst 1, 1) := by decide +kernel
theorem dL_law_1201 : decode cL_law 1201 = .ok (.iadd, 1) := by decide +kernel
theorem dL_law_1202 : decode cL_law 1202 = .ok (.iaload, 1) := by decide +kernel
theorem dL_law_1203 : decode cL_law 1203 = .ok (.invokevirtual 147, 3) := by decide +kernel
theorem dL_law_1206 : decode cL_law 1206 = .ok (.aload_n 2, 1) := by decide +kernel
theorem dL_law_1207 : decode cL_law 1207 = .ok (.aload_n 0, 1) := by decide +kernel
theorem dL_law_1208 : decode cL_law 1208 = .ok (.iload_n 3, 1) := by decide +kernel
theorem dL_law_1209 : decode cL_law 1209 = .ok (.iconst 1, 1) := by decide +kernel
theorem dL_law_1210 : decode cL_law 1210 = .ok (.iadd, 1) := by decide +kernel
theorem dL_law_1211 : decode cL_law 1211 = .ok (.iaload, 1) := by decide +kernel
theorem dL_law_1212 : decode cL_law 1212 = .ok (.invokevirtual 150, 3) := by decide +kernel
theorem dL_law_1215 : decode cL_law 1215 = .ok (.if_icmp .eq 130, 3) := by decide +kernel
theorem dL_law_1218 : decode cL_law 1218 = .ok (.iconst 0, 1) := by decide +kernel
theorem dL_law_1219 : decode cL_law 1219 = .ok (.ireturn, 1) := by decide +kernel
theorem dL_law_1220 : decode cL_law 1220 = .ok (.aload_n 1, 1) := by decide +kernel
theorem dL_law_1221 : decode cL_law 1221 = .ok (.aload_n 0, 1) := by decide +kernel
theorem dL_law_1222 : decode cL_law 1222 = .ok (.iload_n 3, 1) := by decide +kernel
theorem dL_law_1223 : decode cL_law 1223 = .ok (.iconst 1, 1) := by decide +kernel
theorem dL_law_1224 : decode cL_law 1224 = .ok (.iadd, 1) := by decide +kernel
theorem dL_law_1225 : decode cL_law 1225 = .ok (.iaload, 1) := by decide +kernel
theorem dL_law_1226 : decode cL_law 1226 = .ok (.aload_n 0, 1) := by decide +kernel
theorem dL_law_1227 : decode cL_law 1227 = .ok (.iload_n 3, 1) := by decide +kernel
theorem dL_law_1228 : decode cL_law 1228 = .ok (.iconst 2, 1) := by decide +kernel
theorem dL_law_1229 : decode cL_law 1229 = .ok (.iadd, 1) := by decide +kernel
theorem dL_law_1230 : decode cL_law 1230 = .ok (.iaload, 1) := by decide +kernel
theorem dL_law_1231 : decode cL_law 1231 = .ok (.invokevirtual 151, 3) := by decide +kernel
theorem dL_law_1234 : decode cL_law 1234 = .ok (.aload_n 2, 1) := by decide +kernel
theorem dL_law_1235 : decode cL_law 1235 = .ok (.aload_n 0, 1) := by decide +kernel
theorem dL_law_1236 : decode cL_law 1236 = .ok (.iload_n 3, 1) := by decide +kernel
theorem dL_law_1237 : decode cL_law 1237 = .ok (.iconst 1, 1) := by decide +kernel
theorem dL_law_1238 : decode cL_law 1238 = .ok (.iadd, 1) := by decide +kernel
theorem dL_law_1239 : decode cL_law 1239 = .ok (.iaload, 1) := by decide +kernel
theorem dL_law_1240 : decode cL_law 1240 = .ok (.aload_n 0, 1) := by decide +kernel
theorem dL_law_1241 : decode cL_law 1241 = .ok (.iload_n 3, 1) := by decide +kernel
theorem dL_law_1242 : decode cL_law 1242 = .ok (.iconst 2, 1) := by decide +kernel
theorem dL_law_1243 : decode cL_law 1243 = .ok (.iadd, 1) := by decide +kernel
theorem dL_law_1244 : decode cL_law 1244 = .ok (.iaload, 1) := by decide +kernel
theorem dL_law_1245 : decode cL_law 1245 = .ok (.invokevirtual 154, 3) := by decide +kernel
theorem dL_law_1248 : decode cL_law 1248 = .ok (.if_icmp .eq 97, 3) := by decide +kernel
theorem dL_law_1251 : decode cL_law 1251 = .ok (.iconst 0, 1) := by decide +kernel
theorem dL_law_1252 : decode cL_law 1252 = .ok (.ireturn, 1) := by decide +kernel
theorem dL_law_1253 : decode cL_law 1253 = .ok (.aload_n 1, 1) := by decide +kernel
theorem dL_law_1254 : decode cL_law 1254 = .ok (.aload_n 0, 1) := by decide +kernel
theorem dL_law_1255 : decode cL_law 1255 = .ok (.iload_n 3, 1) := by decide +kernel
theorem dL_law_1256 : decode cL_law 1256 = .ok (.iconst 1, 1) := by decide +kernel
theorem dL_law_1257 : decode cL_law 1257 = .ok (.iadd, 1) := by decide +kernel
theorem dL_law_1258 : decode cL_law 1258 = .ok (.iaload, 1) := by decide +kernel
theorem dL_law_1259 : decode cL_law 1259 = .ok (.aload_n 0, 1) := by decide +kernel
theorem dL_law_1260 : decode cL_law 1260 = .ok (.iload_n 3, 1) := by decide +kernel
theorem dL_law_1261 : decode cL_law 1261 = .ok (.iconst 2, 1) := by decide +kernel
theorem dL_law_1262 : decode cL_law 1262 = .ok (.iadd, 1) := by decide +kernel
theorem dL_law_1263 : decode cL_law 1263 = .ok (.iaload, 1) := by decide +kernel
theorem dL_law_1264 : decode cL_law 1264 = .ok (.invokevirtual 155, 3) := by decide +kernel
theorem dL_law_1267 : decode cL_law 1267 = .ok (.aload_n 2, 1) := by decide +kernel
theorem dL_law_1268 : decode cL_law 1268 = .ok (.aload_n 0, 1) := by decide +kernel
theorem dL_law_1269 : decode cL_law 1269 = .ok (.iload_n 3, 1) := by decide +kernel
theorem dL_law_1270 : decode cL_law 1270 = .ok (.iconst 1, 1) := by decide +kernel
theorem dL_law_1271 : decode cL_law 1271 = .ok (.iadd, 1) := by decide +kernel
theorem dL_law_1272 : decode cL_law 1272 = .ok (.iaload, 1) := by decide +kernel
theorem dL_law_1273 : decode cL_law 1273 = .ok (.aload_n 0, 1) := by decide +kernel
theorem dL_law_1274 : decode cL_law 1274 = .ok (.iload_n 3, 1) := by decide +kernel
theorem dL_law_1275 : decode cL_law 1275 = .ok (.iconst 2, 1) := by decide +kernel
theorem dL_law_1276 : decode cL_law 1276 = .ok (.iadd, 1) := by decide +kernel
theorem dL_law_1277 : decode cL_law 1277 = .ok (.iaload, 1) := by decide +kernel
theorem dL_law_1278 : decode cL_law 1278 = .ok (.invokevirtual 158, 3) := by decide +kernel
theorem dL_law_1281 : decode cL_law 1281 = .ok (.if_icmp .eq 64, 3) := by decide +kernel
theorem dL_law_1284 : decode cL_law 1284 = .ok (.iconst 0, 1) := by decide +kernel
theorem dL_law_1285 : decode cL_law 1285 = .ok (.ireturn, 1) := by decide +kernel
theorem dL_law_1286 : decode cL_law 1286 = .ok (.aload_n 1, 1) := by decide +kernel
theorem dL_law_1287 : decode cL_law 1287 = .ok (.aload_n 0, 1) := by decide +kernel
theorem dL_law_1288 : decode cL_law 1288 = .ok (.iload_n 3, 1) := by decide +kernel
theorem dL_law_1289 : decode cL_law 1289 = .ok (.iconst 1, 1) := by decide +kernel
theorem dL_law_1290 : decode cL_law 1290 = .ok (.iadd, 1) := by decide +kernel
theorem dL_law_1291 : decode cL_law 1291 = .ok (.iaload, 1) := by decide +kernel
theorem dL_law_1292 : decode cL_law 1292 = .ok (.invokevirtual 159, 3) := by decide +kernel
theorem dL_law_1295 : decode cL_law 1295 = .ok (.aload_n 2, 1) := by decide +kernel
theorem dL_law_1296 : decode cL_law 1296 = .ok (.aload_n 0, 1) := by decide +kernel
theorem dL_law_1297 : decode cL_law 1297 = .ok (.iload_n 3, 1) := by decide +kernel
theorem dL_law_1298 : decode cL_law 1298 = .ok (.iconst 1, 1) := by decide +kernel
theorem dL_law_1299 : decode cL_law 1299 = .ok (.iadd, 1) := by decide +kernel
theorem dL_law_1300 : decode cL_law 1300 = .ok (.iaload, 1) := by decide +kernel
theorem dL_law_1301 : decode cL_law 1301 = .ok (.invokevirtual 162, 3) := by decide +kernel
theorem dL_law_1304 : decode cL_law 1304 = .ok (.if_icmp .eq 41, 3) := by decide +kernel
theorem dL_law_1307 : decode cL_law 1307 = .ok (.iconst 0, 1) := by decide +kernel
theorem dL_law_1308 : decode cL_law 1308 = .ok (.ireturn, 1) := by decide +kernel
theorem dL_law_1309 : decode cL_law 1309 = .ok (.aload_n 1, 1) := by decide +kernel
theorem dL_law_1310 : decode cL_law 1310 = .ok (.aload_n 0, 1) := by decide +kernel
theorem dL_law_1311 : decode cL_law 1311 = .ok (.iload_n 3, 1) := by decide +kernel
theorem dL_law_1312 : decode cL_law 1312 = .ok (.iconst 1, 1) := by decide +kernel
theorem dL_law_1313 : decode cL_law 1313 = .ok (.iadd, 1) := by decide +kernel
theorem dL_law_1314 : decode cL_law 1314 = .ok (.iaload, 1) := by decide +kernel
theorem dL_law_1315 : decode cL_law 1315 = .ok (.invokevirtual 163, 3) := by decide +kernel
theorem dL_law_1318 : decode cL_law 1318 = .ok (.aload_n 2, 1) := by decide +kernel
theorem dL_law_1319 : decode cL_law 1319 = .ok (.aload_n 0, 1) := by decide +kernel
theorem dL_law_1320 : decode cL_law 1320 = .ok (.iload_n 3, 1) := by decide +kernel
theorem dL_law_1321 : decode cL_law 1321 = .ok (.iconst 1, 1) := by decide +kernel
theorem dL_law_1322 : decode cL_law 1322 = .ok (.iadd, 1) := by decide +kernel
theorem dL_law_1323 : decode cL_law 1323 = .ok (.iaload, 1) := by decide +kernel
theorem dL_law_1324 : decode cL_law 1324 = .ok (.invokevirtual 166, 3) := by decide +kernel
theorem dL_law_1327 : decode cL_law 1327 = .ok (.if_icmp .eq 18, 3) := by decide +kernel
theorem dL_law_1330 : decode cL_law 1330 = .ok (.iconst 0, 1) := by decide +kernel
theorem dL_law_1331 : decode cL_law 1331 = .ok (.ireturn, 1) := by decide +kernel
theorem dL_law_1332 : decode cL_law 1332 = .ok (.aload_n 1, 1) := by decide +kernel
theorem dL_law_1333 : decode cL_law 1333 = .ok (.invokevirtual 167, 3) := by decide +kernel
theorem dL_law_1336 : decode cL_law 1336 = .ok (.aload_n 2, 1) := by decide +kernel
theorem dL_law_1337 : decode cL_law 1337 = .ok (.invokevirtual 170, 3) := by decide +kernel
theorem dL_law_1340 : decode cL_law 1340 = .ok (.if_icmp .eq 5, 3) := by decide +kernel
theorem dL_law_1343 : decode cL_law 1343 = .ok (.iconst 0, 1) := by decide +kernel
theorem dL_law_1344 : decode cL_law 1344 = .ok (.ireturn, 1) := by decide +kernel
theorem dL_law_1345 : decode cL_law 1345 = .ok (.iinc 3 6, 3) := by decide +kernel
theorem dL_law_1348 : decode cL_law 1348 = .ok (.goto (-1330), 3) := by decide +kernel
theorem dL_law_1351 : decode cL_law 1351 = .ok (.iconst 1, 1) := by decide +kernel
theorem dL_law_1352 : decode cL_law 1352 = .ok (.ireturn, 1) := by decide +kernel
end
