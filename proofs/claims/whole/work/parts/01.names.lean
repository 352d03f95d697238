-- ===== PART A: goes FIRST, ahead of the names: the tables' words, and 'selects' of the private methods out of them =====
/-- a private method of a class that the tables say can be made, by its rows of tables_1 -/
def lw_okq (q : MethodName × Nat) : Prop := (q.1.cls ≠ "java/lang/invoke/MethodHandle" ∧ q.1.cls ≠ "java/lang/invoke/VarHandle") ∧ Cond.instantiable q.1.cls q.2 ∈ tables_1 ∧ Cond.privateMethod q.1 ∈ tables_1 ∧ Cond.instanceMethod q.1 ∈ tables_1
theorem lw_p0 : lw_okq (⟨"FollowedPeaks", "followAnew", "()V"⟩, 12) := ⟨⟨by decide +kernel, by decide +kernel⟩, List.mem_of_getElem? (i := 19) (by decide +kernel), List.mem_of_getElem? (i := 244) (by decide +kernel), List.mem_of_getElem? (i := 245) (by decide +kernel)⟩
theorem lw_p1 : lw_okq (⟨"FollowedPeaks$Peaks", "lookAt", "(LFollowedPeaks$Scene;II)V"⟩, 4) := ⟨⟨by decide +kernel, by decide +kernel⟩, List.mem_of_getElem? (i := 96) (by decide +kernel), List.mem_of_getElem? (i := 252) (by decide +kernel), List.mem_of_getElem? (i := 253) (by decide +kernel)⟩
theorem lw_p2 : lw_okq (⟨"FollowedPeaks$Joiner", "scoreAll", "()V"⟩, 7) := ⟨⟨by decide +kernel, by decide +kernel⟩, List.mem_of_getElem? (i := 125) (by decide +kernel), List.mem_of_getElem? (i := 284) (by decide +kernel), List.mem_of_getElem? (i := 285) (by decide +kernel)⟩
theorem lw_p3 : lw_okq (⟨"FollowedPeaks$Joiner", "pairedScore", "(II)I"⟩, 7) := ⟨⟨by decide +kernel, by decide +kernel⟩, List.mem_of_getElem? (i := 125) (by decide +kernel), List.mem_of_getElem? (i := 292) (by decide +kernel), List.mem_of_getElem? (i := 293) (by decide +kernel)⟩
theorem lw_p4 : lw_okq (⟨"FollowedPeaks$Joiner", "chooseMates", "()I"⟩, 7) := ⟨⟨by decide +kernel, by decide +kernel⟩, List.mem_of_getElem? (i := 125) (by decide +kernel), List.mem_of_getElem? (i := 299) (by decide +kernel), List.mem_of_getElem? (i := 300) (by decide +kernel)⟩
theorem lw_p5 : lw_okq (⟨"FollowedPeaks$Joiner", "lowestMate", "(II)I"⟩, 7) := ⟨⟨by decide +kernel, by decide +kernel⟩, List.mem_of_getElem? (i := 125) (by decide +kernel), List.mem_of_getElem? (i := 303) (by decide +kernel), List.mem_of_getElem? (i := 304) (by decide +kernel)⟩
theorem lw_p6 : lw_okq (⟨"FollowedPeaks$Tracks", "begin", "(II)V"⟩, 10) := ⟨⟨by decide +kernel, by decide +kernel⟩, List.mem_of_getElem? (i := 154) (by decide +kernel), List.mem_of_getElem? (i := 307) (by decide +kernel), List.mem_of_getElem? (i := 308) (by decide +kernel)⟩
theorem lw_p7 : lw_okq (⟨"FollowedPeaks$Tracks", "addPeak", "(LFollowedPeaks$Peaks;II)V"⟩, 10) := ⟨⟨by decide +kernel, by decide +kernel⟩, List.mem_of_getElem? (i := 154) (by decide +kernel), List.mem_of_getElem? (i := 311) (by decide +kernel), List.mem_of_getElem? (i := 312) (by decide +kernel)⟩
theorem lw_p8 : lw_okq (⟨"FollowedPeaks$Tracks", "measure", "(I)V"⟩, 10) := ⟨⟨by decide +kernel, by decide +kernel⟩, List.mem_of_getElem? (i := 154) (by decide +kernel), List.mem_of_getElem? (i := 315) (by decide +kernel), List.mem_of_getElem? (i := 316) (by decide +kernel)⟩
theorem lw_p9 : lw_okq (⟨"FollowedPeaks$Text", "nextToken", "()V"⟩, 5) := ⟨⟨by decide +kernel, by decide +kernel⟩, List.mem_of_getElem? (i := 55) (by decide +kernel), List.mem_of_getElem? (i := 389) (by decide +kernel), List.mem_of_getElem? (i := 390) (by decide +kernel)⟩
theorem lw_p10 : lw_okq (⟨"FollowedPeaks$Text", "kindAt", "(I)I"⟩, 5) := ⟨⟨by decide +kernel, by decide +kernel⟩, List.mem_of_getElem? (i := 55) (by decide +kernel), List.mem_of_getElem? (i := 393) (by decide +kernel), List.mem_of_getElem? (i := 394) (by decide +kernel)⟩
theorem lw_p11 : lw_okq (⟨"FollowedPeaks$Text", "readItem", "(LFollowedPeaks$Scene;)Z"⟩, 5) := ⟨⟨by decide +kernel, by decide +kernel⟩, List.mem_of_getElem? (i := 55) (by decide +kernel), List.mem_of_getElem? (i := 397) (by decide +kernel), List.mem_of_getElem? (i := 398) (by decide +kernel)⟩
theorem lw_p12 : lw_okq (⟨"FollowedPeaks$Text", "isWord", "(Ljava/lang/String;)Z"⟩, 5) := ⟨⟨by decide +kernel, by decide +kernel⟩, List.mem_of_getElem? (i := 55) (by decide +kernel), List.mem_of_getElem? (i := 402) (by decide +kernel), List.mem_of_getElem? (i := 403) (by decide +kernel)⟩
theorem lw_p13 : lw_okq (⟨"FollowedPeaks$Text", "readFrame", "(LFollowedPeaks$Scene;)Z"⟩, 5) := ⟨⟨by decide +kernel, by decide +kernel⟩, List.mem_of_getElem? (i := 55) (by decide +kernel), List.mem_of_getElem? (i := 454) (by decide +kernel), List.mem_of_getElem? (i := 455) (by decide +kernel)⟩
theorem lw_p14 : lw_okq (⟨"FollowedPeaks$Text", "figureAt", "(I)I"⟩, 5) := ⟨⟨by decide +kernel, by decide +kernel⟩, List.mem_of_getElem? (i := 55) (by decide +kernel), List.mem_of_getElem? (i := 458) (by decide +kernel), List.mem_of_getElem? (i := 459) (by decide +kernel)⟩
theorem lw_p15 : lw_okq (⟨"FollowedPeaks$Text", "namedSetting", "()I"⟩, 5) := ⟨⟨by decide +kernel, by decide +kernel⟩, List.mem_of_getElem? (i := 55) (by decide +kernel), List.mem_of_getElem? (i := 466) (by decide +kernel), List.mem_of_getElem? (i := 467) (by decide +kernel)⟩
def lw_privs_1 : List (MethodName × Nat) := [(⟨"FollowedPeaks", "followAnew", "()V"⟩, 12), (⟨"FollowedPeaks$Peaks", "lookAt", "(LFollowedPeaks$Scene;II)V"⟩, 4), (⟨"FollowedPeaks$Joiner", "scoreAll", "()V"⟩, 7), (⟨"FollowedPeaks$Joiner", "pairedScore", "(II)I"⟩, 7), (⟨"FollowedPeaks$Joiner", "chooseMates", "()I"⟩, 7), (⟨"FollowedPeaks$Joiner", "lowestMate", "(II)I"⟩, 7), (⟨"FollowedPeaks$Tracks", "begin", "(II)V"⟩, 10), (⟨"FollowedPeaks$Tracks", "addPeak", "(LFollowedPeaks$Peaks;II)V"⟩, 10), (⟨"FollowedPeaks$Tracks", "measure", "(I)V"⟩, 10), (⟨"FollowedPeaks$Text", "nextToken", "()V"⟩, 5), (⟨"FollowedPeaks$Text", "kindAt", "(I)I"⟩, 5), (⟨"FollowedPeaks$Text", "readItem", "(LFollowedPeaks$Scene;)Z"⟩, 5), (⟨"FollowedPeaks$Text", "isWord", "(Ljava/lang/String;)Z"⟩, 5), (⟨"FollowedPeaks$Text", "readFrame", "(LFollowedPeaks$Scene;)Z"⟩, 5), (⟨"FollowedPeaks$Text", "figureAt", "(I)I"⟩, 5), (⟨"FollowedPeaks$Text", "namedSetting", "()I"⟩, 5)]
theorem lw_r1 : ∀ q ∈ lw_privs_1, lw_okq q := List.forall_mem_cons.mpr ⟨lw_p0, List.forall_mem_cons.mpr ⟨lw_p1, List.forall_mem_cons.mpr ⟨lw_p2, List.forall_mem_cons.mpr ⟨lw_p3, List.forall_mem_cons.mpr ⟨lw_p4, List.forall_mem_cons.mpr ⟨lw_p5, List.forall_mem_cons.mpr ⟨lw_p6, List.forall_mem_cons.mpr ⟨lw_p7, List.forall_mem_cons.mpr ⟨lw_p8, List.forall_mem_cons.mpr ⟨lw_p9, List.forall_mem_cons.mpr ⟨lw_p10, List.forall_mem_cons.mpr ⟨lw_p11, List.forall_mem_cons.mpr ⟨lw_p12, List.forall_mem_cons.mpr ⟨lw_p13, List.forall_mem_cons.mpr ⟨lw_p14, List.forall_mem_cons.mpr ⟨lw_p15, fun _ h => absurd h List.not_mem_nil⟩⟩⟩⟩⟩⟩⟩⟩⟩⟩⟩⟩⟩⟩⟩⟩
theorem lw_p16 : lw_okq (⟨"FollowedPeaks$Text", "readSetting", "(LFollowedPeaks$Scene;I)Z"⟩, 5) := ⟨⟨by decide +kernel, by decide +kernel⟩, List.mem_of_getElem? (i := 55) (by decide +kernel), List.mem_of_getElem? (i := 473) (by decide +kernel), List.mem_of_getElem? (i := 474) (by decide +kernel)⟩
theorem lw_p17 : lw_okq (⟨"FollowedPeaks$History", "loseOldest", "()V"⟩, 2) := ⟨⟨by decide +kernel, by decide +kernel⟩, List.mem_of_getElem? (i := 79) (by decide +kernel), List.mem_of_getElem? (i := 488) (by decide +kernel), List.mem_of_getElem? (i := 489) (by decide +kernel)⟩
theorem lw_p18 : lw_okq (⟨"FollowedPeaks", "loudTogether", "(IZ)I"⟩, 12) := ⟨⟨by decide +kernel, by decide +kernel⟩, List.mem_of_getElem? (i := 19) (by decide +kernel), List.mem_of_getElem? (i := 532) (by decide +kernel), List.mem_of_getElem? (i := 533) (by decide +kernel)⟩
theorem lw_p19 : lw_okq (⟨"FollowedPeaks", "isKept", "(I)Z"⟩, 12) := ⟨⟨by decide +kernel, by decide +kernel⟩, List.mem_of_getElem? (i := 19) (by decide +kernel), List.mem_of_getElem? (i := 536) (by decide +kernel), List.mem_of_getElem? (i := 537) (by decide +kernel)⟩
theorem lw_p20 : lw_okq (⟨"FollowedPeaks", "tracksByReach", "(I)I"⟩, 12) := ⟨⟨by decide +kernel, by decide +kernel⟩, List.mem_of_getElem? (i := 19) (by decide +kernel), List.mem_of_getElem? (i := 565) (by decide +kernel), List.mem_of_getElem? (i := 566) (by decide +kernel)⟩
theorem lw_p21 : lw_okq (⟨"FollowedPeaks$Seen", "fits", "(LFollowedPeaks$Tracks;I)Z"⟩, 6) := ⟨⟨by decide +kernel, by decide +kernel⟩, List.mem_of_getElem? (i := 200) (by decide +kernel), List.mem_of_getElem? (i := 590) (by decide +kernel), List.mem_of_getElem? (i := 591) (by decide +kernel)⟩
theorem lw_p22 : lw_okq (⟨"FollowedPeaks", "keptTracks", "()I"⟩, 12) := ⟨⟨by decide +kernel, by decide +kernel⟩, List.mem_of_getElem? (i := 19) (by decide +kernel), List.mem_of_getElem? (i := 617) (by decide +kernel), List.mem_of_getElem? (i := 618) (by decide +kernel)⟩
theorem lw_p23 : lw_okq (⟨"FollowedPeaksModel", "reads", "()I"⟩, 23) := ⟨⟨by decide +kernel, by decide +kernel⟩, List.mem_of_getElem? (i := 625) (by decide +kernel), List.mem_of_getElem? (i := 719) (by decide +kernel), List.mem_of_getElem? (i := 720) (by decide +kernel)⟩
theorem lw_p24 : lw_okq (⟨"FollowedPeaksModel", "steps", "()V"⟩, 23) := ⟨⟨by decide +kernel, by decide +kernel⟩, List.mem_of_getElem? (i := 625) (by decide +kernel), List.mem_of_getElem? (i := 723) (by decide +kernel), List.mem_of_getElem? (i := 724) (by decide +kernel)⟩
theorem lw_p25 : lw_okq (⟨"FollowedPeaksModel", "at", "(I)I"⟩, 23) := ⟨⟨by decide +kernel, by decide +kernel⟩, List.mem_of_getElem? (i := 625) (by decide +kernel), List.mem_of_getElem? (i := 727) (by decide +kernel), List.mem_of_getElem? (i := 728) (by decide +kernel)⟩
theorem lw_p26 : lw_okq (⟨"FollowedPeaksModel", "wordOf", "()I"⟩, 23) := ⟨⟨by decide +kernel, by decide +kernel⟩, List.mem_of_getElem? (i := 625) (by decide +kernel), List.mem_of_getElem? (i := 731) (by decide +kernel), List.mem_of_getElem? (i := 732) (by decide +kernel)⟩
theorem lw_p27 : lw_okq (⟨"FollowedPeaksModel", "isWord", "(IIIII)Z"⟩, 23) := ⟨⟨by decide +kernel, by decide +kernel⟩, List.mem_of_getElem? (i := 625) (by decide +kernel), List.mem_of_getElem? (i := 735) (by decide +kernel), List.mem_of_getElem? (i := 736) (by decide +kernel)⟩
theorem lw_p28 : lw_okq (⟨"FollowedPeaksModel", "readsFrame", "()V"⟩, 23) := ⟨⟨by decide +kernel, by decide +kernel⟩, List.mem_of_getElem? (i := 625) (by decide +kernel), List.mem_of_getElem? (i := 739) (by decide +kernel), List.mem_of_getElem? (i := 740) (by decide +kernel)⟩
theorem lw_p29 : lw_okq (⟨"FollowedPeaksModel", "takes", "(Z)V"⟩, 23) := ⟨⟨by decide +kernel, by decide +kernel⟩, List.mem_of_getElem? (i := 625) (by decide +kernel), List.mem_of_getElem? (i := 743) (by decide +kernel), List.mem_of_getElem? (i := 744) (by decide +kernel)⟩
theorem lw_p30 : lw_okq (⟨"FollowedPeaksModel", "readsNumber", "(III)V"⟩, 23) := ⟨⟨by decide +kernel, by decide +kernel⟩, List.mem_of_getElem? (i := 625) (by decide +kernel), List.mem_of_getElem? (i := 747) (by decide +kernel), List.mem_of_getElem? (i := 748) (by decide +kernel)⟩
theorem lw_p31 : lw_okq (⟨"FollowedPeaksModel", "notes", "()V"⟩, 23) := ⟨⟨by decide +kernel, by decide +kernel⟩, List.mem_of_getElem? (i := 625) (by decide +kernel), List.mem_of_getElem? (i := 751) (by decide +kernel), List.mem_of_getElem? (i := 752) (by decide +kernel)⟩
def lw_privs_2 : List (MethodName × Nat) := [(⟨"FollowedPeaks$Text", "readSetting", "(LFollowedPeaks$Scene;I)Z"⟩, 5), (⟨"FollowedPeaks$History", "loseOldest", "()V"⟩, 2), (⟨"FollowedPeaks", "loudTogether", "(IZ)I"⟩, 12), (⟨"FollowedPeaks", "isKept", "(I)Z"⟩, 12), (⟨"FollowedPeaks", "tracksByReach", "(I)I"⟩, 12), (⟨"FollowedPeaks$Seen", "fits", "(LFollowedPeaks$Tracks;I)Z"⟩, 6), (⟨"FollowedPeaks", "keptTracks", "()I"⟩, 12), (⟨"FollowedPeaksModel", "reads", "()I"⟩, 23), (⟨"FollowedPeaksModel", "steps", "()V"⟩, 23), (⟨"FollowedPeaksModel", "at", "(I)I"⟩, 23), (⟨"FollowedPeaksModel", "wordOf", "()I"⟩, 23), (⟨"FollowedPeaksModel", "isWord", "(IIIII)Z"⟩, 23), (⟨"FollowedPeaksModel", "readsFrame", "()V"⟩, 23), (⟨"FollowedPeaksModel", "takes", "(Z)V"⟩, 23), (⟨"FollowedPeaksModel", "readsNumber", "(III)V"⟩, 23), (⟨"FollowedPeaksModel", "notes", "()V"⟩, 23)]
theorem lw_r2 : ∀ q ∈ lw_privs_2, lw_okq q := List.forall_mem_cons.mpr ⟨lw_p16, List.forall_mem_cons.mpr ⟨lw_p17, List.forall_mem_cons.mpr ⟨lw_p18, List.forall_mem_cons.mpr ⟨lw_p19, List.forall_mem_cons.mpr ⟨lw_p20, List.forall_mem_cons.mpr ⟨lw_p21, List.forall_mem_cons.mpr ⟨lw_p22, List.forall_mem_cons.mpr ⟨lw_p23, List.forall_mem_cons.mpr ⟨lw_p24, List.forall_mem_cons.mpr ⟨lw_p25, List.forall_mem_cons.mpr ⟨lw_p26, List.forall_mem_cons.mpr ⟨lw_p27, List.forall_mem_cons.mpr ⟨lw_p28, List.forall_mem_cons.mpr ⟨lw_p29, List.forall_mem_cons.mpr ⟨lw_p30, List.forall_mem_cons.mpr ⟨lw_p31, fun _ h => absurd h List.not_mem_nil⟩⟩⟩⟩⟩⟩⟩⟩⟩⟩⟩⟩⟩⟩⟩⟩
theorem lw_p32 : lw_okq (⟨"FollowedPeaksModel", "isPlace", "(II)Z"⟩, 23) := ⟨⟨by decide +kernel, by decide +kernel⟩, List.mem_of_getElem? (i := 625) (by decide +kernel), List.mem_of_getElem? (i := 759) (by decide +kernel), List.mem_of_getElem? (i := 760) (by decide +kernel)⟩
theorem lw_p33 : lw_okq (⟨"FollowedPeaksModel", "becomes", "(II)I"⟩, 23) := ⟨⟨by decide +kernel, by decide +kernel⟩, List.mem_of_getElem? (i := 625) (by decide +kernel), List.mem_of_getElem? (i := 763) (by decide +kernel), List.mem_of_getElem? (i := 764) (by decide +kernel)⟩
theorem lw_p34 : lw_okq (⟨"FollowedPeaksModel", "levelAt", "(II)I"⟩, 23) := ⟨⟨by decide +kernel, by decide +kernel⟩, List.mem_of_getElem? (i := 625) (by decide +kernel), List.mem_of_getElem? (i := 779) (by decide +kernel), List.mem_of_getElem? (i := 780) (by decide +kernel)⟩
theorem lw_p35 : lw_okq (⟨"FollowedPeaksModel", "lays", "()V"⟩, 23) := ⟨⟨by decide +kernel, by decide +kernel⟩, List.mem_of_getElem? (i := 625) (by decide +kernel), List.mem_of_getElem? (i := 788) (by decide +kernel), List.mem_of_getElem? (i := 789) (by decide +kernel)⟩
theorem lw_p36 : lw_okq (⟨"FollowedPeaksModel", "laysTracks", "(I)V"⟩, 23) := ⟨⟨by decide +kernel, by decide +kernel⟩, List.mem_of_getElem? (i := 625) (by decide +kernel), List.mem_of_getElem? (i := 792) (by decide +kernel), List.mem_of_getElem? (i := 793) (by decide +kernel)⟩
theorem lw_p37 : lw_okq (⟨"FollowedPeaksModel", "laysPeaks", "()V"⟩, 23) := ⟨⟨by decide +kernel, by decide +kernel⟩, List.mem_of_getElem? (i := 625) (by decide +kernel), List.mem_of_getElem? (i := 796) (by decide +kernel), List.mem_of_getElem? (i := 797) (by decide +kernel)⟩
theorem lw_p38 : lw_okq (⟨"FollowedPeaksModel", "joins", "(II)V"⟩, 23) := ⟨⟨by decide +kernel, by decide +kernel⟩, List.mem_of_getElem? (i := 625) (by decide +kernel), List.mem_of_getElem? (i := 800) (by decide +kernel), List.mem_of_getElem? (i := 801) (by decide +kernel)⟩
theorem lw_p39 : lw_okq (⟨"FollowedPeaksModel", "laysWorth", "(II)V"⟩, 23) := ⟨⟨by decide +kernel, by decide +kernel⟩, List.mem_of_getElem? (i := 625) (by decide +kernel), List.mem_of_getElem? (i := 804) (by decide +kernel), List.mem_of_getElem? (i := 805) (by decide +kernel)⟩
theorem lw_p40 : lw_okq (⟨"FollowedPeaksModel", "pairWorth", "(IIII)I"⟩, 23) := ⟨⟨by decide +kernel, by decide +kernel⟩, List.mem_of_getElem? (i := 625) (by decide +kernel), List.mem_of_getElem? (i := 808) (by decide +kernel), List.mem_of_getElem? (i := 809) (by decide +kernel)⟩
theorem lw_p41 : lw_okq (⟨"FollowedPeaksModel", "apart", "(III)I"⟩, 23) := ⟨⟨by decide +kernel, by decide +kernel⟩, List.mem_of_getElem? (i := 625) (by decide +kernel), List.mem_of_getElem? (i := 812) (by decide +kernel), List.mem_of_getElem? (i := 813) (by decide +kernel)⟩
theorem lw_p42 : lw_okq (⟨"FollowedPeaksModel", "pitchOf", "(II)I"⟩, 23) := ⟨⟨by decide +kernel, by decide +kernel⟩, List.mem_of_getElem? (i := 625) (by decide +kernel), List.mem_of_getElem? (i := 816) (by decide +kernel), List.mem_of_getElem? (i := 817) (by decide +kernel)⟩
theorem lw_p43 : lw_okq (⟨"FollowedPeaksModel", "worthOf", "(II)I"⟩, 23) := ⟨⟨by decide +kernel, by decide +kernel⟩, List.mem_of_getElem? (i := 625) (by decide +kernel), List.mem_of_getElem? (i := 820) (by decide +kernel), List.mem_of_getElem? (i := 821) (by decide +kernel)⟩
theorem lw_p44 : lw_okq (⟨"FollowedPeaksModel", "follows", "(II)V"⟩, 23) := ⟨⟨by decide +kernel, by decide +kernel⟩, List.mem_of_getElem? (i := 625) (by decide +kernel), List.mem_of_getElem? (i := 824) (by decide +kernel), List.mem_of_getElem? (i := 825) (by decide +kernel)⟩
theorem lw_p45 : lw_okq (⟨"FollowedPeaksModel", "loudOf", "(II)I"⟩, 23) := ⟨⟨by decide +kernel, by decide +kernel⟩, List.mem_of_getElem? (i := 625) (by decide +kernel), List.mem_of_getElem? (i := 828) (by decide +kernel), List.mem_of_getElem? (i := 829) (by decide +kernel)⟩
theorem lw_p46 : lw_okq (⟨"FollowedPeaksModel", "sumOf", "(IZ)I"⟩, 23) := ⟨⟨by decide +kernel, by decide +kernel⟩, List.mem_of_getElem? (i := 625) (by decide +kernel), List.mem_of_getElem? (i := 836) (by decide +kernel), List.mem_of_getElem? (i := 837) (by decide +kernel)⟩
theorem lw_p47 : lw_okq (⟨"FollowedPeaksModel", "longOf", "(I)I"⟩, 23) := ⟨⟨by decide +kernel, by decide +kernel⟩, List.mem_of_getElem? (i := 625) (by decide +kernel), List.mem_of_getElem? (i := 840) (by decide +kernel), List.mem_of_getElem? (i := 841) (by decide +kernel)⟩
def lw_privs_3 : List (MethodName × Nat) := [(⟨"FollowedPeaksModel", "isPlace", "(II)Z"⟩, 23), (⟨"FollowedPeaksModel", "becomes", "(II)I"⟩, 23), (⟨"FollowedPeaksModel", "levelAt", "(II)I"⟩, 23), (⟨"FollowedPeaksModel", "lays", "()V"⟩, 23), (⟨"FollowedPeaksModel", "laysTracks", "(I)V"⟩, 23), (⟨"FollowedPeaksModel", "laysPeaks", "()V"⟩, 23), (⟨"FollowedPeaksModel", "joins", "(II)V"⟩, 23), (⟨"FollowedPeaksModel", "laysWorth", "(II)V"⟩, 23), (⟨"FollowedPeaksModel", "pairWorth", "(IIII)I"⟩, 23), (⟨"FollowedPeaksModel", "apart", "(III)I"⟩, 23), (⟨"FollowedPeaksModel", "pitchOf", "(II)I"⟩, 23), (⟨"FollowedPeaksModel", "worthOf", "(II)I"⟩, 23), (⟨"FollowedPeaksModel", "follows", "(II)V"⟩, 23), (⟨"FollowedPeaksModel", "loudOf", "(II)I"⟩, 23), (⟨"FollowedPeaksModel", "sumOf", "(IZ)I"⟩, 23), (⟨"FollowedPeaksModel", "longOf", "(I)I"⟩, 23)]
theorem lw_r3 : ∀ q ∈ lw_privs_3, lw_okq q := List.forall_mem_cons.mpr ⟨lw_p32, List.forall_mem_cons.mpr ⟨lw_p33, List.forall_mem_cons.mpr ⟨lw_p34, List.forall_mem_cons.mpr ⟨lw_p35, List.forall_mem_cons.mpr ⟨lw_p36, List.forall_mem_cons.mpr ⟨lw_p37, List.forall_mem_cons.mpr ⟨lw_p38, List.forall_mem_cons.mpr ⟨lw_p39, List.forall_mem_cons.mpr ⟨lw_p40, List.forall_mem_cons.mpr ⟨lw_p41, List.forall_mem_cons.mpr ⟨lw_p42, List.forall_mem_cons.mpr ⟨lw_p43, List.forall_mem_cons.mpr ⟨lw_p44, List.forall_mem_cons.mpr ⟨lw_p45, List.forall_mem_cons.mpr ⟨lw_p46, List.forall_mem_cons.mpr ⟨lw_p47, fun _ h => absurd h List.not_mem_nil⟩⟩⟩⟩⟩⟩⟩⟩⟩⟩⟩⟩⟩⟩⟩⟩
theorem lw_p48 : lw_okq (⟨"FollowedPeaksModel", "peakOf", "(II)I"⟩, 23) := ⟨⟨by decide +kernel, by decide +kernel⟩, List.mem_of_getElem? (i := 625) (by decide +kernel), List.mem_of_getElem? (i := 844) (by decide +kernel), List.mem_of_getElem? (i := 845) (by decide +kernel)⟩
theorem lw_p49 : lw_okq (⟨"FollowedPeaksModel", "bornIn", "(IZ)I"⟩, 23) := ⟨⟨by decide +kernel, by decide +kernel⟩, List.mem_of_getElem? (i := 625) (by decide +kernel), List.mem_of_getElem? (i := 848) (by decide +kernel), List.mem_of_getElem? (i := 849) (by decide +kernel)⟩
theorem lw_p50 : lw_okq (⟨"FollowedPeaksModel", "bornOf", "(I)I"⟩, 23) := ⟨⟨by decide +kernel, by decide +kernel⟩, List.mem_of_getElem? (i := 625) (by decide +kernel), List.mem_of_getElem? (i := 852) (by decide +kernel), List.mem_of_getElem? (i := 853) (by decide +kernel)⟩
theorem lw_p51 : lw_okq (⟨"FollowedPeaksModel", "depthOf", "(I)I"⟩, 23) := ⟨⟨by decide +kernel, by decide +kernel⟩, List.mem_of_getElem? (i := 625) (by decide +kernel), List.mem_of_getElem? (i := 860) (by decide +kernel), List.mem_of_getElem? (i := 861) (by decide +kernel)⟩
theorem lw_p52 : lw_okq (⟨"FollowedPeaksModel", "turnsOf", "(I)I"⟩, 23) := ⟨⟨by decide +kernel, by decide +kernel⟩, List.mem_of_getElem? (i := 625) (by decide +kernel), List.mem_of_getElem? (i := 864) (by decide +kernel), List.mem_of_getElem? (i := 865) (by decide +kernel)⟩
theorem lw_p53 : lw_okq (⟨"FollowedPeaksModel", "laysSteps", "(I)V"⟩, 23) := ⟨⟨by decide +kernel, by decide +kernel⟩, List.mem_of_getElem? (i := 625) (by decide +kernel), List.mem_of_getElem? (i := 868) (by decide +kernel), List.mem_of_getElem? (i := 869) (by decide +kernel)⟩
theorem lw_p54 : lw_okq (⟨"FollowedPeaksModel", "kindOf", "(I)I"⟩, 23) := ⟨⟨by decide +kernel, by decide +kernel⟩, List.mem_of_getElem? (i := 625) (by decide +kernel), List.mem_of_getElem? (i := 872) (by decide +kernel), List.mem_of_getElem? (i := 873) (by decide +kernel)⟩
theorem lw_p55 : lw_okq (⟨"FollowedPeaksModel", "worthOfTrack", "(I)I"⟩, 23) := ⟨⟨by decide +kernel, by decide +kernel⟩, List.mem_of_getElem? (i := 625) (by decide +kernel), List.mem_of_getElem? (i := 876) (by decide +kernel), List.mem_of_getElem? (i := 877) (by decide +kernel)⟩
theorem lw_p56 : lw_okq (⟨"FollowedPeaksModel", "pitchIn", "(II)I"⟩, 23) := ⟨⟨by decide +kernel, by decide +kernel⟩, List.mem_of_getElem? (i := 625) (by decide +kernel), List.mem_of_getElem? (i := 884) (by decide +kernel), List.mem_of_getElem? (i := 885) (by decide +kernel)⟩
theorem lw_p57 : lw_okq (⟨"FollowedPeaksModel", "isSo", "(I)Z"⟩, 23) := ⟨⟨by decide +kernel, by decide +kernel⟩, List.mem_of_getElem? (i := 625) (by decide +kernel), List.mem_of_getElem? (i := 904) (by decide +kernel), List.mem_of_getElem? (i := 905) (by decide +kernel)⟩
theorem lw_p58 : lw_okq (⟨"FollowedPeaksModel", "mostAlike", "(I)I"⟩, 23) := ⟨⟨by decide +kernel, by decide +kernel⟩, List.mem_of_getElem? (i := 625) (by decide +kernel), List.mem_of_getElem? (i := 912) (by decide +kernel), List.mem_of_getElem? (i := 913) (by decide +kernel)⟩
theorem lw_p59 : lw_okq (⟨"FollowedPeaksModel", "tracksNow", "()I"⟩, 23) := ⟨⟨by decide +kernel, by decide +kernel⟩, List.mem_of_getElem? (i := 625) (by decide +kernel), List.mem_of_getElem? (i := 928) (by decide +kernel), List.mem_of_getElem? (i := 929) (by decide +kernel)⟩
theorem lw_p60 : lw_okq (⟨"FollowedPeaksModel", "keptMany", "()I"⟩, 23) := ⟨⟨by decide +kernel, by decide +kernel⟩, List.mem_of_getElem? (i := 625) (by decide +kernel), List.mem_of_getElem? (i := 932) (by decide +kernel), List.mem_of_getElem? (i := 933) (by decide +kernel)⟩
theorem lw_p61 : lw_okq (⟨"FollowedPeaksModel", "longest", "()I"⟩, 23) := ⟨⟨by decide +kernel, by decide +kernel⟩, List.mem_of_getElem? (i := 625) (by decide +kernel), List.mem_of_getElem? (i := 936) (by decide +kernel), List.mem_of_getElem? (i := 937) (by decide +kernel)⟩
def lw_privs_4 : List (MethodName × Nat) := [(⟨"FollowedPeaksModel", "peakOf", "(II)I"⟩, 23), (⟨"FollowedPeaksModel", "bornIn", "(IZ)I"⟩, 23), (⟨"FollowedPeaksModel", "bornOf", "(I)I"⟩, 23), (⟨"FollowedPeaksModel", "depthOf", "(I)I"⟩, 23), (⟨"FollowedPeaksModel", "turnsOf", "(I)I"⟩, 23), (⟨"FollowedPeaksModel", "laysSteps", "(I)V"⟩, 23), (⟨"FollowedPeaksModel", "kindOf", "(I)I"⟩, 23), (⟨"FollowedPeaksModel", "worthOfTrack", "(I)I"⟩, 23), (⟨"FollowedPeaksModel", "pitchIn", "(II)I"⟩, 23), (⟨"FollowedPeaksModel", "isSo", "(I)Z"⟩, 23), (⟨"FollowedPeaksModel", "mostAlike", "(I)I"⟩, 23), (⟨"FollowedPeaksModel", "tracksNow", "()I"⟩, 23), (⟨"FollowedPeaksModel", "keptMany", "()I"⟩, 23), (⟨"FollowedPeaksModel", "longest", "()I"⟩, 23)]
theorem lw_r4 : ∀ q ∈ lw_privs_4, lw_okq q := List.forall_mem_cons.mpr ⟨lw_p48, List.forall_mem_cons.mpr ⟨lw_p49, List.forall_mem_cons.mpr ⟨lw_p50, List.forall_mem_cons.mpr ⟨lw_p51, List.forall_mem_cons.mpr ⟨lw_p52, List.forall_mem_cons.mpr ⟨lw_p53, List.forall_mem_cons.mpr ⟨lw_p54, List.forall_mem_cons.mpr ⟨lw_p55, List.forall_mem_cons.mpr ⟨lw_p56, List.forall_mem_cons.mpr ⟨lw_p57, List.forall_mem_cons.mpr ⟨lw_p58, List.forall_mem_cons.mpr ⟨lw_p59, List.forall_mem_cons.mpr ⟨lw_p60, List.forall_mem_cons.mpr ⟨lw_p61, fun _ h => absurd h List.not_mem_nil⟩⟩⟩⟩⟩⟩⟩⟩⟩⟩⟩⟩⟩⟩
def lw_privs : List (MethodName × Nat) := lw_privs_1 ++ (lw_privs_2 ++ (lw_privs_3 ++ (lw_privs_4)))
def lw_tbl : List Cond := k2_sels lw_privs ++ tables_1
theorem lw_privs_ok : ∀ q ∈ lw_privs, lw_okq q := by
  show ∀ q ∈ lw_privs_1 ++ (lw_privs_2 ++ (lw_privs_3 ++ (lw_privs_4))), lw_okq q
  exact List.forall_mem_append.mpr ⟨lw_r1, List.forall_mem_append.mpr ⟨lw_r2, List.forall_mem_append.mpr ⟨lw_r3, lw_r4⟩⟩⟩
def RX0 : String := "FollowedPeaks$History"
def TX0 : u_T := fun k => match k with
  | 0 => ("FollowedPeaks$History", "known", "I", false)
  | _ => ("FollowedPeaks$History", "past", "[LFollowedPeaks$Scene;", true)
def tyX0 : Nat → FieldType := fun k => match k with
  | 0 => .int
  | _ => .array (.object "FollowedPeaks$Scene")
abbrev wsX00 : List Cond := u_ws RX0 TX0 2
theorem nmX0 : ∀ a, a < 2 → ∀ b, b < 2 → a ≠ b → (TX0 a).2.1 ≠ (TX0 b).2.1 := by decide +kernel
theorem tyX0_ok : ∀ k, k < 2 → parseFieldDescriptor (TX0 k).2.2.1 = some (tyX0 k) := by decide +kernel
abbrev cX0_init : ByteArray := prog_2_method_1_code
def yX0_init : MethodName := ⟨RX0, "<init>", "()V"⟩
abbrev cX0_remember : ByteArray := prog_2_method_2_code
def yX0_remember : MethodName := ⟨RX0, "remember", "(LFollowedPeaks$Scene;)V"⟩
abbrev cX0_giveLatest : ByteArray := prog_2_method_3_code
def yX0_giveLatest : MethodName := ⟨RX0, "giveLatest", "(LFollowedPeaks$Scene;)V"⟩
abbrev cX0_loseOldest : ByteArray := prog_2_method_4_code
def yX0_loseOldest : MethodName := ⟨RX0, "loseOldest", "()V"⟩
def RX1 : String := "FollowedPeaks$Joiner"
def TX1 : u_T := fun k => match k with
  | 0 => ("FollowedPeaks$Joiner", "mates", "[I", true)
  | 1 => ("FollowedPeaks$Joiner", "firstPitches", "[I", true)
  | 2 => ("FollowedPeaks$Joiner", "secondPitches", "[I", true)
  | 3 => ("FollowedPeaks$Joiner", "scores", "[I", true)
  | 4 => ("FollowedPeaks$Joiner", "first", "I", false)
  | 5 => ("FollowedPeaks$Joiner", "second", "I", false)
  | _ => ("FollowedPeaks$Joiner", "reach", "I", false)
def tyX1 : Nat → FieldType := fun k => match k with
  | 0 => .array .int
  | 1 => .array .int
  | 2 => .array .int
  | 3 => .array .int
  | 4 => .int
  | 5 => .int
  | _ => .int
abbrev wsX10 : List Cond := u_ws RX1 TX1 7
theorem nmX1 : ∀ a, a < 7 → ∀ b, b < 7 → a ≠ b → (TX1 a).2.1 ≠ (TX1 b).2.1 := by decide +kernel
theorem tyX1_ok : ∀ k, k < 7 → parseFieldDescriptor (TX1 k).2.2.1 = some (tyX1 k) := by decide +kernel
abbrev cX1_init : ByteArray := prog_3_method_1_code
def yX1_init : MethodName := ⟨RX1, "<init>", "()V"⟩
abbrev cX1_join : ByteArray := prog_3_method_2_code
def yX1_join : MethodName := ⟨RX1, "join", "(LFollowedPeaks$Peaks;II)I"⟩
abbrev cX1_copyPitches : ByteArray := prog_3_method_3_code
def yX1_copyPitches : MethodName := ⟨RX1, "copyPitches", "(LFollowedPeaks$Peaks;I[I)I"⟩
abbrev cX1_scoreAll : ByteArray := prog_3_method_4_code
def yX1_scoreAll : MethodName := ⟨RX1, "scoreAll", "()V"⟩
abbrev cX1_pairedScore : ByteArray := prog_3_method_5_code
def yX1_pairedScore : MethodName := ⟨RX1, "pairedScore", "(II)I"⟩
abbrev cX1_chooseMates : ByteArray := prog_3_method_6_code
def yX1_chooseMates : MethodName := ⟨RX1, "chooseMates", "()I"⟩
abbrev cX1_lowestMate : ByteArray := prog_3_method_7_code
def yX1_lowestMate : MethodName := ⟨RX1, "lowestMate", "(II)I"⟩
def RX2 : String := "FollowedPeaks$Peaks"
def TX2 : u_T := fun k => match k with
  | 0 => ("FollowedPeaks$Peaks", "many", "[I", true)
  | 1 => ("FollowedPeaks$Peaks", "places", "[I", true)
  | 2 => ("FollowedPeaks$Peaks", "pitches", "[I", true)
  | _ => ("FollowedPeaks$Peaks", "louds", "[I", true)
def tyX2 : Nat → FieldType := fun k => match k with
  | 0 => .array .int
  | 1 => .array .int
  | 2 => .array .int
  | _ => .array .int
abbrev wsX20 : List Cond := u_ws RX2 TX2 4
theorem nmX2 : ∀ a, a < 4 → ∀ b, b < 4 → a ≠ b → (TX2 a).2.1 ≠ (TX2 b).2.1 := by decide +kernel
theorem tyX2_ok : ∀ k, k < 4 → parseFieldDescriptor (TX2 k).2.2.1 = some (tyX2 k) := by decide +kernel
abbrev cX2_init : ByteArray := prog_4_method_1_code
def yX2_init : MethodName := ⟨RX2, "<init>", "()V"⟩
abbrev cX2_find : ByteArray := prog_4_method_2_code
def yX2_find : MethodName := ⟨RX2, "find", "(LFollowedPeaks$Scene;)V"⟩
abbrev cX2_lookAt : ByteArray := prog_4_method_3_code
def yX2_lookAt : MethodName := ⟨RX2, "lookAt", "(LFollowedPeaks$Scene;II)V"⟩
def RX3 : String := "FollowedPeaks$Scene"
def TX3 : u_T := fun k => match k with
  | 0 => ("FollowedPeaks$Scene", "frames", "I", false)
  | 1 => ("FollowedPeaks$Scene", "places", "I", false)
  | 2 => ("FollowedPeaks$Scene", "settings", "[I", true)
  | _ => ("FollowedPeaks$Scene", "levels", "[I", true)
def tyX3 : Nat → FieldType := fun k => match k with
  | 0 => .int
  | 1 => .int
  | 2 => .array .int
  | _ => .array .int
abbrev wsX30 : List Cond := u_ws RX3 TX3 4
theorem nmX3 : ∀ a, a < 4 → ∀ b, b < 4 → a ≠ b → (TX3 a).2.1 ≠ (TX3 b).2.1 := by decide +kernel
theorem tyX3_ok : ∀ k, k < 4 → parseFieldDescriptor (TX3 k).2.2.1 = some (tyX3 k) := by decide +kernel
abbrev cX3_init : ByteArray := prog_5_method_1_code
def yX3_init : MethodName := ⟨RX3, "<init>", "()V"⟩
abbrev cX3_makeFirst : ByteArray := prog_5_method_2_code
def yX3_makeFirst : MethodName := ⟨RX3, "makeFirst", "()V"⟩
abbrev cX3_makeEmpty : ByteArray := prog_5_method_3_code
def yX3_makeEmpty : MethodName := ⟨RX3, "makeEmpty", "()V"⟩
abbrev cX3_takeFrom : ByteArray := prog_5_method_4_code
def yX3_takeFrom : MethodName := ⟨RX3, "takeFrom", "(LFollowedPeaks$Scene;)V"⟩
abbrev cX3_hasFrame : ByteArray := prog_5_method_5_code
def yX3_hasFrame : MethodName := ⟨RX3, "hasFrame", "(I)Z"⟩
abbrev cX3_hasPlace : ByteArray := prog_5_method_6_code
def yX3_hasPlace : MethodName := ⟨RX3, "hasPlace", "(II)Z"⟩
abbrev cX3_levelAt : ByteArray := prog_5_method_7_code
def yX3_levelAt : MethodName := ⟨RX3, "levelAt", "(II)I"⟩
abbrev cX3_putLevel : ByteArray := prog_5_method_8_code
def yX3_putLevel : MethodName := ⟨RX3, "putLevel", "(III)V"⟩
def RX4 : String := "FollowedPeaks$Seen"
def TX4 : u_T := fun k => match k with
  | 0 => ("FollowedPeaks$Seen", "many", "I", false)
  | 1 => ("FollowedPeaks$Seen", "frames", "[I", true)
  | 2 => ("FollowedPeaks$Seen", "pitches", "[I", true)
  | 3 => ("FollowedPeaks$Seen", "possible", "I", false)
  | 4 => ("FollowedPeaks$Seen", "candidates", "[I", true)
  | _ => ("FollowedPeaks$Seen", "tallies", "[I", true)
def tyX4 : Nat → FieldType := fun k => match k with
  | 0 => .int
  | 1 => .array .int
  | 2 => .array .int
  | 3 => .int
  | 4 => .array .int
  | _ => .array .int
abbrev wsX40 : List Cond := u_ws RX4 TX4 6
theorem nmX4 : ∀ a, a < 6 → ∀ b, b < 6 → a ≠ b → (TX4 a).2.1 ≠ (TX4 b).2.1 := by decide +kernel
theorem tyX4_ok : ∀ k, k < 6 → parseFieldDescriptor (TX4 k).2.2.1 = some (tyX4 k) := by decide +kernel
abbrev cX4_init : ByteArray := prog_6_method_1_code
def yX4_init : MethodName := ⟨RX4, "<init>", "()V"⟩
abbrev cX4_append : ByteArray := prog_6_method_2_code
def yX4_append : MethodName := ⟨RX4, "append", "(II)V"⟩
abbrev cX4_gather : ByteArray := prog_6_method_3_code
def yX4_gather : MethodName := ⟨RX4, "gather", "(LFollowedPeaks$Tracks;)V"⟩
abbrev cX4_fits : ByteArray := prog_6_method_4_code
def yX4_fits : MethodName := ⟨RX4, "fits", "(LFollowedPeaks$Tracks;I)Z"⟩
abbrev cX4_mostAlike : ByteArray := prog_6_method_5_code
def yX4_mostAlike : MethodName := ⟨RX4, "mostAlike", "(LFollowedPeaks$Tracks;I)I"⟩
def RX5 : String := "FollowedPeaks$Text"
def TX5 : u_T := fun k => match k with
  | 0 => ("FollowedPeaks$Text", "length", "I", false)
  | 1 => ("FollowedPeaks$Text", "letters", "[C", true)
  | 2 => ("FollowedPeaks$Text", "kind", "I", false)
  | 3 => ("FollowedPeaks$Text", "start", "I", false)
  | _ => ("FollowedPeaks$Text", "end", "I", false)
def tyX5 : Nat → FieldType := fun k => match k with
  | 0 => .int
  | 1 => .array .char
  | 2 => .int
  | 3 => .int
  | _ => .int
abbrev wsX50 : List Cond := u_ws RX5 TX5 5
theorem nmX5 : ∀ a, a < 5 → ∀ b, b < 5 → a ≠ b → (TX5 a).2.1 ≠ (TX5 b).2.1 := by decide +kernel
theorem tyX5_ok : ∀ k, k < 5 → parseFieldDescriptor (TX5 k).2.2.1 = some (tyX5 k) := by decide +kernel
abbrev cX5_init : ByteArray := prog_7_method_1_code
def yX5_init : MethodName := ⟨RX5, "<init>", "()V"⟩
abbrev cX5_append : ByteArray := prog_7_method_2_code
def yX5_append : MethodName := ⟨RX5, "append", "(C)V"⟩
abbrev cX5_readAll : ByteArray := prog_7_method_3_code
def yX5_readAll : MethodName := ⟨RX5, "readAll", "(LFollowedPeaks$Scene;)I"⟩
abbrev cX5_readItem : ByteArray := prog_7_method_4_code
def yX5_readItem : MethodName := ⟨RX5, "readItem", "(LFollowedPeaks$Scene;)Z"⟩
abbrev cX5_readFrame : ByteArray := prog_7_method_5_code
def yX5_readFrame : MethodName := ⟨RX5, "readFrame", "(LFollowedPeaks$Scene;)Z"⟩
abbrev cX5_readSetting : ByteArray := prog_7_method_6_code
def yX5_readSetting : MethodName := ⟨RX5, "readSetting", "(LFollowedPeaks$Scene;I)Z"⟩
abbrev cX5_namedSetting : ByteArray := prog_7_method_7_code
def yX5_namedSetting : MethodName := ⟨RX5, "namedSetting", "()I"⟩
abbrev cX5_nextToken : ByteArray := prog_7_method_8_code
def yX5_nextToken : MethodName := ⟨RX5, "nextToken", "()V"⟩
abbrev cX5_kindAt : ByteArray := prog_7_method_9_code
def yX5_kindAt : MethodName := ⟨RX5, "kindAt", "(I)I"⟩
abbrev cX5_figureAt : ByteArray := prog_7_method_10_code
def yX5_figureAt : MethodName := ⟨RX5, "figureAt", "(I)I"⟩
abbrev cX5_isWord : ByteArray := prog_7_method_11_code
def yX5_isWord : MethodName := ⟨RX5, "isWord", "(Ljava/lang/String;)Z"⟩
def RX6 : String := "FollowedPeaks$Tracks"
def TX6 : u_T := fun k => match k with
  | 0 => ("FollowedPeaks$Tracks", "many", "I", false)
  | 1 => ("FollowedPeaks$Tracks", "born", "[I", true)
  | 2 => ("FollowedPeaks$Tracks", "lengths", "[I", true)
  | 3 => ("FollowedPeaks$Tracks", "depths", "[I", true)
  | 4 => ("FollowedPeaks$Tracks", "turns", "[I", true)
  | 5 => ("FollowedPeaks$Tracks", "kinds", "[I", true)
  | 6 => ("FollowedPeaks$Tracks", "louds", "[I", true)
  | 7 => ("FollowedPeaks$Tracks", "pitches", "[I", true)
  | 8 => ("FollowedPeaks$Tracks", "ofPeak", "[I", true)
  | _ => ("FollowedPeaks$Tracks", "nextPeak", "[I", true)
def tyX6 : Nat → FieldType := fun k => match k with
  | 0 => .int
  | 1 => .array .int
  | 2 => .array .int
  | 3 => .array .int
  | 4 => .array .int
  | 5 => .array .int
  | 6 => .array .int
  | 7 => .array .int
  | 8 => .array .int
  | _ => .array .int
abbrev wsX60 : List Cond := u_ws RX6 TX6 10
theorem nmX6 : ∀ a, a < 10 → ∀ b, b < 10 → a ≠ b → (TX6 a).2.1 ≠ (TX6 b).2.1 := by decide +kernel
theorem tyX6_ok : ∀ k, k < 10 → parseFieldDescriptor (TX6 k).2.2.1 = some (tyX6 k) := by decide +kernel
abbrev cX6_init : ByteArray := prog_8_method_1_code
def yX6_init : MethodName := ⟨RX6, "<init>", "()V"⟩
abbrev cX6_follow : ByteArray := prog_8_method_2_code
def yX6_follow : MethodName := ⟨RX6, "follow", "(LFollowedPeaks$Peaks;LFollowedPeaks$Joiner;I)V"⟩
abbrev cX6_begin : ByteArray := prog_8_method_3_code
def yX6_begin : MethodName := ⟨RX6, "begin", "(II)V"⟩
abbrev cX6_addPeak : ByteArray := prog_8_method_4_code
def yX6_addPeak : MethodName := ⟨RX6, "addPeak", "(LFollowedPeaks$Peaks;II)V"⟩
abbrev cX6_measure : ByteArray := prog_8_method_5_code
def yX6_measure : MethodName := ⟨RX6, "measure", "(I)V"⟩
abbrev cX6_kindBy : ByteArray := prog_8_method_6_code
def yX6_kindBy : MethodName := ⟨RX6, "kindBy", "(III)I"⟩
abbrev cX6_worthOf : ByteArray := prog_8_method_7_code
def yX6_worthOf : MethodName := ⟨RX6, "worthOf", "(I)I"⟩
abbrev cX6_pitchIn : ByteArray := prog_8_method_8_code
def yX6_pitchIn : MethodName := ⟨RX6, "pitchIn", "(II)I"⟩
abbrev cX6_bornIn : ByteArray := prog_8_method_9_code
def yX6_bornIn : MethodName := ⟨RX6, "bornIn", "(I)I"⟩
abbrev cX6_endingIn : ByteArray := prog_8_method_10_code
def yX6_endingIn : MethodName := ⟨RX6, "endingIn", "(I)I"⟩
abbrev cX6_longest : ByteArray := prog_8_method_11_code
def yX6_longest : MethodName := ⟨RX6, "longest", "()I"⟩
def RX7 : String := "FollowedPeaks"
def TX7 : u_T := fun k => match k with
  | 0 => ("FollowedPeaks", "scene", "LFollowedPeaks$Scene;", true)
  | 1 => ("FollowedPeaks", "draft", "LFollowedPeaks$Scene;", true)
  | 2 => ("FollowedPeaks", "text", "LFollowedPeaks$Text;", true)
  | 3 => ("FollowedPeaks", "history", "LFollowedPeaks$History;", true)
  | 4 => ("FollowedPeaks", "images", "[LFollowedPeaks$Scene;", true)
  | 5 => ("FollowedPeaks", "imageKept", "[Z", true)
  | 6 => ("FollowedPeaks", "peaks", "LFollowedPeaks$Peaks;", true)
  | 7 => ("FollowedPeaks", "joiner", "LFollowedPeaks$Joiner;", true)
  | 8 => ("FollowedPeaks", "tracks", "LFollowedPeaks$Tracks;", true)
  | 9 => ("FollowedPeaks", "seen", "LFollowedPeaks$Seen;", true)
  | 10 => ("FollowedPeaks", "bestReach", "I", false)
  | _ => ("FollowedPeaks", "fewestTracks", "I", false)
def tyX7 : Nat → FieldType := fun k => match k with
  | 0 => .object "FollowedPeaks$Scene"
  | 1 => .object "FollowedPeaks$Scene"
  | 2 => .object "FollowedPeaks$Text"
  | 3 => .object "FollowedPeaks$History"
  | 4 => .array (.object "FollowedPeaks$Scene")
  | 5 => .array .boolean
  | 6 => .object "FollowedPeaks$Peaks"
  | 7 => .object "FollowedPeaks$Joiner"
  | 8 => .object "FollowedPeaks$Tracks"
  | 9 => .object "FollowedPeaks$Seen"
  | 10 => .int
  | _ => .int
abbrev wsX70 : List Cond := u_ws RX7 TX7 12
theorem nmX7 : ∀ a, a < 12 → ∀ b, b < 12 → a ≠ b → (TX7 a).2.1 ≠ (TX7 b).2.1 := by decide +kernel
theorem tyX7_ok : ∀ k, k < 12 → parseFieldDescriptor (TX7 k).2.2.1 = some (tyX7 k) := by decide +kernel
abbrev cX7_init : ByteArray := prog_1_method_1_code
def yX7_init : MethodName := ⟨RX7, "<init>", "()V"⟩
abbrev cX7_type : ByteArray := prog_1_method_2_code
def yX7_type : MethodName := ⟨RX7, "type", "(I)I"⟩
abbrev cX7_clear : ByteArray := prog_1_method_3_code
def yX7_clear : MethodName := ⟨RX7, "clear", "()I"⟩
abbrev cX7_tells : ByteArray := prog_1_method_4_code
def yX7_tells : MethodName := ⟨RX7, "tells", "()I"⟩
abbrev cX7_levels : ByteArray := prog_1_method_5_code
def yX7_levels : MethodName := ⟨RX7, "levels", "(III)I"⟩
abbrev cX7_sets : ByteArray := prog_1_method_6_code
def yX7_sets : MethodName := ⟨RX7, "sets", "(II)I"⟩
abbrev cX7_undo : ByteArray := prog_1_method_7_code
def yX7_undo : MethodName := ⟨RX7, "undo", "()I"⟩
abbrev cX7_level : ByteArray := prog_1_method_8_code
def yX7_level : MethodName := ⟨RX7, "level", "(II)I"⟩
abbrev cX7_peak : ByteArray := prog_1_method_9_code
def yX7_peak : MethodName := ⟨RX7, "peak", "(III)I"⟩
abbrev cX7_frame : ByteArray := prog_1_method_10_code
def yX7_frame : MethodName := ⟨RX7, "frame", "(II)I"⟩
abbrev cX7_track : ByteArray := prog_1_method_11_code
def yX7_track : MethodName := ⟨RX7, "track", "(II)I"⟩
abbrev cX7_pitch : ByteArray := prog_1_method_12_code
def yX7_pitch : MethodName := ⟨RX7, "pitch", "(II)I"⟩
abbrev cX7_best : ByteArray := prog_1_method_13_code
def yX7_best : MethodName := ⟨RX7, "best", "(I)I"⟩
abbrev cX7_sees : ByteArray := prog_1_method_14_code
def yX7_sees : MethodName := ⟨RX7, "sees", "(II)I"⟩
abbrev cX7_forget : ByteArray := prog_1_method_15_code
def yX7_forget : MethodName := ⟨RX7, "forget", "()I"⟩
abbrev cX7_which : ByteArray := prog_1_method_16_code
def yX7_which : MethodName := ⟨RX7, "which", "(I)I"⟩
abbrev cX7_listen : ByteArray := prog_1_method_17_code
def yX7_listen : MethodName := ⟨RX7, "listen", "()I"⟩
abbrev cX7_keep : ByteArray := prog_1_method_18_code
def yX7_keep : MethodName := ⟨RX7, "keep", "(I)I"⟩
abbrev cX7_back : ByteArray := prog_1_method_19_code
def yX7_back : MethodName := ⟨RX7, "back", "(I)I"⟩
abbrev cX7_count : ByteArray := prog_1_method_20_code
def yX7_count : MethodName := ⟨RX7, "count", "(I)I"⟩
abbrev cX7_followAnew : ByteArray := prog_1_method_21_code
def yX7_followAnew : MethodName := ⟨RX7, "followAnew", "()V"⟩
abbrev cX7_isSetting : ByteArray := prog_1_method_22_code
def yX7_isSetting : MethodName := ⟨RX7, "isSetting", "(II)Z"⟩
abbrev cX7_isKept : ByteArray := prog_1_method_23_code
def yX7_isKept : MethodName := ⟨RX7, "isKept", "(I)Z"⟩
abbrev cX7_keptTracks : ByteArray := prog_1_method_24_code
def yX7_keptTracks : MethodName := ⟨RX7, "keptTracks", "()I"⟩
abbrev cX7_loudTogether : ByteArray := prog_1_method_25_code
def yX7_loudTogether : MethodName := ⟨RX7, "loudTogether", "(IZ)I"⟩
abbrev cX7_tracksByReach : ByteArray := prog_1_method_26_code
def yX7_tracksByReach : MethodName := ⟨RX7, "tracksByReach", "(I)I"⟩
def RX8 : String := "FollowedPeaksModel"
def TX8 : u_T := fun k => match k with
  | 0 => ("FollowedPeaksModel", "thrown", "I", false)
  | 1 => ("FollowedPeaksModel", "s", "[I", true)
  | 2 => ("FollowedPeaksModel", "draft", "[I", true)
  | 3 => ("FollowedPeaksModel", "past", "[I", true)
  | 4 => ("FollowedPeaksModel", "undos", "I", false)
  | 5 => ("FollowedPeaksModel", "kept", "[I", true)
  | 6 => ("FollowedPeaksModel", "isKept", "[Z", true)
  | 7 => ("FollowedPeaksModel", "facts", "[I", true)
  | 8 => ("FollowedPeaksModel", "manyFacts", "I", false)
  | 9 => ("FollowedPeaksModel", "text", "[B", true)
  | 10 => ("FollowedPeaksModel", "typed", "I", false)
  | 11 => ("FollowedPeaksModel", "from", "I", false)
  | 12 => ("FollowedPeaksModel", "to", "I", false)
  | 13 => ("FollowedPeaksModel", "token", "I", false)
  | 14 => ("FollowedPeaksModel", "fault", "I", false)
  | 15 => ("FollowedPeaksModel", "peaks", "[I", true)
  | 16 => ("FollowedPeaksModel", "placeOf", "[I", true)
  | 17 => ("FollowedPeaksModel", "partner", "[I", true)
  | 18 => ("FollowedPeaksModel", "trackOf", "[I", true)
  | 19 => ("FollowedPeaksModel", "tracks", "I", false)
  | 20 => ("FollowedPeaksModel", "worth", "[I", true)
  | 21 => ("FollowedPeaksModel", "stepsMany", "I", false)
  | _ => ("FollowedPeaksModel", "turnsMany", "I", false)
def tyX8 : Nat → FieldType := fun k => match k with
  | 0 => .int
  | 1 => .array .int
  | 2 => .array .int
  | 3 => .array .int
  | 4 => .int
  | 5 => .array .int
  | 6 => .array .boolean
  | 7 => .array .int
  | 8 => .int
  | 9 => .array .byte
  | 10 => .int
  | 11 => .int
  | 12 => .int
  | 13 => .int
  | 14 => .int
  | 15 => .array .int
  | 16 => .array .int
  | 17 => .array .int
  | 18 => .array .int
  | 19 => .int
  | 20 => .array .int
  | 21 => .int
  | _ => .int
abbrev wsX80 : List Cond := u_ws RX8 TX8 23
theorem nmX8 : ∀ a, a < 23 → ∀ b, b < 23 → a ≠ b → (TX8 a).2.1 ≠ (TX8 b).2.1 := by decide +kernel
theorem tyX8_ok : ∀ k, k < 23 → parseFieldDescriptor (TX8 k).2.2.1 = some (tyX8 k) := by decide +kernel
abbrev cX8_init : ByteArray := prog_10_method_1_code
def yX8_init : MethodName := ⟨RX8, "<init>", "()V"⟩
abbrev cX8_plain : ByteArray := prog_10_method_2_code
def yX8_plain : MethodName := ⟨RX8, "plain", "([I)V"⟩
abbrev cX8_in : ByteArray := prog_10_method_4_code
def yX8_in : MethodName := ⟨RX8, "in", "(III)Z"⟩
abbrev cX8_type : ByteArray := prog_10_method_5_code
def yX8_type : MethodName := ⟨RX8, "type", "(I)I"⟩
abbrev cX8_clear : ByteArray := prog_10_method_6_code
def yX8_clear : MethodName := ⟨RX8, "clear", "()I"⟩
abbrev cX8_at : ByteArray := prog_10_method_7_code
def yX8_at : MethodName := ⟨RX8, "at", "(I)I"⟩
abbrev cX8_isWord : ByteArray := prog_10_method_8_code
def yX8_isWord : MethodName := ⟨RX8, "isWord", "(IIIII)Z"⟩
abbrev cX8_wordOf : ByteArray := prog_10_method_9_code
def yX8_wordOf : MethodName := ⟨RX8, "wordOf", "()I"⟩
abbrev cX8_steps : ByteArray := prog_10_method_10_code
def yX8_steps : MethodName := ⟨RX8, "steps", "()V"⟩
abbrev cX8_takes : ByteArray := prog_10_method_11_code
def yX8_takes : MethodName := ⟨RX8, "takes", "(Z)V"⟩
abbrev cX8_readsFrame : ByteArray := prog_10_method_12_code
def yX8_readsFrame : MethodName := ⟨RX8, "readsFrame", "()V"⟩
abbrev cX8_readsNumber : ByteArray := prog_10_method_13_code
def yX8_readsNumber : MethodName := ⟨RX8, "readsNumber", "(III)V"⟩
abbrev cX8_reads : ByteArray := prog_10_method_14_code
def yX8_reads : MethodName := ⟨RX8, "reads", "()I"⟩
abbrev cX8_tells : ByteArray := prog_10_method_15_code
def yX8_tells : MethodName := ⟨RX8, "tells", "()I"⟩
abbrev cX8_notes : ByteArray := prog_10_method_16_code
def yX8_notes : MethodName := ⟨RX8, "notes", "()V"⟩
abbrev cX8_becomes : ByteArray := prog_10_method_17_code
def yX8_becomes : MethodName := ⟨RX8, "becomes", "(II)I"⟩
abbrev cX8_isPlace : ByteArray := prog_10_method_18_code
def yX8_isPlace : MethodName := ⟨RX8, "isPlace", "(II)Z"⟩
abbrev cX8_levels : ByteArray := prog_10_method_19_code
def yX8_levels : MethodName := ⟨RX8, "levels", "(III)I"⟩
abbrev cX8_sets : ByteArray := prog_10_method_20_code
def yX8_sets : MethodName := ⟨RX8, "sets", "(II)I"⟩
abbrev cX8_undo : ByteArray := prog_10_method_21_code
def yX8_undo : MethodName := ⟨RX8, "undo", "()I"⟩
abbrev cX8_levelAt : ByteArray := prog_10_method_22_code
def yX8_levelAt : MethodName := ⟨RX8, "levelAt", "(II)I"⟩
abbrev cX8_laysPeaks : ByteArray := prog_10_method_23_code
def yX8_laysPeaks : MethodName := ⟨RX8, "laysPeaks", "()V"⟩
abbrev cX8_pitchOf : ByteArray := prog_10_method_24_code
def yX8_pitchOf : MethodName := ⟨RX8, "pitchOf", "(II)I"⟩
abbrev cX8_loudOf : ByteArray := prog_10_method_25_code
def yX8_loudOf : MethodName := ⟨RX8, "loudOf", "(II)I"⟩
abbrev cX8_apart : ByteArray := prog_10_method_26_code
def yX8_apart : MethodName := ⟨RX8, "apart", "(III)I"⟩
abbrev cX8_worthOf : ByteArray := prog_10_method_27_code
def yX8_worthOf : MethodName := ⟨RX8, "worthOf", "(II)I"⟩
abbrev cX8_pairWorth : ByteArray := prog_10_method_28_code
def yX8_pairWorth : MethodName := ⟨RX8, "pairWorth", "(IIII)I"⟩
abbrev cX8_laysWorth : ByteArray := prog_10_method_29_code
def yX8_laysWorth : MethodName := ⟨RX8, "laysWorth", "(II)V"⟩
abbrev cX8_joins : ByteArray := prog_10_method_30_code
def yX8_joins : MethodName := ⟨RX8, "joins", "(II)V"⟩
abbrev cX8_laysTracks : ByteArray := prog_10_method_31_code
def yX8_laysTracks : MethodName := ⟨RX8, "laysTracks", "(I)V"⟩
abbrev cX8_follows : ByteArray := prog_10_method_32_code
def yX8_follows : MethodName := ⟨RX8, "follows", "(II)V"⟩
abbrev cX8_lays : ByteArray := prog_10_method_33_code
def yX8_lays : MethodName := ⟨RX8, "lays", "()V"⟩
abbrev cX8_peakOf : ByteArray := prog_10_method_34_code
def yX8_peakOf : MethodName := ⟨RX8, "peakOf", "(II)I"⟩
abbrev cX8_bornOf : ByteArray := prog_10_method_35_code
def yX8_bornOf : MethodName := ⟨RX8, "bornOf", "(I)I"⟩
abbrev cX8_longOf : ByteArray := prog_10_method_36_code
def yX8_longOf : MethodName := ⟨RX8, "longOf", "(I)I"⟩
abbrev cX8_depthOf : ByteArray := prog_10_method_37_code
def yX8_depthOf : MethodName := ⟨RX8, "depthOf", "(I)I"⟩
abbrev cX8_laysSteps : ByteArray := prog_10_method_38_code
def yX8_laysSteps : MethodName := ⟨RX8, "laysSteps", "(I)V"⟩
abbrev cX8_turnsOf : ByteArray := prog_10_method_39_code
def yX8_turnsOf : MethodName := ⟨RX8, "turnsOf", "(I)I"⟩
abbrev cX8_kindOf : ByteArray := prog_10_method_40_code
def yX8_kindOf : MethodName := ⟨RX8, "kindOf", "(I)I"⟩
abbrev cX8_worthOfTrack : ByteArray := prog_10_method_41_code
def yX8_worthOfTrack : MethodName := ⟨RX8, "worthOfTrack", "(I)I"⟩
abbrev cX8_level : ByteArray := prog_10_method_42_code
def yX8_level : MethodName := ⟨RX8, "level", "(II)I"⟩
abbrev cX8_peak : ByteArray := prog_10_method_43_code
def yX8_peak : MethodName := ⟨RX8, "peak", "(III)I"⟩
abbrev cX8_sumOf : ByteArray := prog_10_method_44_code
def yX8_sumOf : MethodName := ⟨RX8, "sumOf", "(IZ)I"⟩
abbrev cX8_bornIn : ByteArray := prog_10_method_45_code
def yX8_bornIn : MethodName := ⟨RX8, "bornIn", "(IZ)I"⟩
abbrev cX8_frame : ByteArray := prog_10_method_46_code
def yX8_frame : MethodName := ⟨RX8, "frame", "(II)I"⟩
abbrev cX8_track : ByteArray := prog_10_method_47_code
def yX8_track : MethodName := ⟨RX8, "track", "(II)I"⟩
abbrev cX8_pitchIn : ByteArray := prog_10_method_48_code
def yX8_pitchIn : MethodName := ⟨RX8, "pitchIn", "(II)I"⟩
abbrev cX8_pitch : ByteArray := prog_10_method_49_code
def yX8_pitch : MethodName := ⟨RX8, "pitch", "(II)I"⟩
abbrev cX8_best : ByteArray := prog_10_method_50_code
def yX8_best : MethodName := ⟨RX8, "best", "(I)I"⟩
abbrev cX8_sees : ByteArray := prog_10_method_51_code
def yX8_sees : MethodName := ⟨RX8, "sees", "(II)I"⟩
abbrev cX8_forget : ByteArray := prog_10_method_52_code
def yX8_forget : MethodName := ⟨RX8, "forget", "()I"⟩
abbrev cX8_isSo : ByteArray := prog_10_method_53_code
def yX8_isSo : MethodName := ⟨RX8, "isSo", "(I)Z"⟩
abbrev cX8_which : ByteArray := prog_10_method_54_code
def yX8_which : MethodName := ⟨RX8, "which", "(I)I"⟩
abbrev cX8_mostAlike : ByteArray := prog_10_method_55_code
def yX8_mostAlike : MethodName := ⟨RX8, "mostAlike", "(I)I"⟩
abbrev cX8_listen : ByteArray := prog_10_method_56_code
def yX8_listen : MethodName := ⟨RX8, "listen", "()I"⟩
abbrev cX8_keep : ByteArray := prog_10_method_57_code
def yX8_keep : MethodName := ⟨RX8, "keep", "(I)I"⟩
abbrev cX8_back : ByteArray := prog_10_method_58_code
def yX8_back : MethodName := ⟨RX8, "back", "(I)I"⟩
abbrev cX8_tracksNow : ByteArray := prog_10_method_59_code
def yX8_tracksNow : MethodName := ⟨RX8, "tracksNow", "()I"⟩
abbrev cX8_keptMany : ByteArray := prog_10_method_60_code
def yX8_keptMany : MethodName := ⟨RX8, "keptMany", "()I"⟩
abbrev cX8_longest : ByteArray := prog_10_method_61_code
def yX8_longest : MethodName := ⟨RX8, "longest", "()I"⟩
abbrev cX8_count : ByteArray := prog_10_method_62_code
def yX8_count : MethodName := ⟨RX8, "count", "(I)I"⟩
def RJx145de : String := "java/io/Serializable"
def RJx9f9b0 : String := "java/lang/CharSequence"
def RJxb160c : String := "java/lang/Comparable"
def RJ6 : String := "java/lang/Integer"
abbrev cJ6_compare_7cf53 : ByteArray := prog_11_method_40_code
def yJ6_compare_7cf53 : MethodName := ⟨RJ6, "compare", "(II)I"⟩
def RJ9 : String := "java/lang/Math"
abbrev cJ9_abs_0f7a4 : ByteArray := prog_12_method_59_code
def yJ9_abs_0f7a4 : MethodName := ⟨RJ9, "abs", "(I)I"⟩
abbrev cJ9_max_7cf53 : ByteArray := prog_12_method_65_code
def yJ9_max_7cf53 : MethodName := ⟨RJ9, "max", "(II)I"⟩
abbrev cJ9_min_7cf53 : ByteArray := prog_12_method_69_code
def yJ9_min_7cf53 : MethodName := ⟨RJ9, "min", "(II)I"⟩
def RJ0 : String := "java/lang/String"
abbrev cJ0_length_8abf5 : ByteArray := prog_13_method_54_code
def yJ0_length_8abf5 : MethodName := ⟨RJ0, "length", "()I"⟩
abbrev cJ0_charAt_5068e : ByteArray := prog_13_method_56_code
def yJ0_charAt_5068e : MethodName := ⟨RJ0, "charAt", "(I)C"⟩
abbrev cJ0_coder_7d493 : ByteArray := prog_13_method_152_code
def yJ0_coder_7d493 : MethodName := ⟨RJ0, "coder", "()B"⟩
abbrev cJ0_isLatin1_aae02 : ByteArray := prog_13_method_154_code
def yJ0_isLatin1_aae02 : MethodName := ⟨RJ0, "isLatin1", "()Z"⟩
abbrev cJ0_checkIndex_df160 : ByteArray := prog_13_method_155_code
def yJ0_checkIndex_df160 : MethodName := ⟨RJ0, "checkIndex", "(II)V"⟩
def RJ1 : String := "java/lang/StringLatin1"
abbrev cJ1_charAt_3b067 : ByteArray := prog_14_method_2_code
def yJ1_charAt_3b067 : MethodName := ⟨RJ1, "charAt", "([BI)C"⟩
def RJ2 : String := "java/lang/StringUTF16"
abbrev cJ2_getChar_3b067 : ByteArray := prog_15_method_5_code
def yJ2_getChar_3b067 : MethodName := ⟨RJ2, "getChar", "([BI)C"⟩
abbrev cJ2_length_9d52b : ByteArray := prog_15_method_6_code
def yJ2_length_9d52b : MethodName := ⟨RJ2, "length", "([B)I"⟩
abbrev cJ2_charAt_3b067 : ByteArray := prog_15_method_83_code
def yJ2_charAt_3b067 : MethodName := ⟨RJ2, "charAt", "([BI)C"⟩
abbrev cJ2_checkIndex_2214a : ByteArray := prog_15_method_91_code
def yJ2_checkIndex_2214a : MethodName := ⟨RJ2, "checkIndex", "(I[B)V"⟩
def RJ10 : String := "java/lang/System"
def RJxfd54e : String := "java/lang/constant/Constable"
def RJx3cf43 : String := "java/lang/constant/ConstantDesc"
def RJ7 : String := "java/util/Arrays"
abbrev cJ7_fill_53178 : ByteArray := prog_17_method_103_code
def yJ7_fill_53178 : MethodName := ⟨RJ7, "fill", "([II)V"⟩
def RJ3 : String := "jdk/internal/util/Preconditions"
abbrev cJ3_checkIndex_8e157 : ByteArray := prog_18_method_11_code
def yJ3_checkIndex_8e157 : MethodName := ⟨RJ3, "checkIndex", "(IILjava/util/function/BiFunction;)I"⟩
def RL : String := "FollowedPeaksLaw"
abbrev cL_law : ByteArray := code
