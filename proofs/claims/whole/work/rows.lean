section
-- ===== PART A: goes FIRST, ahead of the names: the tables' words, and 'selects' of the private methods out of them =====
/-- a private method of a class that the tables say can be made, by its rows of tables_1 -/
def lw_okq (q : MethodName × Nat) : Prop := (q.1.cls ≠ "java/lang/invoke/MethodHandle" ∧ q.1.cls ≠ "java/lang/invoke/VarHandle") ∧ Cond.instantiable q.1.cls q.2 ∈ tables_1 ∧ Cond.privateMethod q.1 ∈ tables_1 ∧ Cond.instanceMethod q.1 ∈ tables_1
theorem lw_p0 : lw_okq (⟨"FollowedPeaks", "followAnew", "()V"⟩, 12) := ⟨⟨by decide +kernel, by decide +kernel⟩, List.mem_of_getElem? (i := 19) (by decide +kernel), List.mem_of_getElem? (i := 244) (by decide +kernel), List.mem_of_getElem? (i := 245) (by decide +kernel)⟩
theorem lw_p1 : lw_okq (⟨"FollowedPeaks$Peaks", "lookAt", "(LFollowedPeaks$Scene;II)V"⟩, 4) := ⟨⟨by decide +kernel, by decide +kernel⟩, List.mem_of_getElem? (i := 96) (by decide +kernel), List.mem_of_getElem? (i := 252) (by decide +kernel), List.mem_of_getElem? (i := 253) (by decide +kernel)⟩
theorem lw_p2 : lw_okq (⟨"FollowedPeaks$Joiner", "scoreAll", "()V"⟩, 7) := ⟨⟨by decide +kernel, by decide +kernel⟩, List.mem_of_getElem? (i := 125) (by decide +kernel), List.mem_of_getElem? (i := 284) (by decide +kernel), List.mem_of_getElem? (i := 285) (by decide +kernel)⟩
theorem lw_p3 : lw_okq (⟨"FollowedPeaks$Joiner", "pairedScore", "(II)I"⟩, 7) := ⟨⟨by decide +kernel, by decide +kernel⟩, List.mem_of_getElem? (i := 125) (by decide +kernel), List.mem_of_getElem? (i := 292) (by decide +kernel), List.mem_of_getElem? (i := 293) (by decide +kernel)⟩
theorem lw_p4 : lw_okq (⟨"FollowedPeaks$Joiner", "chooseMates", "()I"⟩, 7) := ⟨⟨by decide +kernel, by decide +kernel⟩, List.mem_of_getElem? (i := 125) (by decide +kernel), List.mem_of_getElem? (i := 299) (by decide +kernel), List.mem_of_getElem? (i := 300) (by decide +kernel)⟩
theorem lw_p5 : lw_okq (⟨"FollowedPeaks$Joiner", "lowestMate", "(II)I"⟩, 7) := ⟨⟨by decide +kernel, by decide +kernel⟩, List.mem_of_getElem? (i := 125) (by decide +kernel), List.mem_of_getElem? (i := 303) (by decide +kernel), List.mem_of_getElem? (i := 304) (by decide +kernel)⟩
theorem lw_p6 : lw_okq (⟨"FollowedPeaks$Tracks", "begin", "(II)V"⟩, 10) := ⟨⟨by decide +kernel, by decide +kernel⟩, List.mem_of_getElem? (i := 154) (by decide +kernel), List.mem_of_getElem? (i := 307) (by decide +kernel), List.mem_of_getElem? (i := 308) (by decide +kernel)⟩
theorem lw_p7 : lw_okq (⟨"FollowedPeaks$Tracks", "addPeak", "(LFollowedPeaks$Peaks;II)V"⟩, 10) := ⟨⟨by decide +kernel, by decide +kernel⟩, List.mem_of_getElem? (i := 154) (by decide +kernel), List.mem_of_getElem? (i := 311) (by decide +kernel), List.mem_of_getElem? (i := 312) (by decide +kernel)⟩
theorem lw_p8 : lw_okq (⟨"FollowedPeaks$Tracks", "measure", "(I)V"⟩, 10) := ⟨⟨by decide +kernel, by decide +kernel⟩, List.mem_of_getElem? (i := 154) (by decide +kernel), List.mem_of_getElem? (i := 315) (by decide +kernel), List.mem_of_getElem? (i := 316) (by decide +kernel)⟩
theorem lw_p9 : lw_okq (⟨"FollowedPeaks$Text", "nextToken", "()V"⟩, 5) := ⟨⟨by decide +kernel, by decide +kernel⟩, List.mem_of_getElem? (i := 55) (by decide +kernel), List.mem_of_getElem? (i := 389) (by decide +kernel), List.mem_of_getElem? (i := 390) (by decide +kernel)⟩
theorem lw_p10 : lw_okq (⟨"FollowedPeaks$Text", "kindAt", "(I)I"⟩, 5) := ⟨⟨by decide +kernel, by decide +kernel⟩, List.mem_of_getElem? (i := 55) (by decide +kernel), List.mem_of_getElem? (i := 393) (by decide +kernel), List.mem_of_getElem? (i := 394) (by decide +kernel)⟩
theorem lw_p11 : lw_okq (⟨"FollowedPeaks$Text", "readItem", "(LFollowedPeaks$Scene;)Z"⟩, 5) := ⟨⟨by decide +kernel, by decide +kernel⟩, List.mem_of_getElem? (i := 55) (by decide +kernel), List.mem_of_getElem? (i := 397) (by decide +kernel), List.mem_of_getElem? (i := 398) (by decide +kernel)⟩
theorem lw_p12 : lw_okq (⟨"FollowedPeaks$Text", "isWord", "(Ljava/lang/String;)Z"⟩, 5) := ⟨⟨by decide +kernel, by decide +kernel⟩, List.mem_of_getElem? (i := 55) (by decide +kernel), List.mem_of_getElem? (i := 402) (by decide +kernel), List.mem_of_getElem? (i := 403) (by decide +kernel)⟩
theorem lw_p13 : lw_okq (⟨"FollowedPeaks$Text", "readFrame", "(LFollowedPeaks$Scene;)Z"⟩, 5) := ⟨⟨by decide +kernel, by decide +kernel⟩, List.mem_of_getElem? (i := 55) (by decide +kernel), List.mem_of_getElem? (i := 454) (by decide +kernel), List.mem_of_getElem? (i := 455) (by decide +kernel)⟩
theorem lw_p14 : lw_okq (⟨"FollowedPeaks$Text", "figureAt", "(I)I"⟩, 5) := ⟨⟨by decide +kernel, by decide +kernel⟩, List.mem_of_getElem? (i := 55) (by decide +kernel), List.mem_of_getElem? (i := 458) (by decide +kernel), List.mem_of_getElem? (i := 459) (by decide +kernel)⟩
theorem lw_p15 : lw_okq (⟨"FollowedPeaks$Text", "namedSetting", "()I"⟩, 5) := ⟨⟨by decide +kernel, by decide +kernel⟩, List.mem_of_getElem? (i := 55) (by decide +kernel), List.mem_of_getElem? (i := 466) (by decide +kernel), List.mem_of_getElem? (i := 467) (by decide +kernel)⟩
def lw_privs_1 : List (MethodName × Nat) := [(⟨"FollowedPeaks", "followAnew", "()V"⟩, 12), (⟨"FollowedPeaks$Peaks", "lookAt", "(LFollowedPeaks$Scene;II)V"⟩, 4), (⟨"FollowedPeaks$Joiner", "scoreAll", "()V"⟩, 7), (⟨"FollowedPeaks$Joiner", "pairedScore", "(II)I"⟩, 7), (⟨"FollowedPeaks$Joiner", "chooseMates", "()I"⟩, 7), (⟨"FollowedPeaks$Joiner", "lowestMate", "(II)I"⟩, 7), (⟨"FollowedPeaks$Tracks", "begin", "(II)V"⟩, 10), (⟨"FollowedPeaks$Tracks", "addPeak", "(LFollowedPeaks$Peaks;II)V"⟩, 10), (⟨"FollowedPeaks$Tracks", "measure", "(I)V"⟩, 10), (⟨"FollowedPeaks$Text", "nextToken", "()V"⟩, 5), (⟨"FollowedPeaks$Text", "kindAt", "(I)I"⟩, 5), (⟨"FollowedPeaks$Text", "readItem", "(LFollowedPeaks$Scene;)Z"⟩, 5), (⟨"FollowedPeaks$Text", "isWord", "(Ljava/lang/String;)Z"⟩, 5), (⟨"FollowedPeaks$Text", "readFrame", "(LFollowedPeaks$Scene;)Z"⟩, 5), (⟨"FollowedPeaks$Text", "figureAt", "(I)I"⟩, 5), (⟨"FollowedPeaks$Text", "namedSetting", "()I"⟩, 5)]
theorem lw_r1 : ∀ q ∈ lw_privs_1, lw_okq q := List.forall_mem_cons.mpr ⟨lw_p0, List.forall_mem_cons.mpr ⟨lw_p1, List.forall_mem_cons.mpr ⟨lw_p2, List.forall_mem_cons.mpr ⟨lw_p3, List.forall_mem_cons.mpr ⟨lw_p4, List.forall_mem_cons.mpr ⟨lw_p5, List.forall_mem_cons.mpr ⟨lw_p6, List.forall_mem_cons.mpr ⟨lw_p7, List.forall_mem_cons.mpr ⟨lw_p8, List.forall_mem_cons.mpr ⟨lw_p9, List.forall_mem_cons.mpr ⟨lw_p10, List.forall_mem_cons.mpr ⟨lw_p11, List.forall_mem_cons.mpr ⟨lw_p12, List.forall_mem_cons.mpr ⟨lw_p13, List.forall_mem_cons.mpr ⟨lw_p14, List.forall_mem_cons.mpr ⟨lw_p15, fun _ h => absurd h List.not_mem_nil⟩⟩⟩⟩⟩⟩⟩⟩⟩⟩⟩⟩⟩⟩⟩⟩
theorem lw_p16 : lw_okq (⟨"FollowedPeaks$Text", "readSetting", "(LFollowedPeaks$Scene;I)Z"⟩, 5) := ⟨⟨by decide +kernel, by decide +kernel⟩, List.mem_of_getElem? (i := 55) (by decide +kernel), List.mem_of_getElem? (i := 473) (by decide +kernel), List.mem_of_getElem? (i := 474) (by decide +kernel)⟩
theorem lw_p17 : lw_okq (⟨"FollowedPeaks$History", "loseOldest", "()V"⟩, 2) := ⟨⟨by decide +kernel, by decide +kernel⟩, List.mem_of_getElem? (i := 79) (by decide +kernel), List.mem_of_getElem? (i := 488) (by decide +kernel), List.mem_of_getElem? (i := 489) (by decide +kernel)⟩
theorem lw_p18 : lw_okq (⟨"FollowedPeaks", "loudTogether", "(IZ)I"⟩, 12) := ⟨⟨by decide +kernel, by decide +kernel⟩, List.mem_of_getElem? (i := 19) (by decide +kernel), List.mem_of_getElem? (i := 532) (by decide +kernel), List.mem_of_getElem? (i := 533) (by decide +kernel)⟩
theorem lw_p19 : lw_okq (⟨"FollowedPeaks", "isKept", "(I)Z"⟩, 12) := ⟨⟨by decide +kernel, by decide +kernel⟩, List.mem_of_getElem? (i := 19) (by decide +kernel), List.mem_of_getElem? (i := 536) (by decide +kernel), List.mem_of_getElem? (i := 537) (by decide +kernel)⟩
theorem lw_p20 : lw_okq (⟨"FollowedPeaks", "tracksByReach", "(I)I"⟩, 12) := ⟨⟨by decide +kernel, by decide +kernel⟩, List.mem_of_getElem? (i := 19) (by decide +kernel), List.mem_of_getElem? (i := 565) (by decide +kernel), List.mem_of_getElem? (i := 566) (by decide +kernel)⟩
theorem lw_p21 : lw_okq (⟨"FollowedPeaks$Seen", "fits", "(LFollowedPeaks$Tracks;I)Z"⟩, 6) := ⟨⟨by decide +kernel, by decide +kernel⟩, List.mem_of_getElem? (i := 200) (by decide +kernel), List.mem_of_getElem? (i := 590) (by decide +kernel), List.mem_of_getElem? (i := 591) (by decide +kernel)⟩
theorem lw_p22 : lw_okq (⟨"FollowedPeaks", "keptTracks", "()I"⟩, 12) := ⟨⟨by decide +kernel, by decide +kernel⟩, List.mem_of_getElem? (i := 19) (by decide +kernel), List.mem_of_getElem? (i := 617) (by decide +kernel), List.mem_of_getElem? (i := 618) (by decide +kernel)⟩
theorem lw_p23 : lw_okq (⟨"FollowedPeaksModel", "reads", "()I"⟩, 23) := ⟨⟨by decide +kernel, by decide +kernel⟩, List.mem_of_getElem? (i := 625) (by decide +kernel), List.mem_of_getElem? (i := 719) (by decide +kernel), List.mem_of_getElem? (i := 720) (by decide +kernel)⟩
theorem lw_p24 : lw_okq (⟨"FollowedPeaksModel", "steps", "()V"⟩, 23) := ⟨⟨by decide +kernel, by decide +kernel⟩, List.mem_of_getElem? (i := 625) (by decide +kernel), List.mem_of_getElem? (i := 723) (by decide +kernel), List.mem_of_getElem? (i := 724) (by decide +kernel)⟩
theorem lw_p25 : lw_okq (⟨"FollowedPeaksModel", "at", "(I)I"⟩, 23) := ⟨⟨by decide +kernel, by decide +kernel⟩, List.mem_of_getElem? (i := 625) (by decide +kernel), List.mem_of_getElem? (i := 727) (by decide +kernel), List.mem_of_getElem? (i := 728) (by decide +kernel)⟩
theorem lw_p26 : lw_okq (⟨"FollowedPeaksModel", "wordOf", "()I"⟩, 23) := ⟨⟨by decide +kernel, by decide +kernel⟩, List.mem_of_getElem? (i := 625) (by decide +kernel), List.mem_of_getElem? (i := 731) (by decide +kernel), List.mem_of_getElem? (i := 732) (by decide +kernel)⟩
theorem lw_p27 : lw_okq (⟨"FollowedPeaksModel", "isWord", "(IIIII)Z"⟩, 23) := ⟨⟨by decide +kernel, by decide +kernel⟩, List.mem_of_getElem? (i := 625) (by decide +kernel), List.mem_of_getElem? (i := 735) (by decide +kernel), List.mem_of_getElem? (i := 736) (by decide +kernel)⟩
theorem lw_p28 : lw_okq (⟨"FollowedPeaksModel", "readsFrame", "()V"⟩, 23) := ⟨⟨by decide +kernel, by decide +kernel⟩, List.mem_of_getElem? (i := 625) (by decide +kernel), List.mem_of_getElem? (i := 739) (by decide +kernel), List.mem_of_getElem? (i := 740) (by decide +kernel)⟩
theorem lw_p29 : lw_okq (⟨"FollowedPeaksModel", "takes", "(Z)V"⟩, 23) := ⟨⟨by decide +kernel, by decide +kernel⟩, List.mem_of_getElem? (i := 625) (by decide +kernel), List.mem_of_getElem? (i := 743) (by decide +kernel), List.mem_of_getElem? (i := 744) (by decide +kernel)⟩
theorem lw_p30 : lw_okq (⟨"FollowedPeaksModel", "readsNumber", "(III)V"⟩, 23) := ⟨⟨by decide +kernel, by decide +kernel⟩, List.mem_of_getElem? (i := 625) (by decide +kernel), List.mem_of_getElem? (i := 747) (by decide +kernel), List.mem_of_getElem? (i := 748) (by decide +kernel)⟩
theorem lw_p31 : lw_okq (⟨"FollowedPeaksModel", "notes", "()V"⟩, 23) := ⟨⟨by decide +kernel, by decide +kernel⟩, List.mem_of_getElem? (i := 625) (by decide +kernel), List.mem_of_getElem? (i := 751) (by decide +kernel), List.mem_of_getElem? (i := 752) (by decide +kernel)⟩
def lw_privs_2 : List (MethodName × Nat) := [(⟨"FollowedPeaks$Text", "readSetting", "(LFollowedPeaks$Scene;I)Z"⟩, 5), (⟨"FollowedPeaks$History", "loseOldest", "()V"⟩, 2), (⟨"FollowedPeaks", "loudTogether", "(IZ)I"⟩, 12), (⟨"FollowedPeaks", "isKept", "(I)Z"⟩, 12), (⟨"FollowedPeaks", "tracksByReach", "(I)I"⟩, 12), (⟨"FollowedPeaks$Seen", "fits", "(LFollowedPeaks$Tracks;I)Z"⟩, 6), (⟨"FollowedPeaks", "keptTracks", "()I"⟩, 12), (⟨"FollowedPeaksModel", "reads", "()I"⟩, 23), (⟨"FollowedPeaksModel", "steps", "()V"⟩, 23), (⟨"FollowedPeaksModel", "at", "(I)I"⟩, 23), (⟨"FollowedPeaksModel", "wordOf", "()I"⟩, 23), (⟨"FollowedPeaksModel", "isWord", "(IIIII)Z"⟩, 23), (⟨"FollowedPeaksModel", "readsFrame", "()V"⟩, 23), (⟨"FollowedPeaksModel", "takes", "(Z)V"⟩, 23), (⟨"FollowedPeaksModel", "readsNumber", "(III)V"⟩, 23), (⟨"FollowedPeaksModel", "notes", "()V"⟩, 23)]
theorem lw_r2 : ∀ q ∈ lw_privs_2, lw_okq q := List.forall_mem_cons.mpr ⟨lw_p16, List.forall_mem_cons.mpr ⟨lw_p17, List.forall_mem_cons.mpr ⟨lw_p18, List.forall_mem_cons.mpr ⟨lw_p19, List.forall_mem_cons.mpr ⟨lw_p20, List.forall_mem_cons.mpr ⟨lw_p21, List.forall_mem_cons.mpr ⟨lw_p22, List.forall_mem_cons.mpr ⟨lw_p23, List.forall_mem_cons.mpr ⟨lw_p24, List.forall_mem_cons.mpr ⟨lw_p25, List.forall_mem_cons.mpr ⟨lw_p26, List.forall_mem_cons.mpr ⟨lw_p27, List.forall_mem_cons.mpr ⟨lw_p28, List.forall_mem_cons.mpr ⟨lw_p29, List.forall_mem_cons.mpr ⟨lw_p30, List.forall_mem_cons.mpr ⟨lw_p31, fun _ h => absurd h List.not_mem_nil⟩⟩⟩⟩⟩⟩⟩⟩⟩⟩⟩⟩⟩⟩⟩⟩
theorem lw_p32 : lw_okq (⟨"FollowedPeaksModel", "isPlace", "(II)Z"⟩, 23) := ⟨⟨by decide +kernel, by decide +kernel⟩, List.mem_of_getElem? (i := 625) (by decide +kernel), List.mem_of_getElem? (i := 759) (by decide +kernel), List.mem_of_getElem? (i := 760) (by decide +kernel)⟩
theorem lw_p33 : lw_okq (⟨"FollowedPeaksModel", "becomes", "(II)I"⟩, 23) := ⟨⟨by decide +kernel, by decide +kernel⟩, List.mem_of_getElem? (i := 625) (by decide +kernel), List.mem_of_getElem? (i := 763) (by decide +kernel), List.mem_of_getElem? (i := 764) (by decide +kernel)⟩
theorem lw_p34 : lw_okq (⟨"FollowedPeaksModel", "levelAt", "(II)I"⟩, 23) := ⟨⟨by decide +kernel, by decide +kernel⟩, List.mem_of_getElem? (i := 625) (by decide +kernel), List.mem_of_getElem? (i := 779) (by decide +kernel), List.mem_of_getElem? (i := 780) (by decide +kernel)⟩
theorem lw_p35 : lw_okq (⟨"FollowedPeaksModel", "lays", "()V"⟩, 23) := ⟨⟨by decide +kernel, by decide +kernel⟩, List.mem_of_getElem? (i := 625) (by decide +kernel), List.mem_of_getElem? (i := 788) (by decide +kernel), List.mem_of_getElem? (i := 789) (by decide +kernel)⟩
theorem lw_p36 : lw_okq (⟨"FollowedPeaksModel", "laysTracks", "(I)V"⟩, 23) := ⟨⟨by decide +kernel, by decide +kernel⟩, List.mem_of_getElem? (i := 625) (by decide +kernel), List.mem_of_getElem? (i := 792) (by decide +kernel), List.mem_of_getElem? (i := 793) (by decide +kernel)⟩
theorem lw_p37 : lw_okq (⟨"FollowedPeaksModel", "laysPeaks", "()V"⟩, 23) := ⟨⟨by decide +kernel, by decide +kernel⟩, List.mem_of_getElem? (i := 625) (by decide +kernel), List.mem_of_getElem? (i := 796) (by decide +kernel), List.mem_of_getElem? (i := 797) (by decide +kernel)⟩
theorem lw_p38 : lw_okq (⟨"FollowedPeaksModel", "joins", "(II)V"⟩, 23) := ⟨⟨by decide +kernel, by decide +kernel⟩, List.mem_of_getElem? (i := 625) (by decide +kernel), List.mem_of_getElem? (i := 800) (by decide +kernel), List.mem_of_getElem? (i := 801) (by decide +kernel)⟩
theorem lw_p39 : lw_okq (⟨"FollowedPeaksModel", "laysWorth", "(II)V"⟩, 23) := ⟨⟨by decide +kernel, by decide +kernel⟩, List.mem_of_getElem? (i := 625) (by decide +kernel), List.mem_of_getElem? (i := 804) (by decide +kernel), List.mem_of_getElem? (i := 805) (by decide +kernel)⟩
theorem lw_p40 : lw_okq (⟨"FollowedPeaksModel", "pairWorth", "(IIII)I"⟩, 23) := ⟨⟨by decide +kernel, by decide +kernel⟩, List.mem_of_getElem? (i := 625) (by decide +kernel), List.mem_of_getElem? (i := 808) (by decide +kernel), List.mem_of_getElem? (i := 809) (by decide +kernel)⟩
theorem lw_p41 : lw_okq (⟨"FollowedPeaksModel", "apart", "(III)I"⟩, 23) := ⟨⟨by decide +kernel, by decide +kernel⟩, List.mem_of_getElem? (i := 625) (by decide +kernel), List.mem_of_getElem? (i := 812) (by decide +kernel), List.mem_of_getElem? (i := 813) (by decide +kernel)⟩
theorem lw_p42 : lw_okq (⟨"FollowedPeaksModel", "pitchOf", "(II)I"⟩, 23) := ⟨⟨by decide +kernel, by decide +kernel⟩, List.mem_of_getElem? (i := 625) (by decide +kernel), List.mem_of_getElem? (i := 816) (by decide +kernel), List.mem_of_getElem? (i := 817) (by decide +kernel)⟩
theorem lw_p43 : lw_okq (⟨"FollowedPeaksModel", "worthOf", "(II)I"⟩, 23) := ⟨⟨by decide +kernel, by decide +kernel⟩, List.mem_of_getElem? (i := 625) (by decide +kernel), List.mem_of_getElem? (i := 820) (by decide +kernel), List.mem_of_getElem? (i := 821) (by decide +kernel)⟩
theorem lw_p44 : lw_okq (⟨"FollowedPeaksModel", "follows", "(II)V"⟩, 23) := ⟨⟨by decide +kernel, by decide +kernel⟩, List.mem_of_getElem? (i := 625) (by decide +kernel), List.mem_of_getElem? (i := 824) (by decide +kernel), List.mem_of_getElem? (i := 825) (by decide +kernel)⟩
theorem lw_p45 : lw_okq (⟨"FollowedPeaksModel", "loudOf", "(II)I"⟩, 23) := ⟨⟨by decide +kernel, by decide +kernel⟩, List.mem_of_getElem? (i := 625) (by decide +kernel), List.mem_of_getElem? (i := 828) (by decide +kernel), List.mem_of_getElem? (i := 829) (by decide +kernel)⟩
theorem lw_p46 : lw_okq (⟨"FollowedPeaksModel", "sumOf", "(IZ)I"⟩, 23) := ⟨⟨by decide +kernel, by decide +kernel⟩, List.mem_of_getElem? (i := 625) (by decide +kernel), List.mem_of_getElem? (i := 836) (by decide +kernel), List.mem_of_getElem? (i := 837) (by decide +kernel)⟩
theorem lw_p47 : lw_okq (⟨"FollowedPeaksModel", "longOf", "(I)I"⟩, 23) := ⟨⟨by decide +kernel, by decide +kernel⟩, List.mem_of_getElem? (i := 625) (by decide +kernel), List.mem_of_getElem? (i := 840) (by decide +kernel), List.mem_of_getElem? (i := 841) (by decide +kernel)⟩
def lw_privs_3 : List (MethodName × Nat) := [(⟨"FollowedPeaksModel", "isPlace", "(II)Z"⟩, 23), (⟨"FollowedPeaksModel", "becomes", "(II)I"⟩, 23), (⟨"FollowedPeaksModel", "levelAt", "(II)I"⟩, 23), (⟨"FollowedPeaksModel", "lays", "()V"⟩, 23), (⟨"FollowedPeaksModel", "laysTracks", "(I)V"⟩, 23), (⟨"FollowedPeaksModel", "laysPeaks", "()V"⟩, 23), (⟨"FollowedPeaksModel", "joins", "(II)V"⟩, 23), (⟨"FollowedPeaksModel", "laysWorth", "(II)V"⟩, 23), (⟨"FollowedPeaksModel", "pairWorth", "(IIII)I"⟩, 23), (⟨"FollowedPeaksModel", "apart", "(III)I"⟩, 23), (⟨"FollowedPeaksModel", "pitchOf", "(II)I"⟩, 23), (⟨"FollowedPeaksModel", "worthOf", "(II)I"⟩, 23), (⟨"FollowedPeaksModel", "follows", "(II)V"⟩, 23), (⟨"FollowedPeaksModel", "loudOf", "(II)I"⟩, 23), (⟨"FollowedPeaksModel", "sumOf", "(IZ)I"⟩, 23), (⟨"FollowedPeaksModel", "longOf", "(I)I"⟩, 23)]
theorem lw_r3 : ∀ q ∈ lw_privs_3, lw_okq q := List.forall_mem_cons.mpr ⟨lw_p32, List.forall_mem_cons.mpr ⟨lw_p33, List.forall_mem_cons.mpr ⟨lw_p34, List.forall_mem_cons.mpr ⟨lw_p35, List.forall_mem_cons.mpr ⟨lw_p36, List.forall_mem_cons.mpr ⟨lw_p37, List.forall_mem_cons.mpr ⟨lw_p38, List.forall_mem_cons.mpr ⟨lw_p39, List.forall_mem_cons.mpr ⟨lw_p40, List.forall_mem_cons.mpr ⟨lw_p41, List.forall_mem_cons.mpr ⟨lw_p42, List.forall_mem_cons.mpr ⟨lw_p43, List.forall_mem_cons.mpr ⟨lw_p44, List.forall_mem_cons.mpr ⟨lw_p45, List.forall_mem_cons.mpr ⟨lw_p46, List.forall_mem_cons.mpr ⟨lw_p47, fun _ h => absurd h List.not_mem_nil⟩⟩⟩⟩⟩⟩⟩⟩⟩⟩⟩⟩⟩⟩⟩⟩
theorem lw_p48 : lw_okq (⟨"FollowedPeaksModel", "peakOf", "(II)I"⟩, 23) := ⟨⟨by decide +kernel, by decide +kernel⟩, List.mem_of_getElem? (i := 625) (by decide +kernel), List.mem_of_getElem? (i := 844) (by decide +kernel), List.mem_of_getElem? (i := 845) (by decide +kernel)⟩
theorem lw_p49 : lw_okq (⟨"FollowedPeaksModel", "bornIn", "(IZ)I"⟩, 23) := ⟨⟨by decide +kernel, by decide +kernel⟩, List.mem_of_getElem? (i := 625) (by decide +kernel), List.mem_of_getElem? (i := 848) (by decide +kernel), List.mem_of_getElem? (i := 849) (by decide +kernel)⟩
theorem lw_p50 : lw_okq (⟨"FollowedPeaksModel", "bornOf", "(I)I"⟩, 23) := ⟨⟨by decide +kernel, by decide +kernel⟩, List.mem_of_getElem? (i := 625) (by decide +kernel), List.mem_of_getElem? (i := 852) (by decide +kernel), List.mem_of_getElem? (i := 853) (by decide +kernel)⟩
theorem lw_p51 : lw_okq (⟨"FollowedPeaksModel", "depthOf", "(I)I"⟩, 23) := ⟨⟨by decide +kernel, by decide +kernel⟩, List.mem_of_getElem? (i := 625) (by decide +kernel), List.mem_of_getElem? (i := 860) (by decide +kernel), List.mem_of_getElem? (i := 861) (by decide +kernel)⟩
theorem lw_p52 : lw_okq (⟨"FollowedPeaksModel", "turnsOf", "(I)I"⟩, 23) := ⟨⟨by decide +kernel, by decide +kernel⟩, List.mem_of_getElem? (i := 625) (by decide +kernel), List.mem_of_getElem? (i := 864) (by decide +kernel), List.mem_of_getElem? (i := 865) (by decide +kernel)⟩
theorem lw_p53 : lw_okq (⟨"FollowedPeaksModel", "laysSteps", "(I)V"⟩, 23) := ⟨⟨by decide +kernel, by decide +kernel⟩, List.mem_of_getElem? (i := 625) (by decide +kernel), List.mem_of_getElem? (i := 868) (by decide +kernel), List.mem_of_getElem? (i := 869) (by decide +kernel)⟩
theorem lw_p54 : lw_okq (⟨"FollowedPeaksModel", "kindOf", "(I)I"⟩, 23) := ⟨⟨by decide +kernel, by decide +kernel⟩, List.mem_of_getElem? (i := 625) (by decide +kernel), List.mem_of_getElem? (i := 872) (by decide +kernel), List.mem_of_getElem? (i := 873) (by decide +kernel)⟩
theorem lw_p55 : lw_okq (⟨"FollowedPeaksModel", "worthOfTrack", "(I)I"⟩, 23) := ⟨⟨by decide +kernel, by decide +kernel⟩, List.mem_of_getElem? (i := 625) (by decide +kernel), List.mem_of_getElem? (i := 876) (by decide +kernel), List.mem_of_getElem? (i := 877) (by decide +kernel)⟩
theorem lw_p56 : lw_okq (⟨"FollowedPeaksModel", "pitchIn", "(II)I"⟩, 23) := ⟨⟨by decide +kernel, by decide +kernel⟩, List.mem_of_getElem? (i := 625) (by decide +kernel), List.mem_of_getElem? (i := 884) (by decide +kernel), List.mem_of_getElem? (i := 885) (by decide +kernel)⟩
theorem lw_p57 : lw_okq (⟨"FollowedPeaksModel", "isSo", "(I)Z"⟩, 23) := ⟨⟨by decide +kernel, by decide +kernel⟩, List.mem_of_getElem? (i := 625) (by decide +kernel), List.mem_of_getElem? (i := 904) (by decide +kernel), List.mem_of_getElem? (i := 905) (by decide +kernel)⟩
theorem lw_p58 : lw_okq (⟨"FollowedPeaksModel", "mostAlike", "(I)I"⟩, 23) := ⟨⟨by decide +kernel, by decide +kernel⟩, List.mem_of_getElem? (i := 625) (by decide +kernel), List.mem_of_getElem? (i := 912) (by decide +kernel), List.mem_of_getElem? (i := 913) (by decide +kernel)⟩
theorem lw_p59 : lw_okq (⟨"FollowedPeaksModel", "tracksNow", "()I"⟩, 23) := ⟨⟨by decide +kernel, by decide +kernel⟩, List.mem_of_getElem? (i := 625) (by decide +kernel), List.mem_of_getElem? (i := 928) (by decide +kernel), List.mem_of_getElem? (i := 929) (by decide +kernel)⟩
theorem lw_p60 : lw_okq (⟨"FollowedPeaksModel", "keptMany", "()I"⟩, 23) := ⟨⟨by decide +kernel, by decide +kernel⟩, List.mem_of_getElem? (i := 625) (by decide +kernel), List.mem_of_getElem? (i := 932) (by decide +kernel), List.mem_of_getElem? (i := 933) (by decide +kernel)⟩
theorem lw_p61 : lw_okq (⟨"FollowedPeaksModel", "longest", "()I"⟩, 23) := ⟨⟨by decide +kernel, by decide +kernel⟩, List.mem_of_getElem? (i := 625) (by decide +kernel), List.mem_of_getElem? (i := 936) (by decide +kernel), List.mem_of_getElem? (i := 937) (by decide +kernel)⟩
def lw_privs_4 : List (MethodName × Nat) := [(⟨"FollowedPeaksModel", "peakOf", "(II)I"⟩, 23), (⟨"FollowedPeaksModel", "bornIn", "(IZ)I"⟩, 23), (⟨"FollowedPeaksModel", "bornOf", "(I)I"⟩, 23), (⟨"FollowedPeaksModel", "depthOf", "(I)I"⟩, 23), (⟨"FollowedPeaksModel", "turnsOf", "(I)I"⟩, 23), (⟨"FollowedPeaksModel", "laysSteps", "(I)V"⟩, 23), (⟨"FollowedPeaksModel", "kindOf", "(I)I"⟩, 23), (⟨"FollowedPeaksModel", "worthOfTrack", "(I)I"⟩, 23), (⟨"FollowedPeaksModel", "pitchIn", "(II)I"⟩, 23), (⟨"FollowedPeaksModel", "isSo", "(I)Z"⟩, 23), (⟨"FollowedPeaksModel", "mostAlike", "(I)I"⟩, 23), (⟨"FollowedPeaksModel", "tracksNow", "()I"⟩, 23), (⟨"FollowedPeaksModel", "keptMany", "()I"⟩, 23), (⟨"FollowedPeaksModel", "longest", "()I"⟩, 23)]
theorem lw_r4 : ∀ q ∈ lw_privs_4, lw_okq q := List.forall_mem_cons.mpr ⟨lw_p48, List.forall_mem_cons.mpr ⟨lw_p49, List.forall_mem_cons.mpr ⟨lw_p50, List.forall_mem_cons.mpr ⟨lw_p51, List.forall_mem_cons.mpr ⟨lw_p52, List.forall_mem_cons.mpr ⟨lw_p53, List.forall_mem_cons.mpr ⟨lw_p54, List.forall_mem_cons.mpr ⟨lw_p55, List.forall_mem_cons.mpr ⟨lw_p56, List.forall_mem_cons.mpr ⟨lw_p57, List.forall_mem_cons.mpr ⟨lw_p58, List.forall_mem_cons.mpr ⟨lw_p59, List.forall_mem_cons.mpr ⟨lw_p60, List.forall_mem_cons.mpr ⟨lw_p61, fun _ h => absurd h List.not_mem_nil⟩⟩⟩⟩⟩⟩⟩⟩⟩⟩⟩⟩⟩⟩
def lw_privs : List (MethodName × Nat) := lw_privs_1 ++ (lw_privs_2 ++ (lw_privs_3 ++ (lw_privs_4)))
def lw_tbl : List Cond := k2_sels lw_privs ++ tables_1
theorem lw_privs_ok : ∀ q ∈ lw_privs, lw_okq q := by
  show ∀ q ∈ lw_privs_1 ++ (lw_privs_2 ++ (lw_privs_3 ++ (lw_privs_4))), lw_okq q
  exact List.forall_mem_append.mpr ⟨lw_r1, List.forall_mem_append.mpr ⟨lw_r2, List.forall_mem_append.mpr ⟨lw_r3, lw_r4⟩⟩⟩
def RX0 : String := "FollowedPeaks$History"
def TX0 : u_T := fun k => match k with
  | 0 => ("FollowedPeaks$History", "known", "I", false)
  | _ => ("FollowedPeaks$History", "past", "[LFollowedPeaks$Scene;", true)
def tyX0 : Nat → FieldType := fun k => match k with
  | 0 => .int
  | _ => .array (.object "FollowedPeaks$Scene")
abbrev wsX00 : List Cond := u_ws RX0 TX0 2
theorem nmX0 : ∀ a, a < 2 → ∀ b, b < 2 → a ≠ b → (TX0 a).2.1 ≠ (TX0 b).2.1 := by decide +kernel
theorem tyX0_ok : ∀ k, k < 2 → parseFieldDescriptor (TX0 k).2.2.1 = some (tyX0 k) := by decide +kernel
abbrev cX0_init : ByteArray := prog_2_method_1_code
def yX0_init : MethodName := ⟨RX0, "<init>", "()V"⟩
abbrev cX0_remember : ByteArray := prog_2_method_2_code
def yX0_remember : MethodName := ⟨RX0, "remember", "(LFollowedPeaks$Scene;)V"⟩
abbrev cX0_giveLatest : ByteArray := prog_2_method_3_code
def yX0_giveLatest : MethodName := ⟨RX0, "giveLatest", "(LFollowedPeaks$Scene;)V"⟩
abbrev cX0_loseOldest : ByteArray := prog_2_method_4_code
def yX0_loseOldest : MethodName := ⟨RX0, "loseOldest", "()V"⟩
def RX1 : String := "FollowedPeaks$Joiner"
def TX1 : u_T := fun k => match k with
  | 0 => ("FollowedPeaks$Joiner", "mates", "[I", true)
  | 1 => ("FollowedPeaks$Joiner", "firstPitches", "[I", true)
  | 2 => ("FollowedPeaks$Joiner", "secondPitches", "[I", true)
  | 3 => ("FollowedPeaks$Joiner", "scores", "[I", true)
  | 4 => ("FollowedPeaks$Joiner", "first", "I", false)
  | 5 => ("FollowedPeaks$Joiner", "second", "I", false)
  | _ => ("FollowedPeaks$Joiner", "reach", "I", false)
def tyX1 : Nat → FieldType := fun k => match k with
  | 0 => .array .int
  | 1 => .array .int
  | 2 => .array .int
  | 3 => .array .int
  | 4 => .int
  | 5 => .int
  | _ => .int
abbrev wsX10 : List Cond := u_ws RX1 TX1 7
theorem nmX1 : ∀ a, a < 7 → ∀ b, b < 7 → a ≠ b → (TX1 a).2.1 ≠ (TX1 b).2.1 := by decide +kernel
theorem tyX1_ok : ∀ k, k < 7 → parseFieldDescriptor (TX1 k).2.2.1 = some (tyX1 k) := by decide +kernel
abbrev cX1_init : ByteArray := prog_3_method_1_code
def yX1_init : MethodName := ⟨RX1, "<init>", "()V"⟩
abbrev cX1_join : ByteArray := prog_3_method_2_code
def yX1_join : MethodName := ⟨RX1, "join", "(LFollowedPeaks$Peaks;II)I"⟩
abbrev cX1_copyPitches : ByteArray := prog_3_method_3_code
def yX1_copyPitches : MethodName := ⟨RX1, "copyPitches", "(LFollowedPeaks$Peaks;I[I)I"⟩
abbrev cX1_scoreAll : ByteArray := prog_3_method_4_code
def yX1_scoreAll : MethodName := ⟨RX1, "scoreAll", "()V"⟩
abbrev cX1_pairedScore : ByteArray := prog_3_method_5_code
def yX1_pairedScore : MethodName := ⟨RX1, "pairedScore", "(II)I"⟩
abbrev cX1_chooseMates : ByteArray := prog_3_method_6_code
def yX1_chooseMates : MethodName := ⟨RX1, "chooseMates", "()I"⟩
abbrev cX1_lowestMate : ByteArray := prog_3_method_7_code
def yX1_lowestMate : MethodName := ⟨RX1, "lowestMate", "(II)I"⟩
def RX2 : String := "FollowedPeaks$Peaks"
def TX2 : u_T := fun k => match k with
  | 0 => ("FollowedPeaks$Peaks", "many", "[I", true)
  | 1 => ("FollowedPeaks$Peaks", "places", "[I", true)
  | 2 => ("FollowedPeaks$Peaks", "pitches", "[I", true)
  | _ => ("FollowedPeaks$Peaks", "louds", "[I", true)
def tyX2 : Nat → FieldType := fun k => match k with
  | 0 => .array .int
  | 1 => .array .int
  | 2 => .array .int
  | _ => .array .int
abbrev wsX20 : List Cond := u_ws RX2 TX2 4
theorem nmX2 : ∀ a, a < 4 → ∀ b, b < 4 → a ≠ b → (TX2 a).2.1 ≠ (TX2 b).2.1 := by decide +kernel
theorem tyX2_ok : ∀ k, k < 4 → parseFieldDescriptor (TX2 k).2.2.1 = some (tyX2 k) := by decide +kernel
abbrev cX2_init : ByteArray := prog_4_method_1_code
def yX2_init : MethodName := ⟨RX2, "<init>", "()V"⟩
abbrev cX2_find : ByteArray := prog_4_method_2_code
def yX2_find : MethodName := ⟨RX2, "find", "(LFollowedPeaks$Scene;)V"⟩
abbrev cX2_lookAt : ByteArray := prog_4_method_3_code
def yX2_lookAt : MethodName := ⟨RX2, "lookAt", "(LFollowedPeaks$Scene;II)V"⟩
def RX3 : String := "FollowedPeaks$Scene"
def TX3 : u_T := fun k => match k with
  | 0 => ("FollowedPeaks$Scene", "frames", "I", false)
  | 1 => ("FollowedPeaks$Scene", "places", "I", false)
  | 2 => ("FollowedPeaks$Scene", "settings", "[I", true)
  | _ => ("FollowedPeaks$Scene", "levels", "[I", true)
def tyX3 : Nat → FieldType := fun k => match k with
  | 0 => .int
  | 1 => .int
  | 2 => .array .int
  | _ => .array .int
abbrev wsX30 : List Cond := u_ws RX3 TX3 4
theorem nmX3 : ∀ a, a < 4 → ∀ b, b < 4 → a ≠ b → (TX3 a).2.1 ≠ (TX3 b).2.1 := by decide +kernel
theorem tyX3_ok : ∀ k, k < 4 → parseFieldDescriptor (TX3 k).2.2.1 = some (tyX3 k) := by decide +kernel
abbrev cX3_init : ByteArray := prog_5_method_1_code
def yX3_init : MethodName := ⟨RX3, "<init>", "()V"⟩
abbrev cX3_makeFirst : ByteArray := prog_5_method_2_code
def yX3_makeFirst : MethodName := ⟨RX3, "makeFirst", "()V"⟩
abbrev cX3_makeEmpty : ByteArray := prog_5_method_3_code
def yX3_makeEmpty : MethodName := ⟨RX3, "makeEmpty", "()V"⟩
abbrev cX3_takeFrom : ByteArray := prog_5_method_4_code
def yX3_takeFrom : MethodName := ⟨RX3, "takeFrom", "(LFollowedPeaks$Scene;)V"⟩
abbrev cX3_hasFrame : ByteArray := prog_5_method_5_code
def yX3_hasFrame : MethodName := ⟨RX3, "hasFrame", "(I)Z"⟩
abbrev cX3_hasPlace : ByteArray := prog_5_method_6_code
def yX3_hasPlace : MethodName := ⟨RX3, "hasPlace", "(II)Z"⟩
abbrev cX3_levelAt : ByteArray := prog_5_method_7_code
def yX3_levelAt : MethodName := ⟨RX3, "levelAt", "(II)I"⟩
abbrev cX3_putLevel : ByteArray := prog_5_method_8_code
def yX3_putLevel : MethodName := ⟨RX3, "putLevel", "(III)V"⟩
def RX4 : String := "FollowedPeaks$Seen"
def TX4 : u_T := fun k => match k with
  | 0 => ("FollowedPeaks$Seen", "many", "I", false)
  | 1 => ("FollowedPeaks$Seen", "frames", "[I", true)
  | 2 => ("FollowedPeaks$Seen", "pitches", "[I", true)
  | 3 => ("FollowedPeaks$Seen", "possible", "I", false)
  | 4 => ("FollowedPeaks$Seen", "candidates", "[I", true)
  | _ => ("FollowedPeaks$Seen", "tallies", "[I", true)
def tyX4 : Nat → FieldType := fun k => match k with
  | 0 => .int
  | 1 => .array .int
  | 2 => .array .int
  | 3 => .int
  | 4 => .array .int
  | _ => .array .int
abbrev wsX40 : List Cond := u_ws RX4 TX4 6
theorem nmX4 : ∀ a, a < 6 → ∀ b, b < 6 → a ≠ b → (TX4 a).2.1 ≠ (TX4 b).2.1 := by decide +kernel
theorem tyX4_ok : ∀ k, k < 6 → parseFieldDescriptor (TX4 k).2.2.1 = some (tyX4 k) := by decide +kernel
abbrev cX4_init : ByteArray := prog_6_method_1_code
def yX4_init : MethodName := ⟨RX4, "<init>", "()V"⟩
abbrev cX4_append : ByteArray := prog_6_method_2_code
def yX4_append : MethodName := ⟨RX4, "append", "(II)V"⟩
abbrev cX4_gather : ByteArray := prog_6_method_3_code
def yX4_gather : MethodName := ⟨RX4, "gather", "(LFollowedPeaks$Tracks;)V"⟩
abbrev cX4_fits : ByteArray := prog_6_method_4_code
def yX4_fits : MethodName := ⟨RX4, "fits", "(LFollowedPeaks$Tracks;I)Z"⟩
abbrev cX4_mostAlike : ByteArray := prog_6_method_5_code
def yX4_mostAlike : MethodName := ⟨RX4, "mostAlike", "(LFollowedPeaks$Tracks;I)I"⟩
def RX5 : String := "FollowedPeaks$Text"
def TX5 : u_T := fun k => match k with
  | 0 => ("FollowedPeaks$Text", "length", "I", false)
  | 1 => ("FollowedPeaks$Text", "letters", "[C", true)
  | 2 => ("FollowedPeaks$Text", "kind", "I", false)
  | 3 => ("FollowedPeaks$Text", "start", "I", false)
  | _ => ("FollowedPeaks$Text", "end", "I", false)
def tyX5 : Nat → FieldType := fun k => match k with
  | 0 => .int
  | 1 => .array .char
  | 2 => .int
  | 3 => .int
  | _ => .int
abbrev wsX50 : List Cond := u_ws RX5 TX5 5
theorem nmX5 : ∀ a, a < 5 → ∀ b, b < 5 → a ≠ b → (TX5 a).2.1 ≠ (TX5 b).2.1 := by decide +kernel
theorem tyX5_ok : ∀ k, k < 5 → parseFieldDescriptor (TX5 k).2.2.1 = some (tyX5 k) := by decide +kernel
abbrev cX5_init : ByteArray := prog_7_method_1_code
def yX5_init : MethodName := ⟨RX5, "<init>", "()V"⟩
abbrev cX5_append : ByteArray := prog_7_method_2_code
def yX5_append : MethodName := ⟨RX5, "append", "(C)V"⟩
abbrev cX5_readAll : ByteArray := prog_7_method_3_code
def yX5_readAll : MethodName := ⟨RX5, "readAll", "(LFollowedPeaks$Scene;)I"⟩
abbrev cX5_readItem : ByteArray := prog_7_method_4_code
def yX5_readItem : MethodName := ⟨RX5, "readItem", "(LFollowedPeaks$Scene;)Z"⟩
abbrev cX5_readFrame : ByteArray := prog_7_method_5_code
def yX5_readFrame : MethodName := ⟨RX5, "readFrame", "(LFollowedPeaks$Scene;)Z"⟩
abbrev cX5_readSetting : ByteArray := prog_7_method_6_code
def yX5_readSetting : MethodName := ⟨RX5, "readSetting", "(LFollowedPeaks$Scene;I)Z"⟩
abbrev cX5_namedSetting : ByteArray := prog_7_method_7_code
def yX5_namedSetting : MethodName := ⟨RX5, "namedSetting", "()I"⟩
abbrev cX5_nextToken : ByteArray := prog_7_method_8_code
def yX5_nextToken : MethodName := ⟨RX5, "nextToken", "()V"⟩
abbrev cX5_kindAt : ByteArray := prog_7_method_9_code
def yX5_kindAt : MethodName := ⟨RX5, "kindAt", "(I)I"⟩
abbrev cX5_figureAt : ByteArray := prog_7_method_10_code
def yX5_figureAt : MethodName := ⟨RX5, "figureAt", "(I)I"⟩
abbrev cX5_isWord : ByteArray := prog_7_method_11_code
def yX5_isWord : MethodName := ⟨RX5, "isWord", "(Ljava/lang/String;)Z"⟩
def RX6 : String := "FollowedPeaks$Tracks"
def TX6 : u_T := fun k => match k with
  | 0 => ("FollowedPeaks$Tracks", "many", "I", false)
  | 1 => ("FollowedPeaks$Tracks", "born", "[I", true)
  | 2 => ("FollowedPeaks$Tracks", "lengths", "[I", true)
  | 3 => ("FollowedPeaks$Tracks", "depths", "[I", true)
  | 4 => ("FollowedPeaks$Tracks", "turns", "[I", true)
  | 5 => ("FollowedPeaks$Tracks", "kinds", "[I", true)
  | 6 => ("FollowedPeaks$Tracks", "louds", "[I", true)
  | 7 => ("FollowedPeaks$Tracks", "pitches", "[I", true)
  | 8 => ("FollowedPeaks$Tracks", "ofPeak", "[I", true)
  | _ => ("FollowedPeaks$Tracks", "nextPeak", "[I", true)
def tyX6 : Nat → FieldType := fun k => match k with
  | 0 => .int
  | 1 => .array .int
  | 2 => .array .int
  | 3 => .array .int
  | 4 => .array .int
  | 5 => .array .int
  | 6 => .array .int
  | 7 => .array .int
  | 8 => .array .int
  | _ => .array .int
abbrev wsX60 : List Cond := u_ws RX6 TX6 10
theorem nmX6 : ∀ a, a < 10 → ∀ b, b < 10 → a ≠ b → (TX6 a).2.1 ≠ (TX6 b).2.1 := by decide +kernel
theorem tyX6_ok : ∀ k, k < 10 → parseFieldDescriptor (TX6 k).2.2.1 = some (tyX6 k) := by decide +kernel
abbrev cX6_init : ByteArray := prog_8_method_1_code
def yX6_init : MethodName := ⟨RX6, "<init>", "()V"⟩
abbrev cX6_follow : ByteArray := prog_8_method_2_code
def yX6_follow : MethodName := ⟨RX6, "follow", "(LFollowedPeaks$Peaks;LFollowedPeaks$Joiner;I)V"⟩
abbrev cX6_begin : ByteArray := prog_8_method_3_code
def yX6_begin : MethodName := ⟨RX6, "begin", "(II)V"⟩
abbrev cX6_addPeak : ByteArray := prog_8_method_4_code
def yX6_addPeak : MethodName := ⟨RX6, "addPeak", "(LFollowedPeaks$Peaks;II)V"⟩
abbrev cX6_measure : ByteArray := prog_8_method_5_code
def yX6_measure : MethodName := ⟨RX6, "measure", "(I)V"⟩
abbrev cX6_kindBy : ByteArray := prog_8_method_6_code
def yX6_kindBy : MethodName := ⟨RX6, "kindBy", "(III)I"⟩
abbrev cX6_worthOf : ByteArray := prog_8_method_7_code
def yX6_worthOf : MethodName := ⟨RX6, "worthOf", "(I)I"⟩
abbrev cX6_pitchIn : ByteArray := prog_8_method_8_code
def yX6_pitchIn : MethodName := ⟨RX6, "pitchIn", "(II)I"⟩
abbrev cX6_bornIn : ByteArray := prog_8_method_9_code
def yX6_bornIn : MethodName := ⟨RX6, "bornIn", "(I)I"⟩
abbrev cX6_endingIn : ByteArray := prog_8_method_10_code
def yX6_endingIn : MethodName := ⟨RX6, "endingIn", "(I)I"⟩
abbrev cX6_longest : ByteArray := prog_8_method_11_code
def yX6_longest : MethodName := ⟨RX6, "longest", "()I"⟩
def RX7 : String := "FollowedPeaks"
def TX7 : u_T := fun k => match k with
  | 0 => ("FollowedPeaks", "scene", "LFollowedPeaks$Scene;", true)
  | 1 => ("FollowedPeaks", "draft", "LFollowedPeaks$Scene;", true)
  | 2 => ("FollowedPeaks", "text", "LFollowedPeaks$Text;", true)
  | 3 => ("FollowedPeaks", "history", "LFollowedPeaks$History;", true)
  | 4 => ("FollowedPeaks", "images", "[LFollowedPeaks$Scene;", true)
  | 5 => ("FollowedPeaks", "imageKept", "[Z", true)
  | 6 => ("FollowedPeaks", "peaks", "LFollowedPeaks$Peaks;", true)
  | 7 => ("FollowedPeaks", "joiner", "LFollowedPeaks$Joiner;", true)
  | 8 => ("FollowedPeaks", "tracks", "LFollowedPeaks$Tracks;", true)
  | 9 => ("FollowedPeaks", "seen", "LFollowedPeaks$Seen;", true)
  | 10 => ("FollowedPeaks", "bestReach", "I", false)
  | _ => ("FollowedPeaks", "fewestTracks", "I", false)
def tyX7 : Nat → FieldType := fun k => match k with
  | 0 => .object "FollowedPeaks$Scene"
  | 1 => .object "FollowedPeaks$Scene"
  | 2 => .object "FollowedPeaks$Text"
  | 3 => .object "FollowedPeaks$History"
  | 4 => .array (.object "FollowedPeaks$Scene")
  | 5 => .array .boolean
  | 6 => .object "FollowedPeaks$Peaks"
  | 7 => .object "FollowedPeaks$Joiner"
  | 8 => .object "FollowedPeaks$Tracks"
  | 9 => .object "FollowedPeaks$Seen"
  | 10 => .int
  | _ => .int
abbrev wsX70 : List Cond := u_ws RX7 TX7 12
theorem nmX7 : ∀ a, a < 12 → ∀ b, b < 12 → a ≠ b → (TX7 a).2.1 ≠ (TX7 b).2.1 := by decide +kernel
theorem tyX7_ok : ∀ k, k < 12 → parseFieldDescriptor (TX7 k).2.2.1 = some (tyX7 k) := by decide +kernel
abbrev cX7_init : ByteArray := prog_1_method_1_code
def yX7_init : MethodName := ⟨RX7, "<init>", "()V"⟩
abbrev cX7_type : ByteArray := prog_1_method_2_code
def yX7_type : MethodName := ⟨RX7, "type", "(I)I"⟩
abbrev cX7_clear : ByteArray := prog_1_method_3_code
def yX7_clear : MethodName := ⟨RX7, "clear", "()I"⟩
abbrev cX7_tells : ByteArray := prog_1_method_4_code
def yX7_tells : MethodName := ⟨RX7, "tells", "()I"⟩
abbrev cX7_levels : ByteArray := prog_1_method_5_code
def yX7_levels : MethodName := ⟨RX7, "levels", "(III)I"⟩
abbrev cX7_sets : ByteArray := prog_1_method_6_code
def yX7_sets : MethodName := ⟨RX7, "sets", "(II)I"⟩
abbrev cX7_undo : ByteArray := prog_1_method_7_code
def yX7_undo : MethodName := ⟨RX7, "undo", "()I"⟩
abbrev cX7_level : ByteArray := prog_1_method_8_code
def yX7_level : MethodName := ⟨RX7, "level", "(II)I"⟩
abbrev cX7_peak : ByteArray := prog_1_method_9_code
def yX7_peak : MethodName := ⟨RX7, "peak", "(III)I"⟩
abbrev cX7_frame : ByteArray := prog_1_method_10_code
def yX7_frame : MethodName := ⟨RX7, "frame", "(II)I"⟩
abbrev cX7_track : ByteArray := prog_1_method_11_code
def yX7_track : MethodName := ⟨RX7, "track", "(II)I"⟩
abbrev cX7_pitch : ByteArray := prog_1_method_12_code
def yX7_pitch : MethodName := ⟨RX7, "pitch", "(II)I"⟩
abbrev cX7_best : ByteArray := prog_1_method_13_code
def yX7_best : MethodName := ⟨RX7, "best", "(I)I"⟩
abbrev cX7_sees : ByteArray := prog_1_method_14_code
def yX7_sees : MethodName := ⟨RX7, "sees", "(II)I"⟩
abbrev cX7_forget : ByteArray := prog_1_method_15_code
def yX7_forget : MethodName := ⟨RX7, "forget", "()I"⟩
abbrev cX7_which : ByteArray := prog_1_method_16_code
def yX7_which : MethodName := ⟨RX7, "which", "(I)I"⟩
abbrev cX7_listen : ByteArray := prog_1_method_17_code
def yX7_listen : MethodName := ⟨RX7, "listen", "()I"⟩
abbrev cX7_keep : ByteArray := prog_1_method_18_code
def yX7_keep : MethodName := ⟨RX7, "keep", "(I)I"⟩
abbrev cX7_back : ByteArray := prog_1_method_19_code
def yX7_back : MethodName := ⟨RX7, "back", "(I)I"⟩
abbrev cX7_count : ByteArray := prog_1_method_20_code
def yX7_count : MethodName := ⟨RX7, "count", "(I)I"⟩
abbrev cX7_followAnew : ByteArray := prog_1_method_21_code
def yX7_followAnew : MethodName := ⟨RX7, "followAnew", "()V"⟩
abbrev cX7_isSetting : ByteArray := prog_1_method_22_code
def yX7_isSetting : MethodName := ⟨RX7, "isSetting", "(II)Z"⟩
abbrev cX7_isKept : ByteArray := prog_1_method_23_code
def yX7_isKept : MethodName := ⟨RX7, "isKept", "(I)Z"⟩
abbrev cX7_keptTracks : ByteArray := prog_1_method_24_code
def yX7_keptTracks : MethodName := ⟨RX7, "keptTracks", "()I"⟩
abbrev cX7_loudTogether : ByteArray := prog_1_method_25_code
def yX7_loudTogether : MethodName := ⟨RX7, "loudTogether", "(IZ)I"⟩
abbrev cX7_tracksByReach : ByteArray := prog_1_method_26_code
def yX7_tracksByReach : MethodName := ⟨RX7, "tracksByReach", "(I)I"⟩
def RX8 : String := "FollowedPeaksModel"
def TX8 : u_T := fun k => match k with
  | 0 => ("FollowedPeaksModel", "thrown", "I", false)
  | 1 => ("FollowedPeaksModel", "s", "[I", true)
  | 2 => ("FollowedPeaksModel", "draft", "[I", true)
  | 3 => ("FollowedPeaksModel", "past", "[I", true)
  | 4 => ("FollowedPeaksModel", "undos", "I", false)
  | 5 => ("FollowedPeaksModel", "kept", "[I", true)
  | 6 => ("FollowedPeaksModel", "isKept", "[Z", true)
  | 7 => ("FollowedPeaksModel", "facts", "[I", true)
  | 8 => ("FollowedPeaksModel", "manyFacts", "I", false)
  | 9 => ("FollowedPeaksModel", "text", "[B", true)
  | 10 => ("FollowedPeaksModel", "typed", "I", false)
  | 11 => ("FollowedPeaksModel", "from", "I", false)
  | 12 => ("FollowedPeaksModel", "to", "I", false)
  | 13 => ("FollowedPeaksModel", "token", "I", false)
  | 14 => ("FollowedPeaksModel", "fault", "I", false)
  | 15 => ("FollowedPeaksModel", "peaks", "[I", true)
  | 16 => ("FollowedPeaksModel", "placeOf", "[I", true)
  | 17 => ("FollowedPeaksModel", "partner", "[I", true)
  | 18 => ("FollowedPeaksModel", "trackOf", "[I", true)
  | 19 => ("FollowedPeaksModel", "tracks", "I", false)
  | 20 => ("FollowedPeaksModel", "worth", "[I", true)
  | 21 => ("FollowedPeaksModel", "stepsMany", "I", false)
  | _ => ("FollowedPeaksModel", "turnsMany", "I", false)
def tyX8 : Nat → FieldType := fun k => match k with
  | 0 => .int
  | 1 => .array .int
  | 2 => .array .int
  | 3 => .array .int
  | 4 => .int
  | 5 => .array .int
  | 6 => .array .boolean
  | 7 => .array .int
  | 8 => .int
  | 9 => .array .byte
  | 10 => .int
  | 11 => .int
  | 12 => .int
  | 13 => .int
  | 14 => .int
  | 15 => .array .int
  | 16 => .array .int
  | 17 => .array .int
  | 18 => .array .int
  | 19 => .int
  | 20 => .array .int
  | 21 => .int
  | _ => .int
abbrev wsX80 : List Cond := u_ws RX8 TX8 23
theorem nmX8 : ∀ a, a < 23 → ∀ b, b < 23 → a ≠ b → (TX8 a).2.1 ≠ (TX8 b).2.1 := by decide +kernel
theorem tyX8_ok : ∀ k, k < 23 → parseFieldDescriptor (TX8 k).2.2.1 = some (tyX8 k) := by decide +kernel
abbrev cX8_init : ByteArray := prog_10_method_1_code
def yX8_init : MethodName := ⟨RX8, "<init>", "()V"⟩
abbrev cX8_plain : ByteArray := prog_10_method_2_code
def yX8_plain : MethodName := ⟨RX8, "plain", "([I)V"⟩
abbrev cX8_in : ByteArray := prog_10_method_4_code
def yX8_in : MethodName := ⟨RX8, "in", "(III)Z"⟩
abbrev cX8_type : ByteArray := prog_10_method_5_code
def yX8_type : MethodName := ⟨RX8, "type", "(I)I"⟩
abbrev cX8_clear : ByteArray := prog_10_method_6_code
def yX8_clear : MethodName := ⟨RX8, "clear", "()I"⟩
abbrev cX8_at : ByteArray := prog_10_method_7_code
def yX8_at : MethodName := ⟨RX8, "at", "(I)I"⟩
abbrev cX8_isWord : ByteArray := prog_10_method_8_code
def yX8_isWord : MethodName := ⟨RX8, "isWord", "(IIIII)Z"⟩
abbrev cX8_wordOf : ByteArray := prog_10_method_9_code
def yX8_wordOf : MethodName := ⟨RX8, "wordOf", "()I"⟩
abbrev cX8_steps : ByteArray := prog_10_method_10_code
def yX8_steps : MethodName := ⟨RX8, "steps", "()V"⟩
abbrev cX8_takes : ByteArray := prog_10_method_11_code
def yX8_takes : MethodName := ⟨RX8, "takes", "(Z)V"⟩
abbrev cX8_readsFrame : ByteArray := prog_10_method_12_code
def yX8_readsFrame : MethodName := ⟨RX8, "readsFrame", "()V"⟩
abbrev cX8_readsNumber : ByteArray := prog_10_method_13_code
def yX8_readsNumber : MethodName := ⟨RX8, "readsNumber", "(III)V"⟩
abbrev cX8_reads : ByteArray := prog_10_method_14_code
def yX8_reads : MethodName := ⟨RX8, "reads", "()I"⟩
abbrev cX8_tells : ByteArray := prog_10_method_15_code
def yX8_tells : MethodName := ⟨RX8, "tells", "()I"⟩
abbrev cX8_notes : ByteArray := prog_10_method_16_code
def yX8_notes : MethodName := ⟨RX8, "notes", "()V"⟩
abbrev cX8_becomes : ByteArray := prog_10_method_17_code
def yX8_becomes : MethodName := ⟨RX8, "becomes", "(II)I"⟩
abbrev cX8_isPlace : ByteArray := prog_10_method_18_code
def yX8_isPlace : MethodName := ⟨RX8, "isPlace", "(II)Z"⟩
abbrev cX8_levels : ByteArray := prog_10_method_19_code
def yX8_levels : MethodName := ⟨RX8, "levels", "(III)I"⟩
abbrev cX8_sets : ByteArray := prog_10_method_20_code
def yX8_sets : MethodName := ⟨RX8, "sets", "(II)I"⟩
abbrev cX8_undo : ByteArray := prog_10_method_21_code
def yX8_undo : MethodName := ⟨RX8, "undo", "()I"⟩
abbrev cX8_levelAt : ByteArray := prog_10_method_22_code
def yX8_levelAt : MethodName := ⟨RX8, "levelAt", "(II)I"⟩
abbrev cX8_laysPeaks : ByteArray := prog_10_method_23_code
def yX8_laysPeaks : MethodName := ⟨RX8, "laysPeaks", "()V"⟩
abbrev cX8_pitchOf : ByteArray := prog_10_method_24_code
def yX8_pitchOf : MethodName := ⟨RX8, "pitchOf", "(II)I"⟩
abbrev cX8_loudOf : ByteArray := prog_10_method_25_code
def yX8_loudOf : MethodName := ⟨RX8, "loudOf", "(II)I"⟩
abbrev cX8_apart : ByteArray := prog_10_method_26_code
def yX8_apart : MethodName := ⟨RX8, "apart", "(III)I"⟩
abbrev cX8_worthOf : ByteArray := prog_10_method_27_code
def yX8_worthOf : MethodName := ⟨RX8, "worthOf", "(II)I"⟩
abbrev cX8_pairWorth : ByteArray := prog_10_method_28_code
def yX8_pairWorth : MethodName := ⟨RX8, "pairWorth", "(IIII)I"⟩
abbrev cX8_laysWorth : ByteArray := prog_10_method_29_code
def yX8_laysWorth : MethodName := ⟨RX8, "laysWorth", "(II)V"⟩
abbrev cX8_joins : ByteArray := prog_10_method_30_code
def yX8_joins : MethodName := ⟨RX8, "joins", "(II)V"⟩
abbrev cX8_laysTracks : ByteArray := prog_10_method_31_code
def yX8_laysTracks : MethodName := ⟨RX8, "laysTracks", "(I)V"⟩
abbrev cX8_follows : ByteArray := prog_10_method_32_code
def yX8_follows : MethodName := ⟨RX8, "follows", "(II)V"⟩
abbrev cX8_lays : ByteArray := prog_10_method_33_code
def yX8_lays : MethodName := ⟨RX8, "lays", "()V"⟩
abbrev cX8_peakOf : ByteArray := prog_10_method_34_code
def yX8_peakOf : MethodName := ⟨RX8, "peakOf", "(II)I"⟩
abbrev cX8_bornOf : ByteArray := prog_10_method_35_code
def yX8_bornOf : MethodName := ⟨RX8, "bornOf", "(I)I"⟩
abbrev cX8_longOf : ByteArray := prog_10_method_36_code
def yX8_longOf : MethodName := ⟨RX8, "longOf", "(I)I"⟩
abbrev cX8_depthOf : ByteArray := prog_10_method_37_code
def yX8_depthOf : MethodName := ⟨RX8, "depthOf", "(I)I"⟩
abbrev cX8_laysSteps : ByteArray := prog_10_method_38_code
def yX8_laysSteps : MethodName := ⟨RX8, "laysSteps", "(I)V"⟩
abbrev cX8_turnsOf : ByteArray := prog_10_method_39_code
def yX8_turnsOf : MethodName := ⟨RX8, "turnsOf", "(I)I"⟩
abbrev cX8_kindOf : ByteArray := prog_10_method_40_code
def yX8_kindOf : MethodName := ⟨RX8, "kindOf", "(I)I"⟩
abbrev cX8_worthOfTrack : ByteArray := prog_10_method_41_code
def yX8_worthOfTrack : MethodName := ⟨RX8, "worthOfTrack", "(I)I"⟩
abbrev cX8_level : ByteArray := prog_10_method_42_code
def yX8_level : MethodName := ⟨RX8, "level", "(II)I"⟩
abbrev cX8_peak : ByteArray := prog_10_method_43_code
def yX8_peak : MethodName := ⟨RX8, "peak", "(III)I"⟩
abbrev cX8_sumOf : ByteArray := prog_10_method_44_code
def yX8_sumOf : MethodName := ⟨RX8, "sumOf", "(IZ)I"⟩
abbrev cX8_bornIn : ByteArray := prog_10_method_45_code
def yX8_bornIn : MethodName := ⟨RX8, "bornIn", "(IZ)I"⟩
abbrev cX8_frame : ByteArray := prog_10_method_46_code
def yX8_frame : MethodName := ⟨RX8, "frame", "(II)I"⟩
abbrev cX8_track : ByteArray := prog_10_method_47_code
def yX8_track : MethodName := ⟨RX8, "track", "(II)I"⟩
abbrev cX8_pitchIn : ByteArray := prog_10_method_48_code
def yX8_pitchIn : MethodName := ⟨RX8, "pitchIn", "(II)I"⟩
abbrev cX8_pitch : ByteArray := prog_10_method_49_code
def yX8_pitch : MethodName := ⟨RX8, "pitch", "(II)I"⟩
abbrev cX8_best : ByteArray := prog_10_method_50_code
def yX8_best : MethodName := ⟨RX8, "best", "(I)I"⟩
abbrev cX8_sees : ByteArray := prog_10_method_51_code
def yX8_sees : MethodName := ⟨RX8, "sees", "(II)I"⟩
abbrev cX8_forget : ByteArray := prog_10_method_52_code
def yX8_forget : MethodName := ⟨RX8, "forget", "()I"⟩
abbrev cX8_isSo : ByteArray := prog_10_method_53_code
def yX8_isSo : MethodName := ⟨RX8, "isSo", "(I)Z"⟩
abbrev cX8_which : ByteArray := prog_10_method_54_code
def yX8_which : MethodName := ⟨RX8, "which", "(I)I"⟩
abbrev cX8_mostAlike : ByteArray := prog_10_method_55_code
def yX8_mostAlike : MethodName := ⟨RX8, "mostAlike", "(I)I"⟩
abbrev cX8_listen : ByteArray := prog_10_method_56_code
def yX8_listen : MethodName := ⟨RX8, "listen", "()I"⟩
abbrev cX8_keep : ByteArray := prog_10_method_57_code
def yX8_keep : MethodName := ⟨RX8, "keep", "(I)I"⟩
abbrev cX8_back : ByteArray := prog_10_method_58_code
def yX8_back : MethodName := ⟨RX8, "back", "(I)I"⟩
abbrev cX8_tracksNow : ByteArray := prog_10_method_59_code
def yX8_tracksNow : MethodName := ⟨RX8, "tracksNow", "()I"⟩
abbrev cX8_keptMany : ByteArray := prog_10_method_60_code
def yX8_keptMany : MethodName := ⟨RX8, "keptMany", "()I"⟩
abbrev cX8_longest : ByteArray := prog_10_method_61_code
def yX8_longest : MethodName := ⟨RX8, "longest", "()I"⟩
abbrev cX8_count : ByteArray := prog_10_method_62_code
def yX8_count : MethodName := ⟨RX8, "count", "(I)I"⟩
def RJx145de : String := "java/io/Serializable"
def RJx9f9b0 : String := "java/lang/CharSequence"
def RJxb160c : String := "java/lang/Comparable"
def RJ6 : String := "java/lang/Integer"
abbrev cJ6_compare_7cf53 : ByteArray := prog_11_method_40_code
def yJ6_compare_7cf53 : MethodName := ⟨RJ6, "compare", "(II)I"⟩
def RJ9 : String := "java/lang/Math"
abbrev cJ9_abs_0f7a4 : ByteArray := prog_12_method_59_code
def yJ9_abs_0f7a4 : MethodName := ⟨RJ9, "abs", "(I)I"⟩
abbrev cJ9_max_7cf53 : ByteArray := prog_12_method_65_code
def yJ9_max_7cf53 : MethodName := ⟨RJ9, "max", "(II)I"⟩
abbrev cJ9_min_7cf53 : ByteArray := prog_12_method_69_code
def yJ9_min_7cf53 : MethodName := ⟨RJ9, "min", "(II)I"⟩
def RJ0 : String := "java/lang/String"
abbrev cJ0_length_8abf5 : ByteArray := prog_13_method_54_code
def yJ0_length_8abf5 : MethodName := ⟨RJ0, "length", "()I"⟩
abbrev cJ0_charAt_5068e : ByteArray := prog_13_method_56_code
def yJ0_charAt_5068e : MethodName := ⟨RJ0, "charAt", "(I)C"⟩
abbrev cJ0_coder_7d493 : ByteArray := prog_13_method_152_code
def yJ0_coder_7d493 : MethodName := ⟨RJ0, "coder", "()B"⟩
abbrev cJ0_isLatin1_aae02 : ByteArray := prog_13_method_154_code
def yJ0_isLatin1_aae02 : MethodName := ⟨RJ0, "isLatin1", "()Z"⟩
abbrev cJ0_checkIndex_df160 : ByteArray := prog_13_method_155_code
def yJ0_checkIndex_df160 : MethodName := ⟨RJ0, "checkIndex", "(II)V"⟩
def RJ1 : String := "java/lang/StringLatin1"
abbrev cJ1_charAt_3b067 : ByteArray := prog_14_method_2_code
def yJ1_charAt_3b067 : MethodName := ⟨RJ1, "charAt", "([BI)C"⟩
def RJ2 : String := "java/lang/StringUTF16"
abbrev cJ2_getChar_3b067 : ByteArray := prog_15_method_5_code
def yJ2_getChar_3b067 : MethodName := ⟨RJ2, "getChar", "([BI)C"⟩
abbrev cJ2_length_9d52b : ByteArray := prog_15_method_6_code
def yJ2_length_9d52b : MethodName := ⟨RJ2, "length", "([B)I"⟩
abbrev cJ2_charAt_3b067 : ByteArray := prog_15_method_83_code
def yJ2_charAt_3b067 : MethodName := ⟨RJ2, "charAt", "([BI)C"⟩
abbrev cJ2_checkIndex_2214a : ByteArray := prog_15_method_91_code
def yJ2_checkIndex_2214a : MethodName := ⟨RJ2, "checkIndex", "(I[B)V"⟩
def RJ10 : String := "java/lang/System"
def RJxfd54e : String := "java/lang/constant/Constable"
def RJx3cf43 : String := "java/lang/constant/ConstantDesc"
def RJ7 : String := "java/util/Arrays"
abbrev cJ7_fill_53178 : ByteArray := prog_17_method_103_code
def yJ7_fill_53178 : MethodName := ⟨RJ7, "fill", "([II)V"⟩
def RJ3 : String := "jdk/internal/util/Preconditions"
abbrev cJ3_checkIndex_8e157 : ByteArray := prog_18_method_11_code
def yJ3_checkIndex_8e157 : MethodName := ⟨RJ3, "checkIndex", "(IILjava/util/function/BiFunction;)I"⟩
def RL : String := "FollowedPeaksLaw"
abbrev cL_law : ByteArray := code
end
section
theorem dX0_init_0 : decode cX0_init 0 = .ok (.aload_n 0, 1) := by decide +kernel
theorem dX0_init_1 : decode cX0_init 1 = .ok (.invokespecial 3, 3) := by decide +kernel
theorem dX0_init_4 : decode cX0_init 4 = .ok (.aload_n 0, 1) := by decide +kernel
theorem dX0_init_5 : decode cX0_init 5 = .ok (.bipush 6, 2) := by decide +kernel
theorem dX0_init_7 : decode cX0_init 7 = .ok (.anewarray 9, 3) := by decide +kernel
theorem dX0_init_10 : decode cX0_init 10 = .ok (.putfield 11, 3) := by decide +kernel
theorem dX0_init_13 : decode cX0_init 13 = .ok (.iconst 0, 1) := by decide +kernel
theorem dX0_init_14 : decode cX0_init 14 = .ok (.istore_n 1, 1) := by decide +kernel
theorem dX0_init_15 : decode cX0_init 15 = .ok (.iload_n 1, 1) := by decide +kernel
theorem dX0_init_16 : decode cX0_init 16 = .ok (.bipush 6, 2) := by decide +kernel
theorem dX0_init_18 : decode cX0_init 18 = .ok (.if_icmp .ge 22, 3) := by decide +kernel
theorem dX0_init_21 : decode cX0_init 21 = .ok (.aload_n 0, 1) := by decide +kernel
theorem dX0_init_22 : decode cX0_init 22 = .ok (.getfield 11, 3) := by decide +kernel
theorem dX0_init_25 : decode cX0_init 25 = .ok (.iload_n 1, 1) := by decide +kernel
theorem dX0_init_26 : decode cX0_init 26 = .ok (.new 9, 3) := by decide +kernel
theorem dX0_init_29 : decode cX0_init 29 = .ok (.dup, 1) := by decide +kernel
theorem dX0_init_30 : decode cX0_init 30 = .ok (.invokespecial 17, 3) := by decide +kernel
theorem dX0_init_33 : decode cX0_init 33 = .ok (.aastore, 1) := by decide +kernel
theorem dX0_init_34 : decode cX0_init 34 = .ok (.iinc 1 1, 3) := by decide +kernel
theorem dX0_init_37 : decode cX0_init 37 = .ok (.goto (-22), 3) := by decide +kernel
theorem dX0_init_40 : decode cX0_init 40 = .ok (.return_, 1) := by decide +kernel
theorem dX0_remember_0 : decode cX0_remember 0 = .ok (.aload_n 0, 1) := by decide +kernel
theorem dX0_remember_1 : decode cX0_remember 1 = .ok (.getfield 18, 3) := by decide +kernel
theorem dX0_remember_4 : decode cX0_remember 4 = .ok (.bipush 6, 2) := by decide +kernel
theorem dX0_remember_6 : decode cX0_remember 6 = .ok (.if_icmp .lt 7, 3) := by decide +kernel
theorem dX0_remember_9 : decode cX0_remember 9 = .ok (.aload_n 0, 1) := by decide +kernel
theorem dX0_remember_10 : decode cX0_remember 10 = .ok (.invokevirtual 22, 3) := by decide +kernel
theorem dX0_remember_13 : decode cX0_remember 13 = .ok (.aload_n 0, 1) := by decide +kernel
theorem dX0_remember_14 : decode cX0_remember 14 = .ok (.getfield 11, 3) := by decide +kernel
theorem dX0_remember_17 : decode cX0_remember 17 = .ok (.aload_n 0, 1) := by decide +kernel
theorem dX0_remember_18 : decode cX0_remember 18 = .ok (.getfield 18, 3) := by decide +kernel
theorem dX0_remember_21 : decode cX0_remember 21 = .ok (.aaload, 1) := by decide +kernel
theorem dX0_remember_22 : decode cX0_remember 22 = .ok (.aload_n 1, 1) := by decide +kernel
theorem dX0_remember_23 : decode cX0_remember 23 = .ok (.invokevirtual 25, 3) := by decide +kernel
theorem dX0_remember_26 : decode cX0_remember 26 = .ok (.aload_n 0, 1) := by decide +kernel
theorem dX0_remember_27 : decode cX0_remember 27 = .ok (.dup, 1) := by decide +kernel
theorem dX0_remember_28 : decode cX0_remember 28 = .ok (.getfield 18, 3) := by decide +kernel
theorem dX0_remember_31 : decode cX0_remember 31 = .ok (.iconst 1, 1) := by decide +kernel
theorem dX0_remember_32 : decode cX0_remember 32 = .ok (.iadd, 1) := by decide +kernel
theorem dX0_remember_33 : decode cX0_remember 33 = .ok (.putfield 18, 3) := by decide +kernel
theorem dX0_remember_36 : decode cX0_remember 36 = .ok (.return_, 1) := by decide +kernel
theorem dX0_giveLatest_0 : decode cX0_giveLatest 0 = .ok (.aload_n 0, 1) := by decide +kernel
theorem dX0_giveLatest_1 : decode cX0_giveLatest 1 = .ok (.getfield 18, 3) := by decide +kernel
theorem dX0_giveLatest_4 : decode cX0_giveLatest 4 = .ok (.ifCond .le 26, 3) := by decide +kernel
theorem dX0_giveLatest_7 : decode cX0_giveLatest 7 = .ok (.aload_n 0, 1) := by decide +kernel
theorem dX0_giveLatest_8 : decode cX0_giveLatest 8 = .ok (.dup, 1) := by decide +kernel
theorem dX0_giveLatest_9 : decode cX0_giveLatest 9 = .ok (.getfield 18, 3) := by decide +kernel
theorem dX0_giveLatest_12 : decode cX0_giveLatest 12 = .ok (.iconst 1, 1) := by decide +kernel
theorem dX0_giveLatest_13 : decode cX0_giveLatest 13 = .ok (.isub, 1) := by decide +kernel
theorem dX0_giveLatest_14 : decode cX0_giveLatest 14 = .ok (.putfield 18, 3) := by decide +kernel
theorem dX0_giveLatest_17 : decode cX0_giveLatest 17 = .ok (.aload_n 1, 1) := by decide +kernel
theorem dX0_giveLatest_18 : decode cX0_giveLatest 18 = .ok (.aload_n 0, 1) := by decide +kernel
theorem dX0_giveLatest_19 : decode cX0_giveLatest 19 = .ok (.getfield 11, 3) := by decide +kernel
theorem dX0_giveLatest_22 : decode cX0_giveLatest 22 = .ok (.aload_n 0, 1) := by decide +kernel
theorem dX0_giveLatest_23 : decode cX0_giveLatest 23 = .ok (.getfield 18, 3) := by decide +kernel
theorem dX0_giveLatest_26 : decode cX0_giveLatest 26 = .ok (.aaload, 1) := by decide +kernel
theorem dX0_giveLatest_27 : decode cX0_giveLatest 27 = .ok (.invokevirtual 25, 3) := by decide +kernel
theorem dX0_giveLatest_30 : decode cX0_giveLatest 30 = .ok (.return_, 1) := by decide +kernel
theorem dX0_loseOldest_0 : decode cX0_loseOldest 0 = .ok (.aload_n 0, 1) := by decide +kernel
theorem dX0_loseOldest_1 : decode cX0_loseOldest 1 = .ok (.getfield 11, 3) := by decide +kernel
theorem dX0_loseOldest_4 : decode cX0_loseOldest 4 = .ok (.iconst 0, 1) := by decide +kernel
theorem dX0_loseOldest_5 : decode cX0_loseOldest 5 = .ok (.aaload, 1) := by decide +kernel
theorem dX0_loseOldest_6 : decode cX0_loseOldest 6 = .ok (.astore_n 1, 1) := by decide +kernel
theorem dX0_loseOldest_7 : decode cX0_loseOldest 7 = .ok (.iconst 1, 1) := by decide +kernel
theorem dX0_loseOldest_8 : decode cX0_loseOldest 8 = .ok (.istore_n 2, 1) := by decide +kernel
theorem dX0_loseOldest_9 : decode cX0_loseOldest 9 = .ok (.iload_n 2, 1) := by decide +kernel
theorem dX0_loseOldest_10 : decode cX0_loseOldest 10 = .ok (.bipush 6, 2) := by decide +kernel
theorem dX0_loseOldest_12 : decode cX0_loseOldest 12 = .ok (.if_icmp .ge 23, 3) := by decide +kernel
theorem dX0_loseOldest_15 : decode cX0_loseOldest 15 = .ok (.aload_n 0, 1) := by decide +kernel
theorem dX0_loseOldest_16 : decode cX0_loseOldest 16 = .ok (.getfield 11, 3) := by decide +kernel
theorem dX0_loseOldest_19 : decode cX0_loseOldest 19 = .ok (.iload_n 2, 1) := by decide +kernel
theorem dX0_loseOldest_20 : decode cX0_loseOldest 20 = .ok (.iconst 1, 1) := by decide +kernel
theorem dX0_loseOldest_21 : decode cX0_loseOldest 21 = .ok (.isub, 1) := by decide +kernel
theorem dX0_loseOldest_22 : decode cX0_loseOldest 22 = .ok (.aload_n 0, 1) := by decide +kernel
theorem dX0_loseOldest_23 : decode cX0_loseOldest 23 = .ok (.getfield 11, 3) := by decide +kernel
theorem dX0_loseOldest_26 : decode cX0_loseOldest 26 = .ok (.iload_n 2, 1) := by decide +kernel
theorem dX0_loseOldest_27 : decode cX0_loseOldest 27 = .ok (.aaload, 1) := by decide +kernel
theorem dX0_loseOldest_28 : decode cX0_loseOldest 28 = .ok (.aastore, 1) := by decide +kernel
theorem dX0_loseOldest_29 : decode cX0_loseOldest 29 = .ok (.iinc 2 1, 3) := by decide +kernel
theorem dX0_loseOldest_32 : decode cX0_loseOldest 32 = .ok (.goto (-23), 3) := by decide +kernel
theorem dX0_loseOldest_35 : decode cX0_loseOldest 35 = .ok (.aload_n 0, 1) := by decide +kernel
theorem dX0_loseOldest_36 : decode cX0_loseOldest 36 = .ok (.getfield 11, 3) := by decide +kernel
theorem dX0_loseOldest_39 : decode cX0_loseOldest 39 = .ok (.iconst 5, 1) := by decide +kernel
theorem dX0_loseOldest_40 : decode cX0_loseOldest 40 = .ok (.aload_n 1, 1) := by decide +kernel
theorem dX0_loseOldest_41 : decode cX0_loseOldest 41 = .ok (.aastore, 1) := by decide +kernel
theorem dX0_loseOldest_42 : decode cX0_loseOldest 42 = .ok (.aload_n 0, 1) := by decide +kernel
theorem dX0_loseOldest_43 : decode cX0_loseOldest 43 = .ok (.iconst 5, 1) := by decide +kernel
theorem dX0_loseOldest_44 : decode cX0_loseOldest 44 = .ok (.putfield 18, 3) := by decide +kernel
theorem dX0_loseOldest_47 : decode cX0_loseOldest 47 = .ok (.return_, 1) := by decide +kernel
theorem dX1_init_0 : decode cX1_init 0 = .ok (.aload_n 0, 1) := by decide +kernel
theorem dX1_init_1 : decode cX1_init 1 = .ok (.invokespecial 3, 3) := by decide +kernel
theorem dX1_init_4 : decode cX1_init 4 = .ok (.aload_n 0, 1) := by decide +kernel
theorem dX1_init_5 : decode cX1_init 5 = .ok (.bipush 6, 2) := by decide +kernel
theorem dX1_init_7 : decode cX1_init 7 = .ok (.newarray .int, 2) := by decide +kernel
theorem dX1_init_9 : decode cX1_init 9 = .ok (.putfield 9, 3) := by decide +kernel
theorem dX1_init_12 : decode cX1_init 12 = .ok (.aload_n 0, 1) := by decide +kernel
theorem dX1_init_13 : decode cX1_init 13 = .ok (.bipush 6, 2) := by decide +kernel
theorem dX1_init_15 : decode cX1_init 15 = .ok (.newarray .int, 2) := by decide +kernel
theorem dX1_init_17 : decode cX1_init 17 = .ok (.putfield 15, 3) := by decide +kernel
theorem dX1_init_20 : decode cX1_init 20 = .ok (.aload_n 0, 1) := by decide +kernel
theorem dX1_init_21 : decode cX1_init 21 = .ok (.bipush 6, 2) := by decide +kernel
theorem dX1_init_23 : decode cX1_init 23 = .ok (.newarray .int, 2) := by decide +kernel
theorem dX1_init_25 : decode cX1_init 25 = .ok (.putfield 18, 3) := by decide +kernel
theorem dX1_init_28 : decode cX1_init 28 = .ok (.aload_n 0, 1) := by decide +kernel
theorem dX1_init_29 : decode cX1_init 29 = .ok (.bipush 49, 2) := by decide +kernel
theorem dX1_init_31 : decode cX1_init 31 = .ok (.newarray .int, 2) := by decide +kernel
theorem dX1_init_33 : decode cX1_init 33 = .ok (.putfield 21, 3) := by decide +kernel
theorem dX1_init_36 : decode cX1_init 36 = .ok (.return_, 1) := by decide +kernel
theorem dX1_join_0 : decode cX1_join 0 = .ok (.aload_n 0, 1) := by decide +kernel
theorem dX1_join_1 : decode cX1_join 1 = .ok (.iload_n 3, 1) := by decide +kernel
theorem dX1_join_2 : decode cX1_join 2 = .ok (.putfield 24, 3) := by decide +kernel
theorem dX1_join_5 : decode cX1_join 5 = .ok (.aload_n 0, 1) := by decide +kernel
theorem dX1_join_6 : decode cX1_join 6 = .ok (.aload_n 1, 1) := by decide +kernel
theorem dX1_join_7 : decode cX1_join 7 = .ok (.iload_n 2, 1) := by decide +kernel
theorem dX1_join_8 : decode cX1_join 8 = .ok (.aload_n 0, 1) := by decide +kernel
theorem dX1_join_9 : decode cX1_join 9 = .ok (.getfield 15, 3) := by decide +kernel
theorem dX1_join_12 : decode cX1_join 12 = .ok (.invokestatic 28, 3) := by decide +kernel
theorem dX1_join_15 : decode cX1_join 15 = .ok (.putfield 32, 3) := by decide +kernel
theorem dX1_join_18 : decode cX1_join 18 = .ok (.aload_n 0, 1) := by decide +kernel
theorem dX1_join_19 : decode cX1_join 19 = .ok (.aload_n 1, 1) := by decide +kernel
theorem dX1_join_20 : decode cX1_join 20 = .ok (.iload_n 2, 1) := by decide +kernel
theorem dX1_join_21 : decode cX1_join 21 = .ok (.iconst 1, 1) := by decide +kernel
theorem dX1_join_22 : decode cX1_join 22 = .ok (.iadd, 1) := by decide +kernel
theorem dX1_join_23 : decode cX1_join 23 = .ok (.aload_n 0, 1) := by decide +kernel
theorem dX1_join_24 : decode cX1_join 24 = .ok (.getfield 18, 3) := by decide +kernel
theorem dX1_join_27 : decode cX1_join 27 = .ok (.invokestatic 28, 3) := by decide +kernel
theorem dX1_join_30 : decode cX1_join 30 = .ok (.putfield 35, 3) := by decide +kernel
theorem dX1_join_33 : decode cX1_join 33 = .ok (.aload_n 0, 1) := by decide +kernel
theorem dX1_join_34 : decode cX1_join 34 = .ok (.invokevirtual 38, 3) := by decide +kernel
theorem dX1_join_37 : decode cX1_join 37 = .ok (.aload_n 0, 1) := by decide +kernel
theorem dX1_join_38 : decode cX1_join 38 = .ok (.invokevirtual 41, 3) := by decide +kernel
theorem dX1_join_41 : decode cX1_join 41 = .ok (.ireturn, 1) := by decide +kernel
theorem dX1_copyPitches_0 : decode cX1_copyPitches 0 = .ok (.iload_n 1, 1) := by decide +kernel
theorem dX1_copyPitches_1 : decode cX1_copyPitches 1 = .ok (.ifCond .lt 9, 3) := by decide +kernel
theorem dX1_copyPitches_4 : decode cX1_copyPitches 4 = .ok (.iload_n 1, 1) := by decide +kernel
theorem dX1_copyPitches_5 : decode cX1_copyPitches 5 = .ok (.bipush 8, 2) := by decide +kernel
theorem dX1_copyPitches_7 : decode cX1_copyPitches 7 = .ok (.if_icmp .lt 5, 3) := by decide +kernel
theorem dX1_copyPitches_10 : decode cX1_copyPitches 10 = .ok (.iconst 0, 1) := by decide +kernel
theorem dX1_copyPitches_11 : decode cX1_copyPitches 11 = .ok (.ireturn, 1) := by decide +kernel
theorem dX1_copyPitches_12 : decode cX1_copyPitches 12 = .ok (.aload_n 0, 1) := by decide +kernel
theorem dX1_copyPitches_13 : decode cX1_copyPitches 13 = .ok (.getfield 45, 3) := by decide +kernel
theorem dX1_copyPitches_16 : decode cX1_copyPitches 16 = .ok (.iload_n 1, 1) := by decide +kernel
theorem dX1_copyPitches_17 : decode cX1_copyPitches 17 = .ok (.iaload, 1) := by decide +kernel
theorem dX1_copyPitches_18 : decode cX1_copyPitches 18 = .ok (.istore_n 3, 1) := by decide +kernel
theorem dX1_copyPitches_19 : decode cX1_copyPitches 19 = .ok (.aload_n 0, 1) := by decide +kernel
theorem dX1_copyPitches_20 : decode cX1_copyPitches 20 = .ok (.getfield 50, 3) := by decide +kernel
theorem dX1_copyPitches_23 : decode cX1_copyPitches 23 = .ok (.iload_n 1, 1) := by decide +kernel
theorem dX1_copyPitches_24 : decode cX1_copyPitches 24 = .ok (.bipush 6, 2) := by decide +kernel
theorem dX1_copyPitches_26 : decode cX1_copyPitches 26 = .ok (.imul, 1) := by decide +kernel
theorem dX1_copyPitches_27 : decode cX1_copyPitches 27 = .ok (.aload_n 2, 1) := by decide +kernel
theorem dX1_copyPitches_28 : decode cX1_copyPitches 28 = .ok (.iconst 0, 1) := by decide +kernel
theorem dX1_copyPitches_29 : decode cX1_copyPitches 29 = .ok (.iload_n 3, 1) := by decide +kernel
theorem dX1_copyPitches_30 : decode cX1_copyPitches 30 = .ok (.invokestatic 53, 3) := by decide +kernel
theorem dX1_copyPitches_33 : decode cX1_copyPitches 33 = .ok (.iload_n 3, 1) := by decide +kernel
theorem dX1_copyPitches_34 : decode cX1_copyPitches 34 = .ok (.ireturn, 1) := by decide +kernel
theorem dX1_scoreAll_0 : decode cX1_scoreAll 0 = .ok (.aload_n 0, 1) := by decide +kernel
theorem dX1_scoreAll_1 : decode cX1_scoreAll 1 = .ok (.getfield 21, 3) := by decide +kernel
theorem dX1_scoreAll_4 : decode cX1_scoreAll 4 = .ok (.iconst 0, 1) := by decide +kernel
theorem dX1_scoreAll_5 : decode cX1_scoreAll 5 = .ok (.invokestatic 59, 3) := by decide +kernel
theorem dX1_scoreAll_8 : decode cX1_scoreAll 8 = .ok (.aload_n 0, 1) := by decide +kernel
theorem dX1_scoreAll_9 : decode cX1_scoreAll 9 = .ok (.getfield 32, 3) := by decide +kernel
theorem dX1_scoreAll_12 : decode cX1_scoreAll 12 = .ok (.iconst 1, 1) := by decide +kernel
theorem dX1_scoreAll_13 : decode cX1_scoreAll 13 = .ok (.isub, 1) := by decide +kernel
theorem dX1_scoreAll_14 : decode cX1_scoreAll 14 = .ok (.istore_n 1, 1) := by decide +kernel
theorem dX1_scoreAll_15 : decode cX1_scoreAll 15 = .ok (.iload_n 1, 1) := by decide +kernel
theorem dX1_scoreAll_16 : decode cX1_scoreAll 16 = .ok (.ifCond .lt 77, 3) := by decide +kernel
theorem dX1_scoreAll_19 : decode cX1_scoreAll 19 = .ok (.aload_n 0, 1) := by decide +kernel
theorem dX1_scoreAll_20 : decode cX1_scoreAll 20 = .ok (.getfield 35, 3) := by decide +kernel
theorem dX1_scoreAll_23 : decode cX1_scoreAll 23 = .ok (.iconst 1, 1) := by decide +kernel
theorem dX1_scoreAll_24 : decode cX1_scoreAll 24 = .ok (.isub, 1) := by decide +kernel
theorem dX1_scoreAll_25 : decode cX1_scoreAll 25 = .ok (.istore_n 2, 1) := by decide +kernel
theorem dX1_scoreAll_26 : decode cX1_scoreAll 26 = .ok (.iload_n 2, 1) := by decide +kernel
theorem dX1_scoreAll_27 : decode cX1_scoreAll 27 = .ok (.ifCond .lt 60, 3) := by decide +kernel
theorem dX1_scoreAll_30 : decode cX1_scoreAll 30 = .ok (.aload_n 0, 1) := by decide +kernel
theorem dX1_scoreAll_31 : decode cX1_scoreAll 31 = .ok (.getfield 21, 3) := by decide +kernel
theorem dX1_scoreAll_34 : decode cX1_scoreAll 34 = .ok (.iload_n 1, 1) := by decide +kernel
theorem dX1_scoreAll_35 : decode cX1_scoreAll 35 = .ok (.iconst 1, 1) := by decide +kernel
theorem dX1_scoreAll_36 : decode cX1_scoreAll 36 = .ok (.iadd, 1) := by decide +kernel
theorem dX1_scoreAll_37 : decode cX1_scoreAll 37 = .ok (.bipush 7, 2) := by decide +kernel
theorem dX1_scoreAll_39 : decode cX1_scoreAll 39 = .ok (.imul, 1) := by decide +kernel
theorem dX1_scoreAll_40 : decode cX1_scoreAll 40 = .ok (.iload_n 2, 1) := by decide +kernel
theorem dX1_scoreAll_41 : decode cX1_scoreAll 41 = .ok (.iadd, 1) := by decide +kernel
theorem dX1_scoreAll_42 : decode cX1_scoreAll 42 = .ok (.iaload, 1) := by decide +kernel
theorem dX1_scoreAll_43 : decode cX1_scoreAll 43 = .ok (.aload_n 0, 1) := by decide +kernel
theorem dX1_scoreAll_44 : decode cX1_scoreAll 44 = .ok (.getfield 21, 3) := by decide +kernel
theorem dX1_scoreAll_47 : decode cX1_scoreAll 47 = .ok (.iload_n 1, 1) := by decide +kernel
theorem dX1_scoreAll_48 : decode cX1_scoreAll 48 = .ok (.bipush 7, 2) := by decide +kernel
theorem dX1_scoreAll_50 : decode cX1_scoreAll 50 = .ok (.imul, 1) := by decide +kernel
theorem dX1_scoreAll_51 : decode cX1_scoreAll 51 = .ok (.iload_n 2, 1) := by decide +kernel
theorem dX1_scoreAll_52 : decode cX1_scoreAll 52 = .ok (.iadd, 1) := by decide +kernel
theorem dX1_scoreAll_53 : decode cX1_scoreAll 53 = .ok (.iconst 1, 1) := by decide +kernel
theorem dX1_scoreAll_54 : decode cX1_scoreAll 54 = .ok (.iadd, 1) := by decide +kernel
theorem dX1_scoreAll_55 : decode cX1_scoreAll 55 = .ok (.iaload, 1) := by decide +kernel
theorem dX1_scoreAll_56 : decode cX1_scoreAll 56 = .ok (.invokestatic 65, 3) := by decide +kernel
theorem dX1_scoreAll_59 : decode cX1_scoreAll 59 = .ok (.istore_n 3, 1) := by decide +kernel
theorem dX1_scoreAll_60 : decode cX1_scoreAll 60 = .ok (.aload_n 0, 1) := by decide +kernel
theorem dX1_scoreAll_61 : decode cX1_scoreAll 61 = .ok (.getfield 21, 3) := by decide +kernel
theorem dX1_scoreAll_64 : decode cX1_scoreAll 64 = .ok (.iload_n 1, 1) := by decide +kernel
theorem dX1_scoreAll_65 : decode cX1_scoreAll 65 = .ok (.bipush 7, 2) := by decide +kernel
theorem dX1_scoreAll_67 : decode cX1_scoreAll 67 = .ok (.imul, 1) := by decide +kernel
theorem dX1_scoreAll_68 : decode cX1_scoreAll 68 = .ok (.iload_n 2, 1) := by decide +kernel
theorem dX1_scoreAll_69 : decode cX1_scoreAll 69 = .ok (.iadd, 1) := by decide +kernel
theorem dX1_scoreAll_70 : decode cX1_scoreAll 70 = .ok (.iload_n 3, 1) := by decide +kernel
theorem dX1_scoreAll_71 : decode cX1_scoreAll 71 = .ok (.aload_n 0, 1) := by decide +kernel
theorem dX1_scoreAll_72 : decode cX1_scoreAll 72 = .ok (.iload_n 1, 1) := by decide +kernel
theorem dX1_scoreAll_73 : decode cX1_scoreAll 73 = .ok (.iload_n 2, 1) := by decide +kernel
theorem dX1_scoreAll_74 : decode cX1_scoreAll 74 = .ok (.invokevirtual 71, 3) := by decide +kernel
theorem dX1_scoreAll_77 : decode cX1_scoreAll 77 = .ok (.invokestatic 65, 3) := by decide +kernel
theorem dX1_scoreAll_80 : decode cX1_scoreAll 80 = .ok (.iastore, 1) := by decide +kernel
theorem dX1_scoreAll_81 : decode cX1_scoreAll 81 = .ok (.iinc 2 (-1), 3) := by decide +kernel
theorem dX1_scoreAll_84 : decode cX1_scoreAll 84 = .ok (.goto (-58), 3) := by decide +kernel
theorem dX1_scoreAll_87 : decode cX1_scoreAll 87 = .ok (.iinc 1 (-1), 3) := by decide +kernel
theorem dX1_scoreAll_90 : decode cX1_scoreAll 90 = .ok (.goto (-75), 3) := by decide +kernel
theorem dX1_scoreAll_93 : decode cX1_scoreAll 93 = .ok (.return_, 1) := by decide +kernel
theorem dX1_pairedScore_0 : decode cX1_pairedScore 0 = .ok (.aload_n 0, 1) := by decide +kernel
theorem dX1_pairedScore_1 : decode cX1_pairedScore 1 = .ok (.getfield 15, 3) := by decide +kernel
theorem dX1_pairedScore_4 : decode cX1_pairedScore 4 = .ok (.iload_n 1, 1) := by decide +kernel
theorem dX1_pairedScore_5 : decode cX1_pairedScore 5 = .ok (.iaload, 1) := by decide +kernel
theorem dX1_pairedScore_6 : decode cX1_pairedScore 6 = .ok (.aload_n 0, 1) := by decide +kernel
theorem dX1_pairedScore_7 : decode cX1_pairedScore 7 = .ok (.getfield 18, 3) := by decide +kernel
theorem dX1_pairedScore_10 : decode cX1_pairedScore 10 = .ok (.iload_n 2, 1) := by decide +kernel
theorem dX1_pairedScore_11 : decode cX1_pairedScore 11 = .ok (.iaload, 1) := by decide +kernel
theorem dX1_pairedScore_12 : decode cX1_pairedScore 12 = .ok (.isub, 1) := by decide +kernel
theorem dX1_pairedScore_13 : decode cX1_pairedScore 13 = .ok (.invokestatic 74, 3) := by decide +kernel
theorem dX1_pairedScore_16 : decode cX1_pairedScore 16 = .ok (.istore_n 3, 1) := by decide +kernel
theorem dX1_pairedScore_17 : decode cX1_pairedScore 17 = .ok (.iload_n 3, 1) := by decide +kernel
theorem dX1_pairedScore_18 : decode cX1_pairedScore 18 = .ok (.aload_n 0, 1) := by decide +kernel
theorem dX1_pairedScore_19 : decode cX1_pairedScore 19 = .ok (.getfield 24, 3) := by decide +kernel
theorem dX1_pairedScore_22 : decode cX1_pairedScore 22 = .ok (.if_icmp .le 7, 3) := by decide +kernel
theorem dX1_pairedScore_25 : decode cX1_pairedScore 25 = .ok (.iconst (-1), 1) := by decide +kernel
theorem dX1_pairedScore_26 : decode cX1_pairedScore 26 = .ok (.goto 24, 3) := by decide +kernel
theorem dX1_pairedScore_29 : decode cX1_pairedScore 29 = .ok (.sipush 1000, 3) := by decide +kernel
theorem dX1_pairedScore_32 : decode cX1_pairedScore 32 = .ok (.iload_n 3, 1) := by decide +kernel
theorem dX1_pairedScore_33 : decode cX1_pairedScore 33 = .ok (.isub, 1) := by decide +kernel
theorem dX1_pairedScore_34 : decode cX1_pairedScore 34 = .ok (.aload_n 0, 1) := by decide +kernel
theorem dX1_pairedScore_35 : decode cX1_pairedScore 35 = .ok (.getfield 21, 3) := by decide +kernel
theorem dX1_pairedScore_38 : decode cX1_pairedScore 38 = .ok (.iload_n 1, 1) := by decide +kernel
theorem dX1_pairedScore_39 : decode cX1_pairedScore 39 = .ok (.iconst 1, 1) := by decide +kernel
theorem dX1_pairedScore_40 : decode cX1_pairedScore 40 = .ok (.iadd, 1) := by decide +kernel
theorem dX1_pairedScore_41 : decode cX1_pairedScore 41 = .ok (.bipush 7, 2) := by decide +kernel
theorem dX1_pairedScore_43 : decode cX1_pairedScore 43 = .ok (.imul, 1) := by decide +kernel
theorem dX1_pairedScore_44 : decode cX1_pairedScore 44 = .ok (.iload_n 2, 1) := by decide +kernel
theorem dX1_pairedScore_45 : decode cX1_pairedScore 45 = .ok (.iadd, 1) := by decide +kernel
theorem dX1_pairedScore_46 : decode cX1_pairedScore 46 = .ok (.iconst 1, 1) := by decide +kernel
theorem dX1_pairedScore_47 : decode cX1_pairedScore 47 = .ok (.iadd, 1) := by decide +kernel
theorem dX1_pairedScore_48 : decode cX1_pairedScore 48 = .ok (.iaload, 1) := by decide +kernel
theorem dX1_pairedScore_49 : decode cX1_pairedScore 49 = .ok (.iadd, 1) := by decide +kernel
theorem dX1_pairedScore_50 : decode cX1_pairedScore 50 = .ok (.ireturn, 1) := by decide +kernel
theorem dX1_chooseMates_0 : decode cX1_chooseMates 0 = .ok (.aload_n 0, 1) := by decide +kernel
theorem dX1_chooseMates_1 : decode cX1_chooseMates 1 = .ok (.getfield 9, 3) := by decide +kernel
theorem dX1_chooseMates_4 : decode cX1_chooseMates 4 = .ok (.bipush (-9), 2) := by decide +kernel
theorem dX1_chooseMates_6 : decode cX1_chooseMates 6 = .ok (.invokestatic 59, 3) := by decide +kernel
theorem dX1_chooseMates_9 : decode cX1_chooseMates 9 = .ok (.iconst 0, 1) := by decide +kernel
theorem dX1_chooseMates_10 : decode cX1_chooseMates 10 = .ok (.istore_n 1, 1) := by decide +kernel
theorem dX1_chooseMates_11 : decode cX1_chooseMates 11 = .ok (.iconst 0, 1) := by decide +kernel
theorem dX1_chooseMates_12 : decode cX1_chooseMates 12 = .ok (.istore_n 2, 1) := by decide +kernel
theorem dX1_chooseMates_13 : decode cX1_chooseMates 13 = .ok (.iconst 0, 1) := by decide +kernel
theorem dX1_chooseMates_14 : decode cX1_chooseMates 14 = .ok (.istore_n 3, 1) := by decide +kernel
theorem dX1_chooseMates_15 : decode cX1_chooseMates 15 = .ok (.iload_n 3, 1) := by decide +kernel
theorem dX1_chooseMates_16 : decode cX1_chooseMates 16 = .ok (.aload_n 0, 1) := by decide +kernel
theorem dX1_chooseMates_17 : decode cX1_chooseMates 17 = .ok (.getfield 32, 3) := by decide +kernel
theorem dX1_chooseMates_20 : decode cX1_chooseMates 20 = .ok (.if_icmp .ge 40, 3) := by decide +kernel
theorem dX1_chooseMates_23 : decode cX1_chooseMates 23 = .ok (.aload_n 0, 1) := by decide +kernel
theorem dX1_chooseMates_24 : decode cX1_chooseMates 24 = .ok (.iload_n 3, 1) := by decide +kernel
theorem dX1_chooseMates_25 : decode cX1_chooseMates 25 = .ok (.iload_n 2, 1) := by decide +kernel
theorem dX1_chooseMates_26 : decode cX1_chooseMates 26 = .ok (.invokevirtual 78, 3) := by decide +kernel
theorem dX1_chooseMates_29 : decode cX1_chooseMates 29 = .ok (.istore 4, 2) := by decide +kernel
theorem dX1_chooseMates_31 : decode cX1_chooseMates 31 = .ok (.iload 4, 2) := by decide +kernel
theorem dX1_chooseMates_33 : decode cX1_chooseMates 33 = .ok (.bipush (-9), 2) := by decide +kernel
theorem dX1_chooseMates_35 : decode cX1_chooseMates 35 = .ok (.if_icmp .eq 19, 3) := by decide +kernel
theorem dX1_chooseMates_38 : decode cX1_chooseMates 38 = .ok (.aload_n 0, 1) := by decide +kernel
theorem dX1_chooseMates_39 : decode cX1_chooseMates 39 = .ok (.getfield 9, 3) := by decide +kernel
theorem dX1_chooseMates_42 : decode cX1_chooseMates 42 = .ok (.iload_n 3, 1) := by decide +kernel
theorem dX1_chooseMates_43 : decode cX1_chooseMates 43 = .ok (.iload 4, 2) := by decide +kernel
theorem dX1_chooseMates_45 : decode cX1_chooseMates 45 = .ok (.iastore, 1) := by decide +kernel
theorem dX1_chooseMates_46 : decode cX1_chooseMates 46 = .ok (.iload 4, 2) := by decide +kernel
theorem dX1_chooseMates_48 : decode cX1_chooseMates 48 = .ok (.iconst 1, 1) := by decide +kernel
theorem dX1_chooseMates_49 : decode cX1_chooseMates 49 = .ok (.iadd, 1) := by decide +kernel
theorem dX1_chooseMates_50 : decode cX1_chooseMates 50 = .ok (.istore_n 2, 1) := by decide +kernel
theorem dX1_chooseMates_51 : decode cX1_chooseMates 51 = .ok (.iinc 1 1, 3) := by decide +kernel
theorem dX1_chooseMates_54 : decode cX1_chooseMates 54 = .ok (.iinc 3 1, 3) := by decide +kernel
theorem dX1_chooseMates_57 : decode cX1_chooseMates 57 = .ok (.goto (-42), 3) := by decide +kernel
theorem dX1_chooseMates_60 : decode cX1_chooseMates 60 = .ok (.iload_n 1, 1) := by decide +kernel
theorem dX1_chooseMates_61 : decode cX1_chooseMates 61 = .ok (.ireturn, 1) := by decide +kernel
theorem dX1_lowestMate_0 : decode cX1_lowestMate 0 = .ok (.iload_n 2, 1) := by decide +kernel
theorem dX1_lowestMate_1 : decode cX1_lowestMate 1 = .ok (.istore_n 3, 1) := by decide +kernel
theorem dX1_lowestMate_2 : decode cX1_lowestMate 2 = .ok (.iload_n 3, 1) := by decide +kernel
theorem dX1_lowestMate_3 : decode cX1_lowestMate 3 = .ok (.aload_n 0, 1) := by decide +kernel
theorem dX1_lowestMate_4 : decode cX1_lowestMate 4 = .ok (.getfield 35, 3) := by decide +kernel
theorem dX1_lowestMate_7 : decode cX1_lowestMate 7 = .ok (.if_icmp .ge 31, 3) := by decide +kernel
theorem dX1_lowestMate_10 : decode cX1_lowestMate 10 = .ok (.aload_n 0, 1) := by decide +kernel
theorem dX1_lowestMate_11 : decode cX1_lowestMate 11 = .ok (.iload_n 1, 1) := by decide +kernel
theorem dX1_lowestMate_12 : decode cX1_lowestMate 12 = .ok (.iload_n 3, 1) := by decide +kernel
theorem dX1_lowestMate_13 : decode cX1_lowestMate 13 = .ok (.invokevirtual 71, 3) := by decide +kernel
theorem dX1_lowestMate_16 : decode cX1_lowestMate 16 = .ok (.aload_n 0, 1) := by decide +kernel
theorem dX1_lowestMate_17 : decode cX1_lowestMate 17 = .ok (.getfield 21, 3) := by decide +kernel
theorem dX1_lowestMate_20 : decode cX1_lowestMate 20 = .ok (.iload_n 1, 1) := by decide +kernel
theorem dX1_lowestMate_21 : decode cX1_lowestMate 21 = .ok (.bipush 7, 2) := by decide +kernel
theorem dX1_lowestMate_23 : decode cX1_lowestMate 23 = .ok (.imul, 1) := by decide +kernel
theorem dX1_lowestMate_24 : decode cX1_lowestMate 24 = .ok (.iload_n 2, 1) := by decide +kernel
theorem dX1_lowestMate_25 : decode cX1_lowestMate 25 = .ok (.iadd, 1) := by decide +kernel
theorem dX1_lowestMate_26 : decode cX1_lowestMate 26 = .ok (.iaload, 1) := by decide +kernel
theorem dX1_lowestMate_27 : decode cX1_lowestMate 27 = .ok (.if_icmp .ne 5, 3) := by decide +kernel
theorem dX1_lowestMate_30 : decode cX1_lowestMate 30 = .ok (.iload_n 3, 1) := by decide +kernel
theorem dX1_lowestMate_31 : decode cX1_lowestMate 31 = .ok (.ireturn, 1) := by decide +kernel
theorem dX1_lowestMate_32 : decode cX1_lowestMate 32 = .ok (.iinc 3 1, 3) := by decide +kernel
theorem dX1_lowestMate_35 : decode cX1_lowestMate 35 = .ok (.goto (-33), 3) := by decide +kernel
theorem dX1_lowestMate_38 : decode cX1_lowestMate 38 = .ok (.bipush (-9), 2) := by decide +kernel
theorem dX1_lowestMate_40 : decode cX1_lowestMate 40 = .ok (.ireturn, 1) := by decide +kernel
theorem dX2_init_0 : decode cX2_init 0 = .ok (.aload_n 0, 1) := by decide +kernel
theorem dX2_init_1 : decode cX2_init 1 = .ok (.invokespecial 3, 3) := by decide +kernel
theorem dX2_init_4 : decode cX2_init 4 = .ok (.aload_n 0, 1) := by decide +kernel
theorem dX2_init_5 : decode cX2_init 5 = .ok (.bipush 8, 2) := by decide +kernel
theorem dX2_init_7 : decode cX2_init 7 = .ok (.newarray .int, 2) := by decide +kernel
theorem dX2_init_9 : decode cX2_init 9 = .ok (.putfield 9, 3) := by decide +kernel
theorem dX2_init_12 : decode cX2_init 12 = .ok (.aload_n 0, 1) := by decide +kernel
theorem dX2_init_13 : decode cX2_init 13 = .ok (.bipush 48, 2) := by decide +kernel
theorem dX2_init_15 : decode cX2_init 15 = .ok (.newarray .int, 2) := by decide +kernel
theorem dX2_init_17 : decode cX2_init 17 = .ok (.putfield 15, 3) := by decide +kernel
theorem dX2_init_20 : decode cX2_init 20 = .ok (.aload_n 0, 1) := by decide +kernel
theorem dX2_init_21 : decode cX2_init 21 = .ok (.bipush 48, 2) := by decide +kernel
theorem dX2_init_23 : decode cX2_init 23 = .ok (.newarray .int, 2) := by decide +kernel
theorem dX2_init_25 : decode cX2_init 25 = .ok (.putfield 18, 3) := by decide +kernel
theorem dX2_init_28 : decode cX2_init 28 = .ok (.aload_n 0, 1) := by decide +kernel
theorem dX2_init_29 : decode cX2_init 29 = .ok (.bipush 48, 2) := by decide +kernel
theorem dX2_init_31 : decode cX2_init 31 = .ok (.newarray .int, 2) := by decide +kernel
theorem dX2_init_33 : decode cX2_init 33 = .ok (.putfield 21, 3) := by decide +kernel
theorem dX2_init_36 : decode cX2_init 36 = .ok (.return_, 1) := by decide +kernel
theorem dX2_find_0 : decode cX2_find 0 = .ok (.iconst 0, 1) := by decide +kernel
theorem dX2_find_1 : decode cX2_find 1 = .ok (.istore_n 2, 1) := by decide +kernel
theorem dX2_find_2 : decode cX2_find 2 = .ok (.iload_n 2, 1) := by decide +kernel
theorem dX2_find_3 : decode cX2_find 3 = .ok (.bipush 8, 2) := by decide +kernel
theorem dX2_find_5 : decode cX2_find 5 = .ok (.if_icmp .ge 39, 3) := by decide +kernel
theorem dX2_find_8 : decode cX2_find 8 = .ok (.aload_n 0, 1) := by decide +kernel
theorem dX2_find_9 : decode cX2_find 9 = .ok (.getfield 9, 3) := by decide +kernel
theorem dX2_find_12 : decode cX2_find 12 = .ok (.iload_n 2, 1) := by decide +kernel
theorem dX2_find_13 : decode cX2_find 13 = .ok (.iconst 0, 1) := by decide +kernel
theorem dX2_find_14 : decode cX2_find 14 = .ok (.iastore, 1) := by decide +kernel
theorem dX2_find_15 : decode cX2_find 15 = .ok (.iconst 0, 1) := by decide +kernel
theorem dX2_find_16 : decode cX2_find 16 = .ok (.istore_n 3, 1) := by decide +kernel
theorem dX2_find_17 : decode cX2_find 17 = .ok (.iload_n 3, 1) := by decide +kernel
theorem dX2_find_18 : decode cX2_find 18 = .ok (.aload_n 1, 1) := by decide +kernel
theorem dX2_find_19 : decode cX2_find 19 = .ok (.getfield 24, 3) := by decide +kernel
theorem dX2_find_22 : decode cX2_find 22 = .ok (.if_icmp .ge 16, 3) := by decide +kernel
theorem dX2_find_25 : decode cX2_find 25 = .ok (.aload_n 0, 1) := by decide +kernel
theorem dX2_find_26 : decode cX2_find 26 = .ok (.aload_n 1, 1) := by decide +kernel
theorem dX2_find_27 : decode cX2_find 27 = .ok (.iload_n 2, 1) := by decide +kernel
theorem dX2_find_28 : decode cX2_find 28 = .ok (.iload_n 3, 1) := by decide +kernel
theorem dX2_find_29 : decode cX2_find 29 = .ok (.invokevirtual 29, 3) := by decide +kernel
theorem dX2_find_32 : decode cX2_find 32 = .ok (.iinc 3 1, 3) := by decide +kernel
theorem dX2_find_35 : decode cX2_find 35 = .ok (.goto (-18), 3) := by decide +kernel
theorem dX2_find_38 : decode cX2_find 38 = .ok (.iinc 2 1, 3) := by decide +kernel
theorem dX2_find_41 : decode cX2_find 41 = .ok (.goto (-39), 3) := by decide +kernel
theorem dX2_find_44 : decode cX2_find 44 = .ok (.return_, 1) := by decide +kernel
theorem dX2_lookAt_0 : decode cX2_lookAt 0 = .ok (.aload_n 1, 1) := by decide +kernel
theorem dX2_lookAt_1 : decode cX2_lookAt 1 = .ok (.iload_n 2, 1) := by decide +kernel
theorem dX2_lookAt_2 : decode cX2_lookAt 2 = .ok (.iload_n 3, 1) := by decide +kernel
theorem dX2_lookAt_3 : decode cX2_lookAt 3 = .ok (.invokevirtual 33, 3) := by decide +kernel
theorem dX2_lookAt_6 : decode cX2_lookAt 6 = .ok (.istore 4, 2) := by decide +kernel
theorem dX2_lookAt_8 : decode cX2_lookAt 8 = .ok (.aload_n 1, 1) := by decide +kernel
theorem dX2_lookAt_9 : decode cX2_lookAt 9 = .ok (.iload_n 2, 1) := by decide +kernel
theorem dX2_lookAt_10 : decode cX2_lookAt 10 = .ok (.iload_n 3, 1) := by decide +kernel
theorem dX2_lookAt_11 : decode cX2_lookAt 11 = .ok (.iconst 1, 1) := by decide +kernel
theorem dX2_lookAt_12 : decode cX2_lookAt 12 = .ok (.isub, 1) := by decide +kernel
theorem dX2_lookAt_13 : decode cX2_lookAt 13 = .ok (.invokevirtual 33, 3) := by decide +kernel
theorem dX2_lookAt_16 : decode cX2_lookAt 16 = .ok (.istore 5, 2) := by decide +kernel
theorem dX2_lookAt_18 : decode cX2_lookAt 18 = .ok (.aload_n 1, 1) := by decide +kernel
theorem dX2_lookAt_19 : decode cX2_lookAt 19 = .ok (.iload_n 2, 1) := by decide +kernel
theorem dX2_lookAt_20 : decode cX2_lookAt 20 = .ok (.iload_n 3, 1) := by decide +kernel
theorem dX2_lookAt_21 : decode cX2_lookAt 21 = .ok (.iconst 1, 1) := by decide +kernel
theorem dX2_lookAt_22 : decode cX2_lookAt 22 = .ok (.iadd, 1) := by decide +kernel
theorem dX2_lookAt_23 : decode cX2_lookAt 23 = .ok (.invokevirtual 33, 3) := by decide +kernel
theorem dX2_lookAt_26 : decode cX2_lookAt 26 = .ok (.istore 6, 2) := by decide +kernel
theorem dX2_lookAt_28 : decode cX2_lookAt 28 = .ok (.iload 4, 2) := by decide +kernel
theorem dX2_lookAt_30 : decode cX2_lookAt 30 = .ok (.aload_n 1, 1) := by decide +kernel
theorem dX2_lookAt_31 : decode cX2_lookAt 31 = .ok (.getfield 37, 3) := by decide +kernel
theorem dX2_lookAt_34 : decode cX2_lookAt 34 = .ok (.iconst 0, 1) := by decide +kernel
theorem dX2_lookAt_35 : decode cX2_lookAt 35 = .ok (.iaload, 1) := by decide +kernel
theorem dX2_lookAt_36 : decode cX2_lookAt 36 = .ok (.if_icmp .lt 21, 3) := by decide +kernel
theorem dX2_lookAt_39 : decode cX2_lookAt 39 = .ok (.iload 4, 2) := by decide +kernel
theorem dX2_lookAt_41 : decode cX2_lookAt 41 = .ok (.iload 5, 2) := by decide +kernel
theorem dX2_lookAt_43 : decode cX2_lookAt 43 = .ok (.if_icmp .le 14, 3) := by decide +kernel
theorem dX2_lookAt_46 : decode cX2_lookAt 46 = .ok (.iload 4, 2) := by decide +kernel
theorem dX2_lookAt_48 : decode cX2_lookAt 48 = .ok (.iload 6, 2) := by decide +kernel
theorem dX2_lookAt_50 : decode cX2_lookAt 50 = .ok (.if_icmp .lt 7, 3) := by decide +kernel
theorem dX2_lookAt_53 : decode cX2_lookAt 53 = .ok (.iconst 1, 1) := by decide +kernel
theorem dX2_lookAt_54 : decode cX2_lookAt 54 = .ok (.goto 4, 3) := by decide +kernel
theorem dX2_lookAt_57 : decode cX2_lookAt 57 = .ok (.iconst 0, 1) := by decide +kernel
theorem dX2_lookAt_58 : decode cX2_lookAt 58 = .ok (.istore 7, 2) := by decide +kernel
theorem dX2_lookAt_60 : decode cX2_lookAt 60 = .ok (.iload 7, 2) := by decide +kernel
theorem dX2_lookAt_62 : decode cX2_lookAt 62 = .ok (.ifCond .eq 72, 3) := by decide +kernel
theorem dX2_lookAt_65 : decode cX2_lookAt 65 = .ok (.aload_n 0, 1) := by decide +kernel
theorem dX2_lookAt_66 : decode cX2_lookAt 66 = .ok (.getfield 9, 3) := by decide +kernel
theorem dX2_lookAt_69 : decode cX2_lookAt 69 = .ok (.iload_n 2, 1) := by decide +kernel
theorem dX2_lookAt_70 : decode cX2_lookAt 70 = .ok (.iaload, 1) := by decide +kernel
theorem dX2_lookAt_71 : decode cX2_lookAt 71 = .ok (.bipush 6, 2) := by decide +kernel
theorem dX2_lookAt_73 : decode cX2_lookAt 73 = .ok (.if_icmp .ge 61, 3) := by decide +kernel
theorem dX2_lookAt_76 : decode cX2_lookAt 76 = .ok (.iload_n 2, 1) := by decide +kernel
theorem dX2_lookAt_77 : decode cX2_lookAt 77 = .ok (.bipush 6, 2) := by decide +kernel
theorem dX2_lookAt_79 : decode cX2_lookAt 79 = .ok (.imul, 1) := by decide +kernel
theorem dX2_lookAt_80 : decode cX2_lookAt 80 = .ok (.aload_n 0, 1) := by decide +kernel
theorem dX2_lookAt_81 : decode cX2_lookAt 81 = .ok (.getfield 9, 3) := by decide +kernel
theorem dX2_lookAt_84 : decode cX2_lookAt 84 = .ok (.iload_n 2, 1) := by decide +kernel
theorem dX2_lookAt_85 : decode cX2_lookAt 85 = .ok (.iaload, 1) := by decide +kernel
theorem dX2_lookAt_86 : decode cX2_lookAt 86 = .ok (.iadd, 1) := by decide +kernel
theorem dX2_lookAt_87 : decode cX2_lookAt 87 = .ok (.istore 8, 2) := by decide +kernel
theorem dX2_lookAt_89 : decode cX2_lookAt 89 = .ok (.aload_n 0, 1) := by decide +kernel
theorem dX2_lookAt_90 : decode cX2_lookAt 90 = .ok (.getfield 15, 3) := by decide +kernel
theorem dX2_lookAt_93 : decode cX2_lookAt 93 = .ok (.iload 8, 2) := by decide +kernel
theorem dX2_lookAt_95 : decode cX2_lookAt 95 = .ok (.iload_n 3, 1) := by decide +kernel
theorem dX2_lookAt_96 : decode cX2_lookAt 96 = .ok (.iastore, 1) := by decide +kernel
theorem dX2_lookAt_97 : decode cX2_lookAt 97 = .ok (.aload_n 0, 1) := by decide +kernel
theorem dX2_lookAt_98 : decode cX2_lookAt 98 = .ok (.getfield 18, 3) := by decide +kernel
theorem dX2_lookAt_101 : decode cX2_lookAt 101 = .ok (.iload 8, 2) := by decide +kernel
theorem dX2_lookAt_103 : decode cX2_lookAt 103 = .ok (.iconst 4, 1) := by decide +kernel
theorem dX2_lookAt_104 : decode cX2_lookAt 104 = .ok (.iload_n 3, 1) := by decide +kernel
theorem dX2_lookAt_105 : decode cX2_lookAt 105 = .ok (.imul, 1) := by decide +kernel
theorem dX2_lookAt_106 : decode cX2_lookAt 106 = .ok (.iload 6, 2) := by decide +kernel
theorem dX2_lookAt_108 : decode cX2_lookAt 108 = .ok (.iload 5, 2) := by decide +kernel
theorem dX2_lookAt_110 : decode cX2_lookAt 110 = .ok (.invokestatic 40, 3) := by decide +kernel
theorem dX2_lookAt_113 : decode cX2_lookAt 113 = .ok (.iadd, 1) := by decide +kernel
theorem dX2_lookAt_114 : decode cX2_lookAt 114 = .ok (.iastore, 1) := by decide +kernel
theorem dX2_lookAt_115 : decode cX2_lookAt 115 = .ok (.aload_n 0, 1) := by decide +kernel
theorem dX2_lookAt_116 : decode cX2_lookAt 116 = .ok (.getfield 21, 3) := by decide +kernel
theorem dX2_lookAt_119 : decode cX2_lookAt 119 = .ok (.iload 8, 2) := by decide +kernel
theorem dX2_lookAt_121 : decode cX2_lookAt 121 = .ok (.iload 4, 2) := by decide +kernel
theorem dX2_lookAt_123 : decode cX2_lookAt 123 = .ok (.iastore, 1) := by decide +kernel
theorem dX2_lookAt_124 : decode cX2_lookAt 124 = .ok (.aload_n 0, 1) := by decide +kernel
theorem dX2_lookAt_125 : decode cX2_lookAt 125 = .ok (.getfield 9, 3) := by decide +kernel
theorem dX2_lookAt_128 : decode cX2_lookAt 128 = .ok (.iload_n 2, 1) := by decide +kernel
theorem dX2_lookAt_129 : decode cX2_lookAt 129 = .ok (.dup2, 1) := by decide +kernel
theorem dX2_lookAt_130 : decode cX2_lookAt 130 = .ok (.iaload, 1) := by decide +kernel
theorem dX2_lookAt_131 : decode cX2_lookAt 131 = .ok (.iconst 1, 1) := by decide +kernel
theorem dX2_lookAt_132 : decode cX2_lookAt 132 = .ok (.iadd, 1) := by decide +kernel
theorem dX2_lookAt_133 : decode cX2_lookAt 133 = .ok (.iastore, 1) := by decide +kernel
theorem dX2_lookAt_134 : decode cX2_lookAt 134 = .ok (.return_, 1) := by decide +kernel
theorem dX3_init_0 : decode cX3_init 0 = .ok (.aload_n 0, 1) := by decide +kernel
theorem dX3_init_1 : decode cX3_init 1 = .ok (.invokespecial 3, 3) := by decide +kernel
theorem dX3_init_4 : decode cX3_init 4 = .ok (.aload_n 0, 1) := by decide +kernel
theorem dX3_init_5 : decode cX3_init 5 = .ok (.iconst 3, 1) := by decide +kernel
theorem dX3_init_6 : decode cX3_init 6 = .ok (.newarray .int, 2) := by decide +kernel
theorem dX3_init_8 : decode cX3_init 8 = .ok (.putfield 9, 3) := by decide +kernel
theorem dX3_init_11 : decode cX3_init 11 = .ok (.aload_n 0, 1) := by decide +kernel
theorem dX3_init_12 : decode cX3_init 12 = .ok (.bipush 96, 2) := by decide +kernel
theorem dX3_init_14 : decode cX3_init 14 = .ok (.newarray .int, 2) := by decide +kernel
theorem dX3_init_16 : decode cX3_init 16 = .ok (.putfield 15, 3) := by decide +kernel
theorem dX3_init_19 : decode cX3_init 19 = .ok (.return_, 1) := by decide +kernel
theorem dX3_makeFirst_0 : decode cX3_makeFirst 0 = .ok (.aload_n 0, 1) := by decide +kernel
theorem dX3_makeFirst_1 : decode cX3_makeFirst 1 = .ok (.invokevirtual 18, 3) := by decide +kernel
theorem dX3_makeFirst_4 : decode cX3_makeFirst 4 = .ok (.aload_n 0, 1) := by decide +kernel
theorem dX3_makeFirst_5 : decode cX3_makeFirst 5 = .ok (.iconst 1, 1) := by decide +kernel
theorem dX3_makeFirst_6 : decode cX3_makeFirst 6 = .ok (.putfield 21, 3) := by decide +kernel
theorem dX3_makeFirst_9 : decode cX3_makeFirst 9 = .ok (.aload_n 0, 1) := by decide +kernel
theorem dX3_makeFirst_10 : decode cX3_makeFirst 10 = .ok (.iconst 3, 1) := by decide +kernel
theorem dX3_makeFirst_11 : decode cX3_makeFirst 11 = .ok (.putfield 25, 3) := by decide +kernel
theorem dX3_makeFirst_14 : decode cX3_makeFirst 14 = .ok (.return_, 1) := by decide +kernel
theorem dX3_makeEmpty_0 : decode cX3_makeEmpty 0 = .ok (.aload_n 0, 1) := by decide +kernel
theorem dX3_makeEmpty_1 : decode cX3_makeEmpty 1 = .ok (.iconst 0, 1) := by decide +kernel
theorem dX3_makeEmpty_2 : decode cX3_makeEmpty 2 = .ok (.putfield 21, 3) := by decide +kernel
theorem dX3_makeEmpty_5 : decode cX3_makeEmpty 5 = .ok (.aload_n 0, 1) := by decide +kernel
theorem dX3_makeEmpty_6 : decode cX3_makeEmpty 6 = .ok (.iconst 0, 1) := by decide +kernel
theorem dX3_makeEmpty_7 : decode cX3_makeEmpty 7 = .ok (.putfield 25, 3) := by decide +kernel
theorem dX3_makeEmpty_10 : decode cX3_makeEmpty 10 = .ok (.getstatic 28, 3) := by decide +kernel
theorem dX3_makeEmpty_13 : decode cX3_makeEmpty 13 = .ok (.iconst 0, 1) := by decide +kernel
theorem dX3_makeEmpty_14 : decode cX3_makeEmpty 14 = .ok (.aload_n 0, 1) := by decide +kernel
theorem dX3_makeEmpty_15 : decode cX3_makeEmpty 15 = .ok (.getfield 9, 3) := by decide +kernel
theorem dX3_makeEmpty_18 : decode cX3_makeEmpty 18 = .ok (.iconst 0, 1) := by decide +kernel
theorem dX3_makeEmpty_19 : decode cX3_makeEmpty 19 = .ok (.iconst 3, 1) := by decide +kernel
theorem dX3_makeEmpty_20 : decode cX3_makeEmpty 20 = .ok (.invokestatic 31, 3) := by decide +kernel
theorem dX3_makeEmpty_23 : decode cX3_makeEmpty 23 = .ok (.aload_n 0, 1) := by decide +kernel
theorem dX3_makeEmpty_24 : decode cX3_makeEmpty 24 = .ok (.getfield 15, 3) := by decide +kernel
theorem dX3_makeEmpty_27 : decode cX3_makeEmpty 27 = .ok (.iconst 0, 1) := by decide +kernel
theorem dX3_makeEmpty_28 : decode cX3_makeEmpty 28 = .ok (.invokestatic 37, 3) := by decide +kernel
theorem dX3_makeEmpty_31 : decode cX3_makeEmpty 31 = .ok (.return_, 1) := by decide +kernel
theorem dX3_takeFrom_0 : decode cX3_takeFrom 0 = .ok (.aload_n 0, 1) := by decide +kernel
theorem dX3_takeFrom_1 : decode cX3_takeFrom 1 = .ok (.aload_n 1, 1) := by decide +kernel
theorem dX3_takeFrom_2 : decode cX3_takeFrom 2 = .ok (.getfield 21, 3) := by decide +kernel
theorem dX3_takeFrom_5 : decode cX3_takeFrom 5 = .ok (.putfield 21, 3) := by decide +kernel
theorem dX3_takeFrom_8 : decode cX3_takeFrom 8 = .ok (.aload_n 0, 1) := by decide +kernel
theorem dX3_takeFrom_9 : decode cX3_takeFrom 9 = .ok (.aload_n 1, 1) := by decide +kernel
theorem dX3_takeFrom_10 : decode cX3_takeFrom 10 = .ok (.getfield 25, 3) := by decide +kernel
theorem dX3_takeFrom_13 : decode cX3_takeFrom 13 = .ok (.putfield 25, 3) := by decide +kernel
theorem dX3_takeFrom_16 : decode cX3_takeFrom 16 = .ok (.aload_n 1, 1) := by decide +kernel
theorem dX3_takeFrom_17 : decode cX3_takeFrom 17 = .ok (.getfield 9, 3) := by decide +kernel
theorem dX3_takeFrom_20 : decode cX3_takeFrom 20 = .ok (.iconst 0, 1) := by decide +kernel
theorem dX3_takeFrom_21 : decode cX3_takeFrom 21 = .ok (.aload_n 0, 1) := by decide +kernel
theorem dX3_takeFrom_22 : decode cX3_takeFrom 22 = .ok (.getfield 9, 3) := by decide +kernel
theorem dX3_takeFrom_25 : decode cX3_takeFrom 25 = .ok (.iconst 0, 1) := by decide +kernel
theorem dX3_takeFrom_26 : decode cX3_takeFrom 26 = .ok (.iconst 3, 1) := by decide +kernel
theorem dX3_takeFrom_27 : decode cX3_takeFrom 27 = .ok (.invokestatic 31, 3) := by decide +kernel
theorem dX3_takeFrom_30 : decode cX3_takeFrom 30 = .ok (.aload_n 1, 1) := by decide +kernel
theorem dX3_takeFrom_31 : decode cX3_takeFrom 31 = .ok (.getfield 15, 3) := by decide +kernel
theorem dX3_takeFrom_34 : decode cX3_takeFrom 34 = .ok (.iconst 0, 1) := by decide +kernel
theorem dX3_takeFrom_35 : decode cX3_takeFrom 35 = .ok (.aload_n 0, 1) := by decide +kernel
theorem dX3_takeFrom_36 : decode cX3_takeFrom 36 = .ok (.getfield 15, 3) := by decide +kernel
theorem dX3_takeFrom_39 : decode cX3_takeFrom 39 = .ok (.iconst 0, 1) := by decide +kernel
theorem dX3_takeFrom_40 : decode cX3_takeFrom 40 = .ok (.bipush 96, 2) := by decide +kernel
theorem dX3_takeFrom_42 : decode cX3_takeFrom 42 = .ok (.invokestatic 31, 3) := by decide +kernel
theorem dX3_takeFrom_45 : decode cX3_takeFrom 45 = .ok (.return_, 1) := by decide +kernel
theorem dX3_hasFrame_0 : decode cX3_hasFrame 0 = .ok (.iload_n 1, 1) := by decide +kernel
theorem dX3_hasFrame_1 : decode cX3_hasFrame 1 = .ok (.ifCond .lt 15, 3) := by decide +kernel
theorem dX3_hasFrame_4 : decode cX3_hasFrame 4 = .ok (.iload_n 1, 1) := by decide +kernel
theorem dX3_hasFrame_5 : decode cX3_hasFrame 5 = .ok (.aload_n 0, 1) := by decide +kernel
theorem dX3_hasFrame_6 : decode cX3_hasFrame 6 = .ok (.getfield 21, 3) := by decide +kernel
theorem dX3_hasFrame_9 : decode cX3_hasFrame 9 = .ok (.if_icmp .ge 7, 3) := by decide +kernel
theorem dX3_hasFrame_12 : decode cX3_hasFrame 12 = .ok (.iconst 1, 1) := by decide +kernel
theorem dX3_hasFrame_13 : decode cX3_hasFrame 13 = .ok (.goto 4, 3) := by decide +kernel
theorem dX3_hasFrame_16 : decode cX3_hasFrame 16 = .ok (.iconst 0, 1) := by decide +kernel
theorem dX3_hasFrame_17 : decode cX3_hasFrame 17 = .ok (.ireturn, 1) := by decide +kernel
theorem dX3_hasPlace_0 : decode cX3_hasPlace 0 = .ok (.aload_n 0, 1) := by decide +kernel
theorem dX3_hasPlace_1 : decode cX3_hasPlace 1 = .ok (.iload_n 1, 1) := by decide +kernel
theorem dX3_hasPlace_2 : decode cX3_hasPlace 2 = .ok (.invokevirtual 43, 3) := by decide +kernel
theorem dX3_hasPlace_5 : decode cX3_hasPlace 5 = .ok (.ifCond .eq 19, 3) := by decide +kernel
theorem dX3_hasPlace_8 : decode cX3_hasPlace 8 = .ok (.iload_n 2, 1) := by decide +kernel
theorem dX3_hasPlace_9 : decode cX3_hasPlace 9 = .ok (.ifCond .lt 15, 3) := by decide +kernel
theorem dX3_hasPlace_12 : decode cX3_hasPlace 12 = .ok (.iload_n 2, 1) := by decide +kernel
theorem dX3_hasPlace_13 : decode cX3_hasPlace 13 = .ok (.aload_n 0, 1) := by decide +kernel
theorem dX3_hasPlace_14 : decode cX3_hasPlace 14 = .ok (.getfield 25, 3) := by decide +kernel
theorem dX3_hasPlace_17 : decode cX3_hasPlace 17 = .ok (.if_icmp .ge 7, 3) := by decide +kernel
theorem dX3_hasPlace_20 : decode cX3_hasPlace 20 = .ok (.iconst 1, 1) := by decide +kernel
theorem dX3_hasPlace_21 : decode cX3_hasPlace 21 = .ok (.goto 4, 3) := by decide +kernel
theorem dX3_hasPlace_24 : decode cX3_hasPlace 24 = .ok (.iconst 0, 1) := by decide +kernel
theorem dX3_hasPlace_25 : decode cX3_hasPlace 25 = .ok (.ireturn, 1) := by decide +kernel
theorem dX3_levelAt_0 : decode cX3_levelAt 0 = .ok (.aload_n 0, 1) := by decide +kernel
theorem dX3_levelAt_1 : decode cX3_levelAt 1 = .ok (.iload_n 1, 1) := by decide +kernel
theorem dX3_levelAt_2 : decode cX3_levelAt 2 = .ok (.iload_n 2, 1) := by decide +kernel
theorem dX3_levelAt_3 : decode cX3_levelAt 3 = .ok (.invokevirtual 47, 3) := by decide +kernel
theorem dX3_levelAt_6 : decode cX3_levelAt 6 = .ok (.ifCond .eq 17, 3) := by decide +kernel
theorem dX3_levelAt_9 : decode cX3_levelAt 9 = .ok (.aload_n 0, 1) := by decide +kernel
theorem dX3_levelAt_10 : decode cX3_levelAt 10 = .ok (.getfield 15, 3) := by decide +kernel
theorem dX3_levelAt_13 : decode cX3_levelAt 13 = .ok (.iload_n 1, 1) := by decide +kernel
theorem dX3_levelAt_14 : decode cX3_levelAt 14 = .ok (.bipush 12, 2) := by decide +kernel
theorem dX3_levelAt_16 : decode cX3_levelAt 16 = .ok (.imul, 1) := by decide +kernel
theorem dX3_levelAt_17 : decode cX3_levelAt 17 = .ok (.iload_n 2, 1) := by decide +kernel
theorem dX3_levelAt_18 : decode cX3_levelAt 18 = .ok (.iadd, 1) := by decide +kernel
theorem dX3_levelAt_19 : decode cX3_levelAt 19 = .ok (.iaload, 1) := by decide +kernel
theorem dX3_levelAt_20 : decode cX3_levelAt 20 = .ok (.goto 4, 3) := by decide +kernel
theorem dX3_levelAt_23 : decode cX3_levelAt 23 = .ok (.iconst 0, 1) := by decide +kernel
theorem dX3_levelAt_24 : decode cX3_levelAt 24 = .ok (.ireturn, 1) := by decide +kernel
theorem dX3_putLevel_0 : decode cX3_putLevel 0 = .ok (.aload_n 0, 1) := by decide +kernel
theorem dX3_putLevel_1 : decode cX3_putLevel 1 = .ok (.iload_n 1, 1) := by decide +kernel
theorem dX3_putLevel_2 : decode cX3_putLevel 2 = .ok (.iload_n 2, 1) := by decide +kernel
theorem dX3_putLevel_3 : decode cX3_putLevel 3 = .ok (.invokevirtual 47, 3) := by decide +kernel
theorem dX3_putLevel_6 : decode cX3_putLevel 6 = .ok (.ifCond .eq 15, 3) := by decide +kernel
theorem dX3_putLevel_9 : decode cX3_putLevel 9 = .ok (.aload_n 0, 1) := by decide +kernel
theorem dX3_putLevel_10 : decode cX3_putLevel 10 = .ok (.getfield 15, 3) := by decide +kernel
theorem dX3_putLevel_13 : decode cX3_putLevel 13 = .ok (.iload_n 1, 1) := by decide +kernel
theorem dX3_putLevel_14 : decode cX3_putLevel 14 = .ok (.bipush 12, 2) := by decide +kernel
theorem dX3_putLevel_16 : decode cX3_putLevel 16 = .ok (.imul, 1) := by decide +kernel
theorem dX3_putLevel_17 : decode cX3_putLevel 17 = .ok (.iload_n 2, 1) := by decide +kernel
theorem dX3_putLevel_18 : decode cX3_putLevel 18 = .ok (.iadd, 1) := by decide +kernel
theorem dX3_putLevel_19 : decode cX3_putLevel 19 = .ok (.iload_n 3, 1) := by decide +kernel
theorem dX3_putLevel_20 : decode cX3_putLevel 20 = .ok (.iastore, 1) := by decide +kernel
theorem dX3_putLevel_21 : decode cX3_putLevel 21 = .ok (.return_, 1) := by decide +kernel
theorem dX4_init_0 : decode cX4_init 0 = .ok (.aload_n 0, 1) := by decide +kernel
theorem dX4_init_1 : decode cX4_init 1 = .ok (.invokespecial 3, 3) := by decide +kernel
theorem dX4_init_4 : decode cX4_init 4 = .ok (.aload_n 0, 1) := by decide +kernel
theorem dX4_init_5 : decode cX4_init 5 = .ok (.bipush 6, 2) := by decide +kernel
theorem dX4_init_7 : decode cX4_init 7 = .ok (.newarray .int, 2) := by decide +kernel
theorem dX4_init_9 : decode cX4_init 9 = .ok (.putfield 9, 3) := by decide +kernel
theorem dX4_init_12 : decode cX4_init 12 = .ok (.aload_n 0, 1) := by decide +kernel
theorem dX4_init_13 : decode cX4_init 13 = .ok (.bipush 6, 2) := by decide +kernel
theorem dX4_init_15 : decode cX4_init 15 = .ok (.newarray .int, 2) := by decide +kernel
theorem dX4_init_17 : decode cX4_init 17 = .ok (.putfield 15, 3) := by decide +kernel
theorem dX4_init_20 : decode cX4_init 20 = .ok (.aload_n 0, 1) := by decide +kernel
theorem dX4_init_21 : decode cX4_init 21 = .ok (.bipush 48, 2) := by decide +kernel
theorem dX4_init_23 : decode cX4_init 23 = .ok (.newarray .int, 2) := by decide +kernel
theorem dX4_init_25 : decode cX4_init 25 = .ok (.putfield 18, 3) := by decide +kernel
theorem dX4_init_28 : decode cX4_init 28 = .ok (.aload_n 0, 1) := by decide +kernel
theorem dX4_init_29 : decode cX4_init 29 = .ok (.bipush 55, 2) := by decide +kernel
theorem dX4_init_31 : decode cX4_init 31 = .ok (.newarray .int, 2) := by decide +kernel
theorem dX4_init_33 : decode cX4_init 33 = .ok (.putfield 21, 3) := by decide +kernel
theorem dX4_init_36 : decode cX4_init 36 = .ok (.return_, 1) := by decide +kernel
theorem dX4_append_0 : decode cX4_append 0 = .ok (.aload_n 0, 1) := by decide +kernel
theorem dX4_append_1 : decode cX4_append 1 = .ok (.getfield 24, 3) := by decide +kernel
theorem dX4_append_4 : decode cX4_append 4 = .ok (.bipush 6, 2) := by decide +kernel
theorem dX4_append_6 : decode cX4_append 6 = .ok (.if_icmp .ge 33, 3) := by decide +kernel
theorem dX4_append_9 : decode cX4_append 9 = .ok (.aload_n 0, 1) := by decide +kernel
theorem dX4_append_10 : decode cX4_append 10 = .ok (.getfield 9, 3) := by decide +kernel
theorem dX4_append_13 : decode cX4_append 13 = .ok (.aload_n 0, 1) := by decide +kernel
theorem dX4_append_14 : decode cX4_append 14 = .ok (.getfield 24, 3) := by decide +kernel
theorem dX4_append_17 : decode cX4_append 17 = .ok (.iload_n 1, 1) := by decide +kernel
theorem dX4_append_18 : decode cX4_append 18 = .ok (.iastore, 1) := by decide +kernel
theorem dX4_append_19 : decode cX4_append 19 = .ok (.aload_n 0, 1) := by decide +kernel
theorem dX4_append_20 : decode cX4_append 20 = .ok (.getfield 15, 3) := by decide +kernel
theorem dX4_append_23 : decode cX4_append 23 = .ok (.aload_n 0, 1) := by decide +kernel
theorem dX4_append_24 : decode cX4_append 24 = .ok (.getfield 24, 3) := by decide +kernel
theorem dX4_append_27 : decode cX4_append 27 = .ok (.iload_n 2, 1) := by decide +kernel
theorem dX4_append_28 : decode cX4_append 28 = .ok (.iastore, 1) := by decide +kernel
theorem dX4_append_29 : decode cX4_append 29 = .ok (.aload_n 0, 1) := by decide +kernel
theorem dX4_append_30 : decode cX4_append 30 = .ok (.dup, 1) := by decide +kernel
theorem dX4_append_31 : decode cX4_append 31 = .ok (.getfield 24, 3) := by decide +kernel
theorem dX4_append_34 : decode cX4_append 34 = .ok (.iconst 1, 1) := by decide +kernel
theorem dX4_append_35 : decode cX4_append 35 = .ok (.iadd, 1) := by decide +kernel
theorem dX4_append_36 : decode cX4_append 36 = .ok (.putfield 24, 3) := by decide +kernel
theorem dX4_append_39 : decode cX4_append 39 = .ok (.return_, 1) := by decide +kernel
theorem dX4_gather_0 : decode cX4_gather 0 = .ok (.aload_n 0, 1) := by decide +kernel
theorem dX4_gather_1 : decode cX4_gather 1 = .ok (.iconst 0, 1) := by decide +kernel
theorem dX4_gather_2 : decode cX4_gather 2 = .ok (.putfield 28, 3) := by decide +kernel
theorem dX4_gather_5 : decode cX4_gather 5 = .ok (.iconst 0, 1) := by decide +kernel
theorem dX4_gather_6 : decode cX4_gather 6 = .ok (.istore_n 2, 1) := by decide +kernel
theorem dX4_gather_7 : decode cX4_gather 7 = .ok (.iload_n 2, 1) := by decide +kernel
theorem dX4_gather_8 : decode cX4_gather 8 = .ok (.aload_n 1, 1) := by decide +kernel
theorem dX4_gather_9 : decode cX4_gather 9 = .ok (.getfield 31, 3) := by decide +kernel
theorem dX4_gather_12 : decode cX4_gather 12 = .ok (.if_icmp .ge 38, 3) := by decide +kernel
theorem dX4_gather_15 : decode cX4_gather 15 = .ok (.aload_n 0, 1) := by decide +kernel
theorem dX4_gather_16 : decode cX4_gather 16 = .ok (.aload_n 1, 1) := by decide +kernel
theorem dX4_gather_17 : decode cX4_gather 17 = .ok (.iload_n 2, 1) := by decide +kernel
theorem dX4_gather_18 : decode cX4_gather 18 = .ok (.invokevirtual 34, 3) := by decide +kernel
theorem dX4_gather_21 : decode cX4_gather 21 = .ok (.ifCond .eq 23, 3) := by decide +kernel
theorem dX4_gather_24 : decode cX4_gather 24 = .ok (.aload_n 0, 1) := by decide +kernel
theorem dX4_gather_25 : decode cX4_gather 25 = .ok (.getfield 18, 3) := by decide +kernel
theorem dX4_gather_28 : decode cX4_gather 28 = .ok (.aload_n 0, 1) := by decide +kernel
theorem dX4_gather_29 : decode cX4_gather 29 = .ok (.getfield 28, 3) := by decide +kernel
theorem dX4_gather_32 : decode cX4_gather 32 = .ok (.iload_n 2, 1) := by decide +kernel
theorem dX4_gather_33 : decode cX4_gather 33 = .ok (.iastore, 1) := by decide +kernel
theorem dX4_gather_34 : decode cX4_gather 34 = .ok (.aload_n 0, 1) := by decide +kernel
theorem dX4_gather_35 : decode cX4_gather 35 = .ok (.dup, 1) := by decide +kernel
theorem dX4_gather_36 : decode cX4_gather 36 = .ok (.getfield 28, 3) := by decide +kernel
theorem dX4_gather_39 : decode cX4_gather 39 = .ok (.iconst 1, 1) := by decide +kernel
theorem dX4_gather_40 : decode cX4_gather 40 = .ok (.iadd, 1) := by decide +kernel
theorem dX4_gather_41 : decode cX4_gather 41 = .ok (.putfield 28, 3) := by decide +kernel
theorem dX4_gather_44 : decode cX4_gather 44 = .ok (.iinc 2 1, 3) := by decide +kernel
theorem dX4_gather_47 : decode cX4_gather 47 = .ok (.goto (-40), 3) := by decide +kernel
theorem dX4_gather_50 : decode cX4_gather 50 = .ok (.return_, 1) := by decide +kernel
theorem dX4_fits_0 : decode cX4_fits 0 = .ok (.iconst 0, 1) := by decide +kernel
theorem dX4_fits_1 : decode cX4_fits 1 = .ok (.istore_n 3, 1) := by decide +kernel
theorem dX4_fits_2 : decode cX4_fits 2 = .ok (.iload_n 3, 1) := by decide +kernel
theorem dX4_fits_3 : decode cX4_fits 3 = .ok (.aload_n 0, 1) := by decide +kernel
theorem dX4_fits_4 : decode cX4_fits 4 = .ok (.getfield 24, 3) := by decide +kernel
theorem dX4_fits_7 : decode cX4_fits 7 = .ok (.if_icmp .ge 31, 3) := by decide +kernel
theorem dX4_fits_10 : decode cX4_fits 10 = .ok (.aload_n 1, 1) := by decide +kernel
theorem dX4_fits_11 : decode cX4_fits 11 = .ok (.iload_n 2, 1) := by decide +kernel
theorem dX4_fits_12 : decode cX4_fits 12 = .ok (.aload_n 0, 1) := by decide +kernel
theorem dX4_fits_13 : decode cX4_fits 13 = .ok (.getfield 9, 3) := by decide +kernel
theorem dX4_fits_16 : decode cX4_fits 16 = .ok (.iload_n 3, 1) := by decide +kernel
theorem dX4_fits_17 : decode cX4_fits 17 = .ok (.iaload, 1) := by decide +kernel
theorem dX4_fits_18 : decode cX4_fits 18 = .ok (.invokevirtual 38, 3) := by decide +kernel
theorem dX4_fits_21 : decode cX4_fits 21 = .ok (.aload_n 0, 1) := by decide +kernel
theorem dX4_fits_22 : decode cX4_fits 22 = .ok (.getfield 15, 3) := by decide +kernel
theorem dX4_fits_25 : decode cX4_fits 25 = .ok (.iload_n 3, 1) := by decide +kernel
theorem dX4_fits_26 : decode cX4_fits 26 = .ok (.iaload, 1) := by decide +kernel
theorem dX4_fits_27 : decode cX4_fits 27 = .ok (.if_icmp .eq 5, 3) := by decide +kernel
theorem dX4_fits_30 : decode cX4_fits 30 = .ok (.iconst 0, 1) := by decide +kernel
theorem dX4_fits_31 : decode cX4_fits 31 = .ok (.ireturn, 1) := by decide +kernel
theorem dX4_fits_32 : decode cX4_fits 32 = .ok (.iinc 3 1, 3) := by decide +kernel
theorem dX4_fits_35 : decode cX4_fits 35 = .ok (.goto (-33), 3) := by decide +kernel
theorem dX4_fits_38 : decode cX4_fits 38 = .ok (.iconst 1, 1) := by decide +kernel
theorem dX4_fits_39 : decode cX4_fits 39 = .ok (.ireturn, 1) := by decide +kernel
theorem dX4_mostAlike_0 : decode cX4_mostAlike 0 = .ok (.aload_n 0, 1) := by decide +kernel
theorem dX4_mostAlike_1 : decode cX4_mostAlike 1 = .ok (.getfield 21, 3) := by decide +kernel
theorem dX4_mostAlike_4 : decode cX4_mostAlike 4 = .ok (.iconst 0, 1) := by decide +kernel
theorem dX4_mostAlike_5 : decode cX4_mostAlike 5 = .ok (.invokestatic 42, 3) := by decide +kernel
theorem dX4_mostAlike_8 : decode cX4_mostAlike 8 = .ok (.iconst 0, 1) := by decide +kernel
theorem dX4_mostAlike_9 : decode cX4_mostAlike 9 = .ok (.istore_n 3, 1) := by decide +kernel
theorem dX4_mostAlike_10 : decode cX4_mostAlike 10 = .ok (.iconst 0, 1) := by decide +kernel
theorem dX4_mostAlike_11 : decode cX4_mostAlike 11 = .ok (.istore 4, 2) := by decide +kernel
theorem dX4_mostAlike_13 : decode cX4_mostAlike 13 = .ok (.iload 4, 2) := by decide +kernel
theorem dX4_mostAlike_15 : decode cX4_mostAlike 15 = .ok (.aload_n 0, 1) := by decide +kernel
theorem dX4_mostAlike_16 : decode cX4_mostAlike 16 = .ok (.getfield 28, 3) := by decide +kernel
theorem dX4_mostAlike_19 : decode cX4_mostAlike 19 = .ok (.if_icmp .ge 61, 3) := by decide +kernel
theorem dX4_mostAlike_22 : decode cX4_mostAlike 22 = .ok (.aload_n 1, 1) := by decide +kernel
theorem dX4_mostAlike_23 : decode cX4_mostAlike 23 = .ok (.aload_n 0, 1) := by decide +kernel
theorem dX4_mostAlike_24 : decode cX4_mostAlike 24 = .ok (.getfield 18, 3) := by decide +kernel
theorem dX4_mostAlike_27 : decode cX4_mostAlike 27 = .ok (.iload 4, 2) := by decide +kernel
theorem dX4_mostAlike_29 : decode cX4_mostAlike 29 = .ok (.iaload, 1) := by decide +kernel
theorem dX4_mostAlike_30 : decode cX4_mostAlike 30 = .ok (.iload_n 2, 1) := by decide +kernel
theorem dX4_mostAlike_31 : decode cX4_mostAlike 31 = .ok (.invokevirtual 38, 3) := by decide +kernel
theorem dX4_mostAlike_34 : decode cX4_mostAlike 34 = .ok (.bipush (-9), 2) := by decide +kernel
theorem dX4_mostAlike_36 : decode cX4_mostAlike 36 = .ok (.isub, 1) := by decide +kernel
theorem dX4_mostAlike_37 : decode cX4_mostAlike 37 = .ok (.istore 5, 2) := by decide +kernel
theorem dX4_mostAlike_39 : decode cX4_mostAlike 39 = .ok (.iload 5, 2) := by decide +kernel
theorem dX4_mostAlike_41 : decode cX4_mostAlike 41 = .ok (.ifCond .lt 33, 3) := by decide +kernel
theorem dX4_mostAlike_44 : decode cX4_mostAlike 44 = .ok (.iload 5, 2) := by decide +kernel
theorem dX4_mostAlike_46 : decode cX4_mostAlike 46 = .ok (.bipush 55, 2) := by decide +kernel
theorem dX4_mostAlike_48 : decode cX4_mostAlike 48 = .ok (.if_icmp .ge 26, 3) := by decide +kernel
theorem dX4_mostAlike_51 : decode cX4_mostAlike 51 = .ok (.aload_n 0, 1) := by decide +kernel
theorem dX4_mostAlike_52 : decode cX4_mostAlike 52 = .ok (.getfield 21, 3) := by decide +kernel
theorem dX4_mostAlike_55 : decode cX4_mostAlike 55 = .ok (.iload 5, 2) := by decide +kernel
theorem dX4_mostAlike_57 : decode cX4_mostAlike 57 = .ok (.dup2, 1) := by decide +kernel
theorem dX4_mostAlike_58 : decode cX4_mostAlike 58 = .ok (.iaload, 1) := by decide +kernel
theorem dX4_mostAlike_59 : decode cX4_mostAlike 59 = .ok (.iconst 1, 1) := by decide +kernel
theorem dX4_mostAlike_60 : decode cX4_mostAlike 60 = .ok (.iadd, 1) := by decide +kernel
theorem dX4_mostAlike_61 : decode cX4_mostAlike 61 = .ok (.iastore, 1) := by decide +kernel
theorem dX4_mostAlike_62 : decode cX4_mostAlike 62 = .ok (.iload_n 3, 1) := by decide +kernel
theorem dX4_mostAlike_63 : decode cX4_mostAlike 63 = .ok (.aload_n 0, 1) := by decide +kernel
theorem dX4_mostAlike_64 : decode cX4_mostAlike 64 = .ok (.getfield 21, 3) := by decide +kernel
theorem dX4_mostAlike_67 : decode cX4_mostAlike 67 = .ok (.iload 5, 2) := by decide +kernel
theorem dX4_mostAlike_69 : decode cX4_mostAlike 69 = .ok (.iaload, 1) := by decide +kernel
theorem dX4_mostAlike_70 : decode cX4_mostAlike 70 = .ok (.invokestatic 48, 3) := by decide +kernel
theorem dX4_mostAlike_73 : decode cX4_mostAlike 73 = .ok (.istore_n 3, 1) := by decide +kernel
theorem dX4_mostAlike_74 : decode cX4_mostAlike 74 = .ok (.iinc 4 1, 3) := by decide +kernel
theorem dX4_mostAlike_77 : decode cX4_mostAlike 77 = .ok (.goto (-64), 3) := by decide +kernel
theorem dX4_mostAlike_80 : decode cX4_mostAlike 80 = .ok (.iload_n 3, 1) := by decide +kernel
theorem dX4_mostAlike_81 : decode cX4_mostAlike 81 = .ok (.ireturn, 1) := by decide +kernel
theorem dX5_init_0 : decode cX5_init 0 = .ok (.aload_n 0, 1) := by decide +kernel
theorem dX5_init_1 : decode cX5_init 1 = .ok (.invokespecial 3, 3) := by decide +kernel
theorem dX5_init_4 : decode cX5_init 4 = .ok (.aload_n 0, 1) := by decide +kernel
theorem dX5_init_5 : decode cX5_init 5 = .ok (.sipush 140, 3) := by decide +kernel
theorem dX5_init_8 : decode cX5_init 8 = .ok (.newarray .char, 2) := by decide +kernel
theorem dX5_init_10 : decode cX5_init 10 = .ok (.putfield 9, 3) := by decide +kernel
theorem dX5_init_13 : decode cX5_init 13 = .ok (.return_, 1) := by decide +kernel
theorem dX5_append_0 : decode cX5_append 0 = .ok (.aload_n 0, 1) := by decide +kernel
theorem dX5_append_1 : decode cX5_append 1 = .ok (.getfield 15, 3) := by decide +kernel
theorem dX5_append_4 : decode cX5_append 4 = .ok (.sipush 140, 3) := by decide +kernel
theorem dX5_append_7 : decode cX5_append 7 = .ok (.if_icmp .ge 23, 3) := by decide +kernel
theorem dX5_append_10 : decode cX5_append 10 = .ok (.aload_n 0, 1) := by decide +kernel
theorem dX5_append_11 : decode cX5_append 11 = .ok (.getfield 9, 3) := by decide +kernel
theorem dX5_append_14 : decode cX5_append 14 = .ok (.aload_n 0, 1) := by decide +kernel
theorem dX5_append_15 : decode cX5_append 15 = .ok (.getfield 15, 3) := by decide +kernel
theorem dX5_append_18 : decode cX5_append 18 = .ok (.iload_n 1, 1) := by decide +kernel
theorem dX5_append_19 : decode cX5_append 19 = .ok (.castore, 1) := by decide +kernel
theorem dX5_append_20 : decode cX5_append 20 = .ok (.aload_n 0, 1) := by decide +kernel
theorem dX5_append_21 : decode cX5_append 21 = .ok (.dup, 1) := by decide +kernel
theorem dX5_append_22 : decode cX5_append 22 = .ok (.getfield 15, 3) := by decide +kernel
theorem dX5_append_25 : decode cX5_append 25 = .ok (.iconst 1, 1) := by decide +kernel
theorem dX5_append_26 : decode cX5_append 26 = .ok (.iadd, 1) := by decide +kernel
theorem dX5_append_27 : decode cX5_append 27 = .ok (.putfield 15, 3) := by decide +kernel
theorem dX5_append_30 : decode cX5_append 30 = .ok (.return_, 1) := by decide +kernel
theorem dX5_readAll_0 : decode cX5_readAll 0 = .ok (.aload_n 1, 1) := by decide +kernel
theorem dX5_readAll_1 : decode cX5_readAll 1 = .ok (.invokevirtual 19, 3) := by decide +kernel
theorem dX5_readAll_4 : decode cX5_readAll 4 = .ok (.aload_n 0, 1) := by decide +kernel
theorem dX5_readAll_5 : decode cX5_readAll 5 = .ok (.iconst 0, 1) := by decide +kernel
theorem dX5_readAll_6 : decode cX5_readAll 6 = .ok (.putfield 24, 3) := by decide +kernel
theorem dX5_readAll_9 : decode cX5_readAll 9 = .ok (.iconst 0, 1) := by decide +kernel
theorem dX5_readAll_10 : decode cX5_readAll 10 = .ok (.istore_n 2, 1) := by decide +kernel
theorem dX5_readAll_11 : decode cX5_readAll 11 = .ok (.iconst 0, 1) := by decide +kernel
theorem dX5_readAll_12 : decode cX5_readAll 12 = .ok (.istore_n 3, 1) := by decide +kernel
theorem dX5_readAll_13 : decode cX5_readAll 13 = .ok (.iload_n 3, 1) := by decide +kernel
theorem dX5_readAll_14 : decode cX5_readAll 14 = .ok (.sipush 140, 3) := by decide +kernel
theorem dX5_readAll_17 : decode cX5_readAll 17 = .ok (.if_icmp .ge 48, 3) := by decide +kernel
theorem dX5_readAll_20 : decode cX5_readAll 20 = .ok (.aload_n 0, 1) := by decide +kernel
theorem dX5_readAll_21 : decode cX5_readAll 21 = .ok (.invokevirtual 27, 3) := by decide +kernel
theorem dX5_readAll_24 : decode cX5_readAll 24 = .ok (.aload_n 0, 1) := by decide +kernel
theorem dX5_readAll_25 : decode cX5_readAll 25 = .ok (.getfield 30, 3) := by decide +kernel
theorem dX5_readAll_28 : decode cX5_readAll 28 = .ok (.ifCond .ne 12, 3) := by decide +kernel
theorem dX5_readAll_31 : decode cX5_readAll 31 = .ok (.aload_n 1, 1) := by decide +kernel
theorem dX5_readAll_32 : decode cX5_readAll 32 = .ok (.getfield 33, 3) := by decide +kernel
theorem dX5_readAll_35 : decode cX5_readAll 35 = .ok (.ifCond .le 5, 3) := by decide +kernel
theorem dX5_readAll_38 : decode cX5_readAll 38 = .ok (.iload_n 2, 1) := by decide +kernel
theorem dX5_readAll_39 : decode cX5_readAll 39 = .ok (.ireturn, 1) := by decide +kernel
theorem dX5_readAll_40 : decode cX5_readAll 40 = .ok (.aload_n 0, 1) := by decide +kernel
theorem dX5_readAll_41 : decode cX5_readAll 41 = .ok (.aload_n 1, 1) := by decide +kernel
theorem dX5_readAll_42 : decode cX5_readAll 42 = .ok (.invokevirtual 36, 3) := by decide +kernel
theorem dX5_readAll_45 : decode cX5_readAll 45 = .ok (.ifCond .ne 11, 3) := by decide +kernel
theorem dX5_readAll_48 : decode cX5_readAll 48 = .ok (.bipush (-10), 2) := by decide +kernel
theorem dX5_readAll_50 : decode cX5_readAll 50 = .ok (.aload_n 0, 1) := by decide +kernel
theorem dX5_readAll_51 : decode cX5_readAll 51 = .ok (.getfield 40, 3) := by decide +kernel
theorem dX5_readAll_54 : decode cX5_readAll 54 = .ok (.isub, 1) := by decide +kernel
theorem dX5_readAll_55 : decode cX5_readAll 55 = .ok (.ireturn, 1) := by decide +kernel
theorem dX5_readAll_56 : decode cX5_readAll 56 = .ok (.iinc 2 1, 3) := by decide +kernel
theorem dX5_readAll_59 : decode cX5_readAll 59 = .ok (.iinc 3 1, 3) := by decide +kernel
theorem dX5_readAll_62 : decode cX5_readAll 62 = .ok (.goto (-49), 3) := by decide +kernel
theorem dX5_readAll_65 : decode cX5_readAll 65 = .ok (.bipush (-10), 2) := by decide +kernel
theorem dX5_readAll_67 : decode cX5_readAll 67 = .ok (.aload_n 0, 1) := by decide +kernel
theorem dX5_readAll_68 : decode cX5_readAll 68 = .ok (.getfield 40, 3) := by decide +kernel
theorem dX5_readAll_71 : decode cX5_readAll 71 = .ok (.isub, 1) := by decide +kernel
theorem dX5_readAll_72 : decode cX5_readAll 72 = .ok (.ireturn, 1) := by decide +kernel
theorem dX5_readItem_0 : decode cX5_readItem 0 = .ok (.aload_n 0, 1) := by decide +kernel
theorem dX5_readItem_1 : decode cX5_readItem 1 = .ok (.ldc 43, 2) := by decide +kernel
theorem dX5_readItem_3 : decode cX5_readItem 3 = .ok (.invokevirtual 45, 3) := by decide +kernel
theorem dX5_readItem_6 : decode cX5_readItem 6 = .ok (.ifCond .eq 28, 3) := by decide +kernel
theorem dX5_readItem_9 : decode cX5_readItem 9 = .ok (.aload_n 1, 1) := by decide +kernel
theorem dX5_readItem_10 : decode cX5_readItem 10 = .ok (.getfield 33, 3) := by decide +kernel
theorem dX5_readItem_13 : decode cX5_readItem 13 = .ok (.bipush 8, 2) := by decide +kernel
theorem dX5_readItem_15 : decode cX5_readItem 15 = .ok (.if_icmp .lt 5, 3) := by decide +kernel
theorem dX5_readItem_18 : decode cX5_readItem 18 = .ok (.iconst 0, 1) := by decide +kernel
theorem dX5_readItem_19 : decode cX5_readItem 19 = .ok (.ireturn, 1) := by decide +kernel
theorem dX5_readItem_20 : decode cX5_readItem 20 = .ok (.aload_n 0, 1) := by decide +kernel
theorem dX5_readItem_21 : decode cX5_readItem 21 = .ok (.invokevirtual 27, 3) := by decide +kernel
theorem dX5_readItem_24 : decode cX5_readItem 24 = .ok (.aload_n 0, 1) := by decide +kernel
theorem dX5_readItem_25 : decode cX5_readItem 25 = .ok (.aload_n 1, 1) := by decide +kernel
theorem dX5_readItem_26 : decode cX5_readItem 26 = .ok (.invokevirtual 49, 3) := by decide +kernel
theorem dX5_readItem_29 : decode cX5_readItem 29 = .ok (.ifCond .ne 33, 3) := by decide +kernel
theorem dX5_readItem_32 : decode cX5_readItem 32 = .ok (.iconst 0, 1) := by decide +kernel
theorem dX5_readItem_33 : decode cX5_readItem 33 = .ok (.ireturn, 1) := by decide +kernel
theorem dX5_readItem_34 : decode cX5_readItem 34 = .ok (.aload_n 0, 1) := by decide +kernel
theorem dX5_readItem_35 : decode cX5_readItem 35 = .ok (.invokevirtual 52, 3) := by decide +kernel
theorem dX5_readItem_38 : decode cX5_readItem 38 = .ok (.istore_n 2, 1) := by decide +kernel
theorem dX5_readItem_39 : decode cX5_readItem 39 = .ok (.iload_n 2, 1) := by decide +kernel
theorem dX5_readItem_40 : decode cX5_readItem 40 = .ok (.bipush (-9), 2) := by decide +kernel
theorem dX5_readItem_42 : decode cX5_readItem 42 = .ok (.if_icmp .ne 5, 3) := by decide +kernel
theorem dX5_readItem_45 : decode cX5_readItem 45 = .ok (.iconst 0, 1) := by decide +kernel
theorem dX5_readItem_46 : decode cX5_readItem 46 = .ok (.ireturn, 1) := by decide +kernel
theorem dX5_readItem_47 : decode cX5_readItem 47 = .ok (.aload_n 0, 1) := by decide +kernel
theorem dX5_readItem_48 : decode cX5_readItem 48 = .ok (.invokevirtual 27, 3) := by decide +kernel
theorem dX5_readItem_51 : decode cX5_readItem 51 = .ok (.aload_n 0, 1) := by decide +kernel
theorem dX5_readItem_52 : decode cX5_readItem 52 = .ok (.aload_n 1, 1) := by decide +kernel
theorem dX5_readItem_53 : decode cX5_readItem 53 = .ok (.iload_n 2, 1) := by decide +kernel
theorem dX5_readItem_54 : decode cX5_readItem 54 = .ok (.invokevirtual 56, 3) := by decide +kernel
theorem dX5_readItem_57 : decode cX5_readItem 57 = .ok (.ifCond .ne 5, 3) := by decide +kernel
theorem dX5_readItem_60 : decode cX5_readItem 60 = .ok (.iconst 0, 1) := by decide +kernel
theorem dX5_readItem_61 : decode cX5_readItem 61 = .ok (.ireturn, 1) := by decide +kernel
theorem dX5_readItem_62 : decode cX5_readItem 62 = .ok (.aload_n 0, 1) := by decide +kernel
theorem dX5_readItem_63 : decode cX5_readItem 63 = .ok (.invokevirtual 27, 3) := by decide +kernel
theorem dX5_readItem_66 : decode cX5_readItem 66 = .ok (.aload_n 0, 1) := by decide +kernel
theorem dX5_readItem_67 : decode cX5_readItem 67 = .ok (.getfield 30, 3) := by decide +kernel
theorem dX5_readItem_70 : decode cX5_readItem 70 = .ok (.iconst 3, 1) := by decide +kernel
theorem dX5_readItem_71 : decode cX5_readItem 71 = .ok (.if_icmp .ne 7, 3) := by decide +kernel
theorem dX5_readItem_74 : decode cX5_readItem 74 = .ok (.iconst 1, 1) := by decide +kernel
theorem dX5_readItem_75 : decode cX5_readItem 75 = .ok (.goto 4, 3) := by decide +kernel
theorem dX5_readItem_78 : decode cX5_readItem 78 = .ok (.iconst 0, 1) := by decide +kernel
theorem dX5_readItem_79 : decode cX5_readItem 79 = .ok (.ireturn, 1) := by decide +kernel
theorem dX5_readFrame_0 : decode cX5_readFrame 0 = .ok (.aload_n 0, 1) := by decide +kernel
theorem dX5_readFrame_1 : decode cX5_readFrame 1 = .ok (.getfield 24, 3) := by decide +kernel
theorem dX5_readFrame_4 : decode cX5_readFrame 4 = .ok (.aload_n 0, 1) := by decide +kernel
theorem dX5_readFrame_5 : decode cX5_readFrame 5 = .ok (.getfield 40, 3) := by decide +kernel
theorem dX5_readFrame_8 : decode cX5_readFrame 8 = .ok (.isub, 1) := by decide +kernel
theorem dX5_readFrame_9 : decode cX5_readFrame 9 = .ok (.istore_n 2, 1) := by decide +kernel
theorem dX5_readFrame_10 : decode cX5_readFrame 10 = .ok (.aload_n 0, 1) := by decide +kernel
theorem dX5_readFrame_11 : decode cX5_readFrame 11 = .ok (.getfield 30, 3) := by decide +kernel
theorem dX5_readFrame_14 : decode cX5_readFrame 14 = .ok (.iconst 2, 1) := by decide +kernel
theorem dX5_readFrame_15 : decode cX5_readFrame 15 = .ok (.if_icmp .ne 14, 3) := by decide +kernel
theorem dX5_readFrame_18 : decode cX5_readFrame 18 = .ok (.iload_n 2, 1) := by decide +kernel
theorem dX5_readFrame_19 : decode cX5_readFrame 19 = .ok (.iconst 3, 1) := by decide +kernel
theorem dX5_readFrame_20 : decode cX5_readFrame 20 = .ok (.if_icmp .lt 9, 3) := by decide +kernel
theorem dX5_readFrame_23 : decode cX5_readFrame 23 = .ok (.iload_n 2, 1) := by decide +kernel
theorem dX5_readFrame_24 : decode cX5_readFrame 24 = .ok (.bipush 12, 2) := by decide +kernel
theorem dX5_readFrame_26 : decode cX5_readFrame 26 = .ok (.if_icmp .le 5, 3) := by decide +kernel
theorem dX5_readFrame_29 : decode cX5_readFrame 29 = .ok (.iconst 0, 1) := by decide +kernel
theorem dX5_readFrame_30 : decode cX5_readFrame 30 = .ok (.ireturn, 1) := by decide +kernel
theorem dX5_readFrame_31 : decode cX5_readFrame 31 = .ok (.aload_n 1, 1) := by decide +kernel
theorem dX5_readFrame_32 : decode cX5_readFrame 32 = .ok (.getfield 33, 3) := by decide +kernel
theorem dX5_readFrame_35 : decode cX5_readFrame 35 = .ok (.ifCond .le 13, 3) := by decide +kernel
theorem dX5_readFrame_38 : decode cX5_readFrame 38 = .ok (.iload_n 2, 1) := by decide +kernel
theorem dX5_readFrame_39 : decode cX5_readFrame 39 = .ok (.aload_n 1, 1) := by decide +kernel
theorem dX5_readFrame_40 : decode cX5_readFrame 40 = .ok (.getfield 60, 3) := by decide +kernel
theorem dX5_readFrame_43 : decode cX5_readFrame 43 = .ok (.if_icmp .eq 5, 3) := by decide +kernel
theorem dX5_readFrame_46 : decode cX5_readFrame 46 = .ok (.iconst 0, 1) := by decide +kernel
theorem dX5_readFrame_47 : decode cX5_readFrame 47 = .ok (.ireturn, 1) := by decide +kernel
theorem dX5_readFrame_48 : decode cX5_readFrame 48 = .ok (.aload_n 1, 1) := by decide +kernel
theorem dX5_readFrame_49 : decode cX5_readFrame 49 = .ok (.iload_n 2, 1) := by decide +kernel
theorem dX5_readFrame_50 : decode cX5_readFrame 50 = .ok (.putfield 60, 3) := by decide +kernel
theorem dX5_readFrame_53 : decode cX5_readFrame 53 = .ok (.aload_n 1, 1) := by decide +kernel
theorem dX5_readFrame_54 : decode cX5_readFrame 54 = .ok (.dup, 1) := by decide +kernel
theorem dX5_readFrame_55 : decode cX5_readFrame 55 = .ok (.getfield 33, 3) := by decide +kernel
theorem dX5_readFrame_58 : decode cX5_readFrame 58 = .ok (.iconst 1, 1) := by decide +kernel
theorem dX5_readFrame_59 : decode cX5_readFrame 59 = .ok (.iadd, 1) := by decide +kernel
theorem dX5_readFrame_60 : decode cX5_readFrame 60 = .ok (.putfield 33, 3) := by decide +kernel
theorem dX5_readFrame_63 : decode cX5_readFrame 63 = .ok (.iconst 0, 1) := by decide +kernel
theorem dX5_readFrame_64 : decode cX5_readFrame 64 = .ok (.istore_n 3, 1) := by decide +kernel
theorem dX5_readFrame_65 : decode cX5_readFrame 65 = .ok (.iload_n 3, 1) := by decide +kernel
theorem dX5_readFrame_66 : decode cX5_readFrame 66 = .ok (.iload_n 2, 1) := by decide +kernel
theorem dX5_readFrame_67 : decode cX5_readFrame 67 = .ok (.if_icmp .ge 30, 3) := by decide +kernel
theorem dX5_readFrame_70 : decode cX5_readFrame 70 = .ok (.aload_n 1, 1) := by decide +kernel
theorem dX5_readFrame_71 : decode cX5_readFrame 71 = .ok (.aload_n 1, 1) := by decide +kernel
theorem dX5_readFrame_72 : decode cX5_readFrame 72 = .ok (.getfield 33, 3) := by decide +kernel
theorem dX5_readFrame_75 : decode cX5_readFrame 75 = .ok (.iconst 1, 1) := by decide +kernel
theorem dX5_readFrame_76 : decode cX5_readFrame 76 = .ok (.isub, 1) := by decide +kernel
theorem dX5_readFrame_77 : decode cX5_readFrame 77 = .ok (.iload_n 3, 1) := by decide +kernel
theorem dX5_readFrame_78 : decode cX5_readFrame 78 = .ok (.aload_n 0, 1) := by decide +kernel
theorem dX5_readFrame_79 : decode cX5_readFrame 79 = .ok (.aload_n 0, 1) := by decide +kernel
theorem dX5_readFrame_80 : decode cX5_readFrame 80 = .ok (.getfield 40, 3) := by decide +kernel
theorem dX5_readFrame_83 : decode cX5_readFrame 83 = .ok (.iload_n 3, 1) := by decide +kernel
theorem dX5_readFrame_84 : decode cX5_readFrame 84 = .ok (.iadd, 1) := by decide +kernel
theorem dX5_readFrame_85 : decode cX5_readFrame 85 = .ok (.invokevirtual 63, 3) := by decide +kernel
theorem dX5_readFrame_88 : decode cX5_readFrame 88 = .ok (.invokevirtual 67, 3) := by decide +kernel
theorem dX5_readFrame_91 : decode cX5_readFrame 91 = .ok (.iinc 3 1, 3) := by decide +kernel
theorem dX5_readFrame_94 : decode cX5_readFrame 94 = .ok (.goto (-29), 3) := by decide +kernel
theorem dX5_readFrame_97 : decode cX5_readFrame 97 = .ok (.iconst 1, 1) := by decide +kernel
theorem dX5_readFrame_98 : decode cX5_readFrame 98 = .ok (.ireturn, 1) := by decide +kernel
theorem dX5_readSetting_0 : decode cX5_readSetting 0 = .ok (.aload_n 0, 1) := by decide +kernel
theorem dX5_readSetting_1 : decode cX5_readSetting 1 = .ok (.getfield 24, 3) := by decide +kernel
theorem dX5_readSetting_4 : decode cX5_readSetting 4 = .ok (.aload_n 0, 1) := by decide +kernel
theorem dX5_readSetting_5 : decode cX5_readSetting 5 = .ok (.getfield 40, 3) := by decide +kernel
theorem dX5_readSetting_8 : decode cX5_readSetting 8 = .ok (.isub, 1) := by decide +kernel
theorem dX5_readSetting_9 : decode cX5_readSetting 9 = .ok (.istore_n 3, 1) := by decide +kernel
theorem dX5_readSetting_10 : decode cX5_readSetting 10 = .ok (.aload_n 0, 1) := by decide +kernel
theorem dX5_readSetting_11 : decode cX5_readSetting 11 = .ok (.getfield 30, 3) := by decide +kernel
theorem dX5_readSetting_14 : decode cX5_readSetting 14 = .ok (.iconst 2, 1) := by decide +kernel
theorem dX5_readSetting_15 : decode cX5_readSetting 15 = .ok (.if_icmp .ne 8, 3) := by decide +kernel
theorem dX5_readSetting_18 : decode cX5_readSetting 18 = .ok (.iload_n 3, 1) := by decide +kernel
theorem dX5_readSetting_19 : decode cX5_readSetting 19 = .ok (.iconst 2, 1) := by decide +kernel
theorem dX5_readSetting_20 : decode cX5_readSetting 20 = .ok (.if_icmp .le 5, 3) := by decide +kernel
theorem dX5_readSetting_23 : decode cX5_readSetting 23 = .ok (.iconst 0, 1) := by decide +kernel
theorem dX5_readSetting_24 : decode cX5_readSetting 24 = .ok (.ireturn, 1) := by decide +kernel
theorem dX5_readSetting_25 : decode cX5_readSetting 25 = .ok (.aload_n 0, 1) := by decide +kernel
theorem dX5_readSetting_26 : decode cX5_readSetting 26 = .ok (.aload_n 0, 1) := by decide +kernel
theorem dX5_readSetting_27 : decode cX5_readSetting 27 = .ok (.getfield 40, 3) := by decide +kernel
theorem dX5_readSetting_30 : decode cX5_readSetting 30 = .ok (.invokevirtual 63, 3) := by decide +kernel
theorem dX5_readSetting_33 : decode cX5_readSetting 33 = .ok (.istore 4, 2) := by decide +kernel
theorem dX5_readSetting_35 : decode cX5_readSetting 35 = .ok (.iload_n 3, 1) := by decide +kernel
theorem dX5_readSetting_36 : decode cX5_readSetting 36 = .ok (.iconst 2, 1) := by decide +kernel
theorem dX5_readSetting_37 : decode cX5_readSetting 37 = .ok (.if_icmp .ne 28, 3) := by decide +kernel
theorem dX5_readSetting_40 : decode cX5_readSetting 40 = .ok (.iload 4, 2) := by decide +kernel
theorem dX5_readSetting_42 : decode cX5_readSetting 42 = .ok (.ifCond .ne 5, 3) := by decide +kernel
theorem dX5_readSetting_45 : decode cX5_readSetting 45 = .ok (.iconst 0, 1) := by decide +kernel
theorem dX5_readSetting_46 : decode cX5_readSetting 46 = .ok (.ireturn, 1) := by decide +kernel
theorem dX5_readSetting_47 : decode cX5_readSetting 47 = .ok (.bipush 10, 2) := by decide +kernel
theorem dX5_readSetting_49 : decode cX5_readSetting 49 = .ok (.iload 4, 2) := by decide +kernel
theorem dX5_readSetting_51 : decode cX5_readSetting 51 = .ok (.imul, 1) := by decide +kernel
theorem dX5_readSetting_52 : decode cX5_readSetting 52 = .ok (.aload_n 0, 1) := by decide +kernel
theorem dX5_readSetting_53 : decode cX5_readSetting 53 = .ok (.aload_n 0, 1) := by decide +kernel
theorem dX5_readSetting_54 : decode cX5_readSetting 54 = .ok (.getfield 40, 3) := by decide +kernel
theorem dX5_readSetting_57 : decode cX5_readSetting 57 = .ok (.iconst 1, 1) := by decide +kernel
theorem dX5_readSetting_58 : decode cX5_readSetting 58 = .ok (.iadd, 1) := by decide +kernel
theorem dX5_readSetting_59 : decode cX5_readSetting 59 = .ok (.invokevirtual 63, 3) := by decide +kernel
theorem dX5_readSetting_62 : decode cX5_readSetting 62 = .ok (.iadd, 1) := by decide +kernel
theorem dX5_readSetting_63 : decode cX5_readSetting 63 = .ok (.istore 4, 2) := by decide +kernel
theorem dX5_readSetting_65 : decode cX5_readSetting 65 = .ok (.iload_n 2, 1) := by decide +kernel
theorem dX5_readSetting_66 : decode cX5_readSetting 66 = .ok (.iload 4, 2) := by decide +kernel
theorem dX5_readSetting_68 : decode cX5_readSetting 68 = .ok (.invokestatic 71, 3) := by decide +kernel
theorem dX5_readSetting_71 : decode cX5_readSetting 71 = .ok (.ifCond .ne 5, 3) := by decide +kernel
theorem dX5_readSetting_74 : decode cX5_readSetting 74 = .ok (.iconst 0, 1) := by decide +kernel
theorem dX5_readSetting_75 : decode cX5_readSetting 75 = .ok (.ireturn, 1) := by decide +kernel
theorem dX5_readSetting_76 : decode cX5_readSetting 76 = .ok (.aload_n 1, 1) := by decide +kernel
theorem dX5_readSetting_77 : decode cX5_readSetting 77 = .ok (.getfield 75, 3) := by decide +kernel
theorem dX5_readSetting_80 : decode cX5_readSetting 80 = .ok (.iload_n 2, 1) := by decide +kernel
theorem dX5_readSetting_81 : decode cX5_readSetting 81 = .ok (.iload 4, 2) := by decide +kernel
theorem dX5_readSetting_83 : decode cX5_readSetting 83 = .ok (.iastore, 1) := by decide +kernel
theorem dX5_readSetting_84 : decode cX5_readSetting 84 = .ok (.iconst 1, 1) := by decide +kernel
theorem dX5_readSetting_85 : decode cX5_readSetting 85 = .ok (.ireturn, 1) := by decide +kernel
theorem dX5_namedSetting_0 : decode cX5_namedSetting 0 = .ok (.aload_n 0, 1) := by decide +kernel
theorem dX5_namedSetting_1 : decode cX5_namedSetting 1 = .ok (.ldc 79, 2) := by decide +kernel
theorem dX5_namedSetting_3 : decode cX5_namedSetting 3 = .ok (.invokevirtual 45, 3) := by decide +kernel
theorem dX5_namedSetting_6 : decode cX5_namedSetting 6 = .ok (.ifCond .eq 5, 3) := by decide +kernel
theorem dX5_namedSetting_9 : decode cX5_namedSetting 9 = .ok (.iconst 0, 1) := by decide +kernel
theorem dX5_namedSetting_10 : decode cX5_namedSetting 10 = .ok (.ireturn, 1) := by decide +kernel
theorem dX5_namedSetting_11 : decode cX5_namedSetting 11 = .ok (.aload_n 0, 1) := by decide +kernel
theorem dX5_namedSetting_12 : decode cX5_namedSetting 12 = .ok (.ldc 81, 2) := by decide +kernel
theorem dX5_namedSetting_14 : decode cX5_namedSetting 14 = .ok (.invokevirtual 45, 3) := by decide +kernel
theorem dX5_namedSetting_17 : decode cX5_namedSetting 17 = .ok (.ifCond .eq 5, 3) := by decide +kernel
theorem dX5_namedSetting_20 : decode cX5_namedSetting 20 = .ok (.iconst 1, 1) := by decide +kernel
theorem dX5_namedSetting_21 : decode cX5_namedSetting 21 = .ok (.ireturn, 1) := by decide +kernel
theorem dX5_namedSetting_22 : decode cX5_namedSetting 22 = .ok (.aload_n 0, 1) := by decide +kernel
theorem dX5_namedSetting_23 : decode cX5_namedSetting 23 = .ok (.ldc 83, 2) := by decide +kernel
theorem dX5_namedSetting_25 : decode cX5_namedSetting 25 = .ok (.invokevirtual 45, 3) := by decide +kernel
theorem dX5_namedSetting_28 : decode cX5_namedSetting 28 = .ok (.ifCond .eq 7, 3) := by decide +kernel
theorem dX5_namedSetting_31 : decode cX5_namedSetting 31 = .ok (.iconst 2, 1) := by decide +kernel
theorem dX5_namedSetting_32 : decode cX5_namedSetting 32 = .ok (.goto 5, 3) := by decide +kernel
theorem dX5_namedSetting_35 : decode cX5_namedSetting 35 = .ok (.bipush (-9), 2) := by decide +kernel
theorem dX5_namedSetting_37 : decode cX5_namedSetting 37 = .ok (.ireturn, 1) := by decide +kernel
theorem dX5_nextToken_0 : decode cX5_nextToken 0 = .ok (.aload_n 0, 1) := by decide +kernel
theorem dX5_nextToken_1 : decode cX5_nextToken 1 = .ok (.getfield 24, 3) := by decide +kernel
theorem dX5_nextToken_4 : decode cX5_nextToken 4 = .ok (.istore_n 1, 1) := by decide +kernel
theorem dX5_nextToken_5 : decode cX5_nextToken 5 = .ok (.iload_n 1, 1) := by decide +kernel
theorem dX5_nextToken_6 : decode cX5_nextToken 6 = .ok (.aload_n 0, 1) := by decide +kernel
theorem dX5_nextToken_7 : decode cX5_nextToken 7 = .ok (.getfield 15, 3) := by decide +kernel
theorem dX5_nextToken_10 : decode cX5_nextToken 10 = .ok (.if_icmp .ge 20, 3) := by decide +kernel
theorem dX5_nextToken_13 : decode cX5_nextToken 13 = .ok (.aload_n 0, 1) := by decide +kernel
theorem dX5_nextToken_14 : decode cX5_nextToken 14 = .ok (.getfield 9, 3) := by decide +kernel
theorem dX5_nextToken_17 : decode cX5_nextToken 17 = .ok (.iload_n 1, 1) := by decide +kernel
theorem dX5_nextToken_18 : decode cX5_nextToken 18 = .ok (.caload, 1) := by decide +kernel
theorem dX5_nextToken_19 : decode cX5_nextToken 19 = .ok (.bipush 32, 2) := by decide +kernel
theorem dX5_nextToken_21 : decode cX5_nextToken 21 = .ok (.if_icmp .ne 9, 3) := by decide +kernel
theorem dX5_nextToken_24 : decode cX5_nextToken 24 = .ok (.iinc 1 1, 3) := by decide +kernel
theorem dX5_nextToken_27 : decode cX5_nextToken 27 = .ok (.goto (-22), 3) := by decide +kernel
theorem dX5_nextToken_30 : decode cX5_nextToken 30 = .ok (.aload_n 0, 1) := by decide +kernel
theorem dX5_nextToken_31 : decode cX5_nextToken 31 = .ok (.iload_n 1, 1) := by decide +kernel
theorem dX5_nextToken_32 : decode cX5_nextToken 32 = .ok (.putfield 40, 3) := by decide +kernel
theorem dX5_nextToken_35 : decode cX5_nextToken 35 = .ok (.aload_n 0, 1) := by decide +kernel
theorem dX5_nextToken_36 : decode cX5_nextToken 36 = .ok (.aload_n 0, 1) := by decide +kernel
theorem dX5_nextToken_37 : decode cX5_nextToken 37 = .ok (.iload_n 1, 1) := by decide +kernel
theorem dX5_nextToken_38 : decode cX5_nextToken 38 = .ok (.invokevirtual 85, 3) := by decide +kernel
theorem dX5_nextToken_41 : decode cX5_nextToken 41 = .ok (.putfield 30, 3) := by decide +kernel
theorem dX5_nextToken_44 : decode cX5_nextToken 44 = .ok (.aload_n 0, 1) := by decide +kernel
theorem dX5_nextToken_45 : decode cX5_nextToken 45 = .ok (.getfield 30, 3) := by decide +kernel
theorem dX5_nextToken_48 : decode cX5_nextToken 48 = .ok (.ifCond .eq 6, 3) := by decide +kernel
theorem dX5_nextToken_51 : decode cX5_nextToken 51 = .ok (.iinc 1 1, 3) := by decide +kernel
theorem dX5_nextToken_54 : decode cX5_nextToken 54 = .ok (.aload_n 0, 1) := by decide +kernel
theorem dX5_nextToken_55 : decode cX5_nextToken 55 = .ok (.getfield 30, 3) := by decide +kernel
theorem dX5_nextToken_58 : decode cX5_nextToken 58 = .ok (.iconst 1, 1) := by decide +kernel
theorem dX5_nextToken_59 : decode cX5_nextToken 59 = .ok (.if_icmp .eq 11, 3) := by decide +kernel
theorem dX5_nextToken_62 : decode cX5_nextToken 62 = .ok (.aload_n 0, 1) := by decide +kernel
theorem dX5_nextToken_63 : decode cX5_nextToken 63 = .ok (.getfield 30, 3) := by decide +kernel
theorem dX5_nextToken_66 : decode cX5_nextToken 66 = .ok (.iconst 2, 1) := by decide +kernel
theorem dX5_nextToken_67 : decode cX5_nextToken 67 = .ok (.if_icmp .ne 29, 3) := by decide +kernel
theorem dX5_nextToken_70 : decode cX5_nextToken 70 = .ok (.iload_n 1, 1) := by decide +kernel
theorem dX5_nextToken_71 : decode cX5_nextToken 71 = .ok (.aload_n 0, 1) := by decide +kernel
theorem dX5_nextToken_72 : decode cX5_nextToken 72 = .ok (.getfield 15, 3) := by decide +kernel
theorem dX5_nextToken_75 : decode cX5_nextToken 75 = .ok (.if_icmp .ge 21, 3) := by decide +kernel
theorem dX5_nextToken_78 : decode cX5_nextToken 78 = .ok (.aload_n 0, 1) := by decide +kernel
theorem dX5_nextToken_79 : decode cX5_nextToken 79 = .ok (.iload_n 1, 1) := by decide +kernel
theorem dX5_nextToken_80 : decode cX5_nextToken 80 = .ok (.invokevirtual 85, 3) := by decide +kernel
theorem dX5_nextToken_83 : decode cX5_nextToken 83 = .ok (.aload_n 0, 1) := by decide +kernel
theorem dX5_nextToken_84 : decode cX5_nextToken 84 = .ok (.getfield 30, 3) := by decide +kernel
theorem dX5_nextToken_87 : decode cX5_nextToken 87 = .ok (.if_icmp .ne 9, 3) := by decide +kernel
theorem dX5_nextToken_90 : decode cX5_nextToken 90 = .ok (.iinc 1 1, 3) := by decide +kernel
theorem dX5_nextToken_93 : decode cX5_nextToken 93 = .ok (.goto (-23), 3) := by decide +kernel
theorem dX5_nextToken_96 : decode cX5_nextToken 96 = .ok (.aload_n 0, 1) := by decide +kernel
theorem dX5_nextToken_97 : decode cX5_nextToken 97 = .ok (.iload_n 1, 1) := by decide +kernel
theorem dX5_nextToken_98 : decode cX5_nextToken 98 = .ok (.putfield 24, 3) := by decide +kernel
theorem dX5_nextToken_101 : decode cX5_nextToken 101 = .ok (.return_, 1) := by decide +kernel
theorem dX5_kindAt_0 : decode cX5_kindAt 0 = .ok (.iload_n 1, 1) := by decide +kernel
theorem dX5_kindAt_1 : decode cX5_kindAt 1 = .ok (.ifCond .lt 11, 3) := by decide +kernel
theorem dX5_kindAt_4 : decode cX5_kindAt 4 = .ok (.iload_n 1, 1) := by decide +kernel
theorem dX5_kindAt_5 : decode cX5_kindAt 5 = .ok (.aload_n 0, 1) := by decide +kernel
theorem dX5_kindAt_6 : decode cX5_kindAt 6 = .ok (.getfield 15, 3) := by decide +kernel
theorem dX5_kindAt_9 : decode cX5_kindAt 9 = .ok (.if_icmp .lt 5, 3) := by decide +kernel
theorem dX5_kindAt_12 : decode cX5_kindAt 12 = .ok (.iconst 0, 1) := by decide +kernel
theorem dX5_kindAt_13 : decode cX5_kindAt 13 = .ok (.ireturn, 1) := by decide +kernel
theorem dX5_kindAt_14 : decode cX5_kindAt 14 = .ok (.aload_n 0, 1) := by decide +kernel
theorem dX5_kindAt_15 : decode cX5_kindAt 15 = .ok (.getfield 9, 3) := by decide +kernel
theorem dX5_kindAt_18 : decode cX5_kindAt 18 = .ok (.iload_n 1, 1) := by decide +kernel
theorem dX5_kindAt_19 : decode cX5_kindAt 19 = .ok (.caload, 1) := by decide +kernel
theorem dX5_kindAt_20 : decode cX5_kindAt 20 = .ok (.istore_n 2, 1) := by decide +kernel
theorem dX5_kindAt_21 : decode cX5_kindAt 21 = .ok (.iload_n 2, 1) := by decide +kernel
theorem dX5_kindAt_22 : decode cX5_kindAt 22 = .ok (.bipush 97, 2) := by decide +kernel
theorem dX5_kindAt_24 : decode cX5_kindAt 24 = .ok (.if_icmp .lt 11, 3) := by decide +kernel
theorem dX5_kindAt_27 : decode cX5_kindAt 27 = .ok (.iload_n 2, 1) := by decide +kernel
theorem dX5_kindAt_28 : decode cX5_kindAt 28 = .ok (.bipush 122, 2) := by decide +kernel
theorem dX5_kindAt_30 : decode cX5_kindAt 30 = .ok (.if_icmp .gt 5, 3) := by decide +kernel
theorem dX5_kindAt_33 : decode cX5_kindAt 33 = .ok (.iconst 1, 1) := by decide +kernel
theorem dX5_kindAt_34 : decode cX5_kindAt 34 = .ok (.ireturn, 1) := by decide +kernel
theorem dX5_kindAt_35 : decode cX5_kindAt 35 = .ok (.iload_n 2, 1) := by decide +kernel
theorem dX5_kindAt_36 : decode cX5_kindAt 36 = .ok (.bipush 48, 2) := by decide +kernel
theorem dX5_kindAt_38 : decode cX5_kindAt 38 = .ok (.if_icmp .lt 11, 3) := by decide +kernel
theorem dX5_kindAt_41 : decode cX5_kindAt 41 = .ok (.iload_n 2, 1) := by decide +kernel
theorem dX5_kindAt_42 : decode cX5_kindAt 42 = .ok (.bipush 57, 2) := by decide +kernel
theorem dX5_kindAt_44 : decode cX5_kindAt 44 = .ok (.if_icmp .gt 5, 3) := by decide +kernel
theorem dX5_kindAt_47 : decode cX5_kindAt 47 = .ok (.iconst 2, 1) := by decide +kernel
theorem dX5_kindAt_48 : decode cX5_kindAt 48 = .ok (.ireturn, 1) := by decide +kernel
theorem dX5_kindAt_49 : decode cX5_kindAt 49 = .ok (.iload_n 2, 1) := by decide +kernel
theorem dX5_kindAt_50 : decode cX5_kindAt 50 = .ok (.bipush 59, 2) := by decide +kernel
theorem dX5_kindAt_52 : decode cX5_kindAt 52 = .ok (.if_icmp .ne 7, 3) := by decide +kernel
theorem dX5_kindAt_55 : decode cX5_kindAt 55 = .ok (.iconst 3, 1) := by decide +kernel
theorem dX5_kindAt_56 : decode cX5_kindAt 56 = .ok (.goto 4, 3) := by decide +kernel
theorem dX5_kindAt_59 : decode cX5_kindAt 59 = .ok (.iconst 4, 1) := by decide +kernel
theorem dX5_kindAt_60 : decode cX5_kindAt 60 = .ok (.ireturn, 1) := by decide +kernel
theorem dX5_figureAt_0 : decode cX5_figureAt 0 = .ok (.aload_n 0, 1) := by decide +kernel
theorem dX5_figureAt_1 : decode cX5_figureAt 1 = .ok (.iload_n 1, 1) := by decide +kernel
theorem dX5_figureAt_2 : decode cX5_figureAt 2 = .ok (.invokevirtual 85, 3) := by decide +kernel
theorem dX5_figureAt_5 : decode cX5_figureAt 5 = .ok (.iconst 2, 1) := by decide +kernel
theorem dX5_figureAt_6 : decode cX5_figureAt 6 = .ok (.if_icmp .ne 15, 3) := by decide +kernel
theorem dX5_figureAt_9 : decode cX5_figureAt 9 = .ok (.aload_n 0, 1) := by decide +kernel
theorem dX5_figureAt_10 : decode cX5_figureAt 10 = .ok (.getfield 9, 3) := by decide +kernel
theorem dX5_figureAt_13 : decode cX5_figureAt 13 = .ok (.iload_n 1, 1) := by decide +kernel
theorem dX5_figureAt_14 : decode cX5_figureAt 14 = .ok (.caload, 1) := by decide +kernel
theorem dX5_figureAt_15 : decode cX5_figureAt 15 = .ok (.bipush 48, 2) := by decide +kernel
theorem dX5_figureAt_17 : decode cX5_figureAt 17 = .ok (.isub, 1) := by decide +kernel
theorem dX5_figureAt_18 : decode cX5_figureAt 18 = .ok (.goto 4, 3) := by decide +kernel
theorem dX5_figureAt_21 : decode cX5_figureAt 21 = .ok (.iconst 0, 1) := by decide +kernel
theorem dX5_figureAt_22 : decode cX5_figureAt 22 = .ok (.ireturn, 1) := by decide +kernel
theorem dX5_isWord_0 : decode cX5_isWord 0 = .ok (.aload_n 0, 1) := by decide +kernel
theorem dX5_isWord_1 : decode cX5_isWord 1 = .ok (.getfield 30, 3) := by decide +kernel
theorem dX5_isWord_4 : decode cX5_isWord 4 = .ok (.iconst 1, 1) := by decide +kernel
theorem dX5_isWord_5 : decode cX5_isWord 5 = .ok (.if_icmp .ne 19, 3) := by decide +kernel
theorem dX5_isWord_8 : decode cX5_isWord 8 = .ok (.aload_n 0, 1) := by decide +kernel
theorem dX5_isWord_9 : decode cX5_isWord 9 = .ok (.getfield 24, 3) := by decide +kernel
theorem dX5_isWord_12 : decode cX5_isWord 12 = .ok (.aload_n 0, 1) := by decide +kernel
theorem dX5_isWord_13 : decode cX5_isWord 13 = .ok (.getfield 40, 3) := by decide +kernel
theorem dX5_isWord_16 : decode cX5_isWord 16 = .ok (.isub, 1) := by decide +kernel
theorem dX5_isWord_17 : decode cX5_isWord 17 = .ok (.aload_n 1, 1) := by decide +kernel
theorem dX5_isWord_18 : decode cX5_isWord 18 = .ok (.invokevirtual 88, 3) := by decide +kernel
theorem dX5_isWord_21 : decode cX5_isWord 21 = .ok (.if_icmp .eq 5, 3) := by decide +kernel
theorem dX5_isWord_24 : decode cX5_isWord 24 = .ok (.iconst 0, 1) := by decide +kernel
theorem dX5_isWord_25 : decode cX5_isWord 25 = .ok (.ireturn, 1) := by decide +kernel
theorem dX5_isWord_26 : decode cX5_isWord 26 = .ok (.iconst 0, 1) := by decide +kernel
theorem dX5_isWord_27 : decode cX5_isWord 27 = .ok (.istore_n 2, 1) := by decide +kernel
theorem dX5_isWord_28 : decode cX5_isWord 28 = .ok (.iload_n 2, 1) := by decide +kernel
theorem dX5_isWord_29 : decode cX5_isWord 29 = .ok (.aload_n 1, 1) := by decide +kernel
theorem dX5_isWord_30 : decode cX5_isWord 30 = .ok (.invokevirtual 88, 3) := by decide +kernel
theorem dX5_isWord_33 : decode cX5_isWord 33 = .ok (.if_icmp .ge 30, 3) := by decide +kernel
theorem dX5_isWord_36 : decode cX5_isWord 36 = .ok (.aload_n 0, 1) := by decide +kernel
theorem dX5_isWord_37 : decode cX5_isWord 37 = .ok (.getfield 9, 3) := by decide +kernel
theorem dX5_isWord_40 : decode cX5_isWord 40 = .ok (.aload_n 0, 1) := by decide +kernel
theorem dX5_isWord_41 : decode cX5_isWord 41 = .ok (.getfield 40, 3) := by decide +kernel
theorem dX5_isWord_44 : decode cX5_isWord 44 = .ok (.iload_n 2, 1) := by decide +kernel
theorem dX5_isWord_45 : decode cX5_isWord 45 = .ok (.iadd, 1) := by decide +kernel
theorem dX5_isWord_46 : decode cX5_isWord 46 = .ok (.caload, 1) := by decide +kernel
theorem dX5_isWord_47 : decode cX5_isWord 47 = .ok (.aload_n 1, 1) := by decide +kernel
theorem dX5_isWord_48 : decode cX5_isWord 48 = .ok (.iload_n 2, 1) := by decide +kernel
theorem dX5_isWord_49 : decode cX5_isWord 49 = .ok (.invokevirtual 92, 3) := by decide +kernel
theorem dX5_isWord_52 : decode cX5_isWord 52 = .ok (.if_icmp .eq 5, 3) := by decide +kernel
theorem dX5_isWord_55 : decode cX5_isWord 55 = .ok (.iconst 0, 1) := by decide +kernel
theorem dX5_isWord_56 : decode cX5_isWord 56 = .ok (.ireturn, 1) := by decide +kernel
theorem dX5_isWord_57 : decode cX5_isWord 57 = .ok (.iinc 2 1, 3) := by decide +kernel
theorem dX5_isWord_60 : decode cX5_isWord 60 = .ok (.goto (-32), 3) := by decide +kernel
theorem dX5_isWord_63 : decode cX5_isWord 63 = .ok (.iconst 1, 1) := by decide +kernel
theorem dX5_isWord_64 : decode cX5_isWord 64 = .ok (.ireturn, 1) := by decide +kernel
theorem dX6_init_0 : decode cX6_init 0 = .ok (.aload_n 0, 1) := by decide +kernel
theorem dX6_init_1 : decode cX6_init 1 = .ok (.invokespecial 3, 3) := by decide +kernel
theorem dX6_init_4 : decode cX6_init 4 = .ok (.aload_n 0, 1) := by decide +kernel
theorem dX6_init_5 : decode cX6_init 5 = .ok (.bipush 48, 2) := by decide +kernel
theorem dX6_init_7 : decode cX6_init 7 = .ok (.newarray .int, 2) := by decide +kernel
theorem dX6_init_9 : decode cX6_init 9 = .ok (.putfield 9, 3) := by decide +kernel
theorem dX6_init_12 : decode cX6_init 12 = .ok (.aload_n 0, 1) := by decide +kernel
theorem dX6_init_13 : decode cX6_init 13 = .ok (.bipush 48, 2) := by decide +kernel
theorem dX6_init_15 : decode cX6_init 15 = .ok (.newarray .int, 2) := by decide +kernel
theorem dX6_init_17 : decode cX6_init 17 = .ok (.putfield 15, 3) := by decide +kernel
theorem dX6_init_20 : decode cX6_init 20 = .ok (.aload_n 0, 1) := by decide +kernel
theorem dX6_init_21 : decode cX6_init 21 = .ok (.bipush 48, 2) := by decide +kernel
theorem dX6_init_23 : decode cX6_init 23 = .ok (.newarray .int, 2) := by decide +kernel
theorem dX6_init_25 : decode cX6_init 25 = .ok (.putfield 18, 3) := by decide +kernel
theorem dX6_init_28 : decode cX6_init 28 = .ok (.aload_n 0, 1) := by decide +kernel
theorem dX6_init_29 : decode cX6_init 29 = .ok (.bipush 48, 2) := by decide +kernel
theorem dX6_init_31 : decode cX6_init 31 = .ok (.newarray .int, 2) := by decide +kernel
theorem dX6_init_33 : decode cX6_init 33 = .ok (.putfield 21, 3) := by decide +kernel
theorem dX6_init_36 : decode cX6_init 36 = .ok (.aload_n 0, 1) := by decide +kernel
theorem dX6_init_37 : decode cX6_init 37 = .ok (.bipush 48, 2) := by decide +kernel
theorem dX6_init_39 : decode cX6_init 39 = .ok (.newarray .int, 2) := by decide +kernel
theorem dX6_init_41 : decode cX6_init 41 = .ok (.putfield 24, 3) := by decide +kernel
theorem dX6_init_44 : decode cX6_init 44 = .ok (.aload_n 0, 1) := by decide +kernel
theorem dX6_init_45 : decode cX6_init 45 = .ok (.bipush 48, 2) := by decide +kernel
theorem dX6_init_47 : decode cX6_init 47 = .ok (.newarray .int, 2) := by decide +kernel
theorem dX6_init_49 : decode cX6_init 49 = .ok (.putfield 27, 3) := by decide +kernel
theorem dX6_init_52 : decode cX6_init 52 = .ok (.aload_n 0, 1) := by decide +kernel
theorem dX6_init_53 : decode cX6_init 53 = .ok (.sipush 384, 3) := by decide +kernel
theorem dX6_init_56 : decode cX6_init 56 = .ok (.newarray .int, 2) := by decide +kernel
theorem dX6_init_58 : decode cX6_init 58 = .ok (.putfield 30, 3) := by decide +kernel
theorem dX6_init_61 : decode cX6_init 61 = .ok (.aload_n 0, 1) := by decide +kernel
theorem dX6_init_62 : decode cX6_init 62 = .ok (.bipush 48, 2) := by decide +kernel
theorem dX6_init_64 : decode cX6_init 64 = .ok (.newarray .int, 2) := by decide +kernel
theorem dX6_init_66 : decode cX6_init 66 = .ok (.putfield 33, 3) := by decide +kernel
theorem dX6_init_69 : decode cX6_init 69 = .ok (.aload_n 0, 1) := by decide +kernel
theorem dX6_init_70 : decode cX6_init 70 = .ok (.bipush 48, 2) := by decide +kernel
theorem dX6_init_72 : decode cX6_init 72 = .ok (.newarray .int, 2) := by decide +kernel
theorem dX6_init_74 : decode cX6_init 74 = .ok (.putfield 36, 3) := by decide +kernel
theorem dX6_init_77 : decode cX6_init 77 = .ok (.return_, 1) := by decide +kernel
theorem dX6_follow_0 : decode cX6_follow 0 = .ok (.aload_n 0, 1) := by decide +kernel
theorem dX6_follow_1 : decode cX6_follow 1 = .ok (.iconst 0, 1) := by decide +kernel
theorem dX6_follow_2 : decode cX6_follow 2 = .ok (.putfield 39, 3) := by decide +kernel
theorem dX6_follow_5 : decode cX6_follow 5 = .ok (.aload_n 0, 1) := by decide +kernel
theorem dX6_follow_6 : decode cX6_follow 6 = .ok (.getfield 30, 3) := by decide +kernel
theorem dX6_follow_9 : decode cX6_follow 9 = .ok (.bipush (-9), 2) := by decide +kernel
theorem dX6_follow_11 : decode cX6_follow 11 = .ok (.invokestatic 43, 3) := by decide +kernel
theorem dX6_follow_14 : decode cX6_follow 14 = .ok (.aload_n 0, 1) := by decide +kernel
theorem dX6_follow_15 : decode cX6_follow 15 = .ok (.getfield 33, 3) := by decide +kernel
theorem dX6_follow_18 : decode cX6_follow 18 = .ok (.bipush (-9), 2) := by decide +kernel
theorem dX6_follow_20 : decode cX6_follow 20 = .ok (.invokestatic 43, 3) := by decide +kernel
theorem dX6_follow_23 : decode cX6_follow 23 = .ok (.iconst 0, 1) := by decide +kernel
theorem dX6_follow_24 : decode cX6_follow 24 = .ok (.istore 4, 2) := by decide +kernel
theorem dX6_follow_26 : decode cX6_follow 26 = .ok (.iload 4, 2) := by decide +kernel
theorem dX6_follow_28 : decode cX6_follow 28 = .ok (.bipush 8, 2) := by decide +kernel
theorem dX6_follow_30 : decode cX6_follow 30 = .ok (.if_icmp .ge 92, 3) := by decide +kernel
theorem dX6_follow_33 : decode cX6_follow 33 = .ok (.aload_n 2, 1) := by decide +kernel
theorem dX6_follow_34 : decode cX6_follow 34 = .ok (.aload_n 1, 1) := by decide +kernel
theorem dX6_follow_35 : decode cX6_follow 35 = .ok (.iload 4, 2) := by decide +kernel
theorem dX6_follow_37 : decode cX6_follow 37 = .ok (.iload_n 3, 1) := by decide +kernel
theorem dX6_follow_38 : decode cX6_follow 38 = .ok (.invokevirtual 49, 3) := by decide +kernel
theorem dX6_follow_41 : decode cX6_follow 41 = .ok (.pop, 1) := by decide +kernel
theorem dX6_follow_42 : decode cX6_follow 42 = .ok (.iconst 0, 1) := by decide +kernel
theorem dX6_follow_43 : decode cX6_follow 43 = .ok (.istore 5, 2) := by decide +kernel
theorem dX6_follow_45 : decode cX6_follow 45 = .ok (.iload 5, 2) := by decide +kernel
theorem dX6_follow_47 : decode cX6_follow 47 = .ok (.aload_n 1, 1) := by decide +kernel
theorem dX6_follow_48 : decode cX6_follow 48 = .ok (.getfield 55, 3) := by decide +kernel
theorem dX6_follow_51 : decode cX6_follow 51 = .ok (.iload 4, 2) := by decide +kernel
theorem dX6_follow_53 : decode cX6_follow 53 = .ok (.iaload, 1) := by decide +kernel
theorem dX6_follow_54 : decode cX6_follow 54 = .ok (.if_icmp .ge 62, 3) := by decide +kernel
theorem dX6_follow_57 : decode cX6_follow 57 = .ok (.iload 4, 2) := by decide +kernel
theorem dX6_follow_59 : decode cX6_follow 59 = .ok (.bipush 6, 2) := by decide +kernel
theorem dX6_follow_61 : decode cX6_follow 61 = .ok (.imul, 1) := by decide +kernel
theorem dX6_follow_62 : decode cX6_follow 62 = .ok (.iload 5, 2) := by decide +kernel
theorem dX6_follow_64 : decode cX6_follow 64 = .ok (.iadd, 1) := by decide +kernel
theorem dX6_follow_65 : decode cX6_follow 65 = .ok (.istore 6, 2) := by decide +kernel
theorem dX6_follow_67 : decode cX6_follow 67 = .ok (.aload_n 0, 1) := by decide +kernel
theorem dX6_follow_68 : decode cX6_follow 68 = .ok (.getfield 33, 3) := by decide +kernel
theorem dX6_follow_71 : decode cX6_follow 71 = .ok (.iload 6, 2) := by decide +kernel
theorem dX6_follow_73 : decode cX6_follow 73 = .ok (.iaload, 1) := by decide +kernel
theorem dX6_follow_74 : decode cX6_follow 74 = .ok (.bipush (-9), 2) := by decide +kernel
theorem dX6_follow_76 : decode cX6_follow 76 = .ok (.if_icmp .ne 11, 3) := by decide +kernel
theorem dX6_follow_79 : decode cX6_follow 79 = .ok (.aload_n 0, 1) := by decide +kernel
theorem dX6_follow_80 : decode cX6_follow 80 = .ok (.iload 6, 2) := by decide +kernel
theorem dX6_follow_82 : decode cX6_follow 82 = .ok (.iload 4, 2) := by decide +kernel
theorem dX6_follow_84 : decode cX6_follow 84 = .ok (.invokevirtual 59, 3) := by decide +kernel
theorem dX6_follow_87 : decode cX6_follow 87 = .ok (.aload_n 0, 1) := by decide +kernel
theorem dX6_follow_88 : decode cX6_follow 88 = .ok (.getfield 36, 3) := by decide +kernel
theorem dX6_follow_91 : decode cX6_follow 91 = .ok (.iload 6, 2) := by decide +kernel
theorem dX6_follow_93 : decode cX6_follow 93 = .ok (.aload_n 2, 1) := by decide +kernel
theorem dX6_follow_94 : decode cX6_follow 94 = .ok (.getfield 63, 3) := by decide +kernel
theorem dX6_follow_97 : decode cX6_follow 97 = .ok (.iload 5, 2) := by decide +kernel
theorem dX6_follow_99 : decode cX6_follow 99 = .ok (.iaload, 1) := by decide +kernel
theorem dX6_follow_100 : decode cX6_follow 100 = .ok (.iastore, 1) := by decide +kernel
theorem dX6_follow_101 : decode cX6_follow 101 = .ok (.aload_n 0, 1) := by decide +kernel
theorem dX6_follow_102 : decode cX6_follow 102 = .ok (.aload_n 1, 1) := by decide +kernel
theorem dX6_follow_103 : decode cX6_follow 103 = .ok (.iload 6, 2) := by decide +kernel
theorem dX6_follow_105 : decode cX6_follow 105 = .ok (.iload 4, 2) := by decide +kernel
theorem dX6_follow_107 : decode cX6_follow 107 = .ok (.invokevirtual 66, 3) := by decide +kernel
theorem dX6_follow_110 : decode cX6_follow 110 = .ok (.iinc 5 1, 3) := by decide +kernel
theorem dX6_follow_113 : decode cX6_follow 113 = .ok (.goto (-68), 3) := by decide +kernel
theorem dX6_follow_116 : decode cX6_follow 116 = .ok (.iinc 4 1, 3) := by decide +kernel
theorem dX6_follow_119 : decode cX6_follow 119 = .ok (.goto (-93), 3) := by decide +kernel
theorem dX6_follow_122 : decode cX6_follow 122 = .ok (.iconst 0, 1) := by decide +kernel
theorem dX6_follow_123 : decode cX6_follow 123 = .ok (.istore 4, 2) := by decide +kernel
theorem dX6_follow_125 : decode cX6_follow 125 = .ok (.iload 4, 2) := by decide +kernel
theorem dX6_follow_127 : decode cX6_follow 127 = .ok (.aload_n 0, 1) := by decide +kernel
theorem dX6_follow_128 : decode cX6_follow 128 = .ok (.getfield 39, 3) := by decide +kernel
theorem dX6_follow_131 : decode cX6_follow 131 = .ok (.if_icmp .ge 15, 3) := by decide +kernel
theorem dX6_follow_134 : decode cX6_follow 134 = .ok (.aload_n 0, 1) := by decide +kernel
theorem dX6_follow_135 : decode cX6_follow 135 = .ok (.iload 4, 2) := by decide +kernel
theorem dX6_follow_137 : decode cX6_follow 137 = .ok (.invokevirtual 70, 3) := by decide +kernel
theorem dX6_follow_140 : decode cX6_follow 140 = .ok (.iinc 4 1, 3) := by decide +kernel
theorem dX6_follow_143 : decode cX6_follow 143 = .ok (.goto (-18), 3) := by decide +kernel
theorem dX6_follow_146 : decode cX6_follow 146 = .ok (.return_, 1) := by decide +kernel
theorem dX6_begin_0 : decode cX6_begin 0 = .ok (.aload_n 0, 1) := by decide +kernel
theorem dX6_begin_1 : decode cX6_begin 1 = .ok (.getfield 39, 3) := by decide +kernel
theorem dX6_begin_4 : decode cX6_begin 4 = .ok (.bipush 48, 2) := by decide +kernel
theorem dX6_begin_6 : decode cX6_begin 6 = .ok (.if_icmp .ge 53, 3) := by decide +kernel
theorem dX6_begin_9 : decode cX6_begin 9 = .ok (.aload_n 0, 1) := by decide +kernel
theorem dX6_begin_10 : decode cX6_begin 10 = .ok (.getfield 33, 3) := by decide +kernel
theorem dX6_begin_13 : decode cX6_begin 13 = .ok (.iload_n 1, 1) := by decide +kernel
theorem dX6_begin_14 : decode cX6_begin 14 = .ok (.aload_n 0, 1) := by decide +kernel
theorem dX6_begin_15 : decode cX6_begin 15 = .ok (.getfield 39, 3) := by decide +kernel
theorem dX6_begin_18 : decode cX6_begin 18 = .ok (.iastore, 1) := by decide +kernel
theorem dX6_begin_19 : decode cX6_begin 19 = .ok (.aload_n 0, 1) := by decide +kernel
theorem dX6_begin_20 : decode cX6_begin 20 = .ok (.getfield 9, 3) := by decide +kernel
theorem dX6_begin_23 : decode cX6_begin 23 = .ok (.aload_n 0, 1) := by decide +kernel
theorem dX6_begin_24 : decode cX6_begin 24 = .ok (.getfield 39, 3) := by decide +kernel
theorem dX6_begin_27 : decode cX6_begin 27 = .ok (.iload_n 2, 1) := by decide +kernel
theorem dX6_begin_28 : decode cX6_begin 28 = .ok (.iastore, 1) := by decide +kernel
theorem dX6_begin_29 : decode cX6_begin 29 = .ok (.aload_n 0, 1) := by decide +kernel
theorem dX6_begin_30 : decode cX6_begin 30 = .ok (.getfield 15, 3) := by decide +kernel
theorem dX6_begin_33 : decode cX6_begin 33 = .ok (.aload_n 0, 1) := by decide +kernel
theorem dX6_begin_34 : decode cX6_begin 34 = .ok (.getfield 39, 3) := by decide +kernel
theorem dX6_begin_37 : decode cX6_begin 37 = .ok (.iconst 0, 1) := by decide +kernel
theorem dX6_begin_38 : decode cX6_begin 38 = .ok (.iastore, 1) := by decide +kernel
theorem dX6_begin_39 : decode cX6_begin 39 = .ok (.aload_n 0, 1) := by decide +kernel
theorem dX6_begin_40 : decode cX6_begin 40 = .ok (.getfield 27, 3) := by decide +kernel
theorem dX6_begin_43 : decode cX6_begin 43 = .ok (.aload_n 0, 1) := by decide +kernel
theorem dX6_begin_44 : decode cX6_begin 44 = .ok (.getfield 39, 3) := by decide +kernel
theorem dX6_begin_47 : decode cX6_begin 47 = .ok (.iconst 0, 1) := by decide +kernel
theorem dX6_begin_48 : decode cX6_begin 48 = .ok (.iastore, 1) := by decide +kernel
theorem dX6_begin_49 : decode cX6_begin 49 = .ok (.aload_n 0, 1) := by decide +kernel
theorem dX6_begin_50 : decode cX6_begin 50 = .ok (.dup, 1) := by decide +kernel
theorem dX6_begin_51 : decode cX6_begin 51 = .ok (.getfield 39, 3) := by decide +kernel
theorem dX6_begin_54 : decode cX6_begin 54 = .ok (.iconst 1, 1) := by decide +kernel
theorem dX6_begin_55 : decode cX6_begin 55 = .ok (.iadd, 1) := by decide +kernel
theorem dX6_begin_56 : decode cX6_begin 56 = .ok (.putfield 39, 3) := by decide +kernel
theorem dX6_begin_59 : decode cX6_begin 59 = .ok (.return_, 1) := by decide +kernel
theorem dX6_addPeak_0 : decode cX6_addPeak 0 = .ok (.aload_n 0, 1) := by decide +kernel
theorem dX6_addPeak_1 : decode cX6_addPeak 1 = .ok (.getfield 33, 3) := by decide +kernel
theorem dX6_addPeak_4 : decode cX6_addPeak 4 = .ok (.iload_n 2, 1) := by decide +kernel
theorem dX6_addPeak_5 : decode cX6_addPeak 5 = .ok (.iaload, 1) := by decide +kernel
theorem dX6_addPeak_6 : decode cX6_addPeak 6 = .ok (.istore 4, 2) := by decide +kernel
theorem dX6_addPeak_8 : decode cX6_addPeak 8 = .ok (.iload 4, 2) := by decide +kernel
theorem dX6_addPeak_10 : decode cX6_addPeak 10 = .ok (.ifCond .lt 12, 3) := by decide +kernel
theorem dX6_addPeak_13 : decode cX6_addPeak 13 = .ok (.iload 4, 2) := by decide +kernel
theorem dX6_addPeak_15 : decode cX6_addPeak 15 = .ok (.aload_n 0, 1) := by decide +kernel
theorem dX6_addPeak_16 : decode cX6_addPeak 16 = .ok (.getfield 39, 3) := by decide +kernel
theorem dX6_addPeak_19 : decode cX6_addPeak 19 = .ok (.if_icmp .lt 4, 3) := by decide +kernel
theorem dX6_addPeak_22 : decode cX6_addPeak 22 = .ok (.return_, 1) := by decide +kernel
theorem dX6_addPeak_23 : decode cX6_addPeak 23 = .ok (.aload_n 0, 1) := by decide +kernel
theorem dX6_addPeak_24 : decode cX6_addPeak 24 = .ok (.getfield 15, 3) := by decide +kernel
theorem dX6_addPeak_27 : decode cX6_addPeak 27 = .ok (.iload 4, 2) := by decide +kernel
theorem dX6_addPeak_29 : decode cX6_addPeak 29 = .ok (.dup2, 1) := by decide +kernel
theorem dX6_addPeak_30 : decode cX6_addPeak 30 = .ok (.iaload, 1) := by decide +kernel
theorem dX6_addPeak_31 : decode cX6_addPeak 31 = .ok (.iconst 1, 1) := by decide +kernel
theorem dX6_addPeak_32 : decode cX6_addPeak 32 = .ok (.iadd, 1) := by decide +kernel
theorem dX6_addPeak_33 : decode cX6_addPeak 33 = .ok (.iastore, 1) := by decide +kernel
theorem dX6_addPeak_34 : decode cX6_addPeak 34 = .ok (.aload_n 0, 1) := by decide +kernel
theorem dX6_addPeak_35 : decode cX6_addPeak 35 = .ok (.getfield 27, 3) := by decide +kernel
theorem dX6_addPeak_38 : decode cX6_addPeak 38 = .ok (.iload 4, 2) := by decide +kernel
theorem dX6_addPeak_40 : decode cX6_addPeak 40 = .ok (.dup2, 1) := by decide +kernel
theorem dX6_addPeak_41 : decode cX6_addPeak 41 = .ok (.iaload, 1) := by decide +kernel
theorem dX6_addPeak_42 : decode cX6_addPeak 42 = .ok (.aload_n 1, 1) := by decide +kernel
theorem dX6_addPeak_43 : decode cX6_addPeak 43 = .ok (.getfield 74, 3) := by decide +kernel
theorem dX6_addPeak_46 : decode cX6_addPeak 46 = .ok (.iload_n 2, 1) := by decide +kernel
theorem dX6_addPeak_47 : decode cX6_addPeak 47 = .ok (.iaload, 1) := by decide +kernel
theorem dX6_addPeak_48 : decode cX6_addPeak 48 = .ok (.iadd, 1) := by decide +kernel
theorem dX6_addPeak_49 : decode cX6_addPeak 49 = .ok (.iastore, 1) := by decide +kernel
theorem dX6_addPeak_50 : decode cX6_addPeak 50 = .ok (.aload_n 0, 1) := by decide +kernel
theorem dX6_addPeak_51 : decode cX6_addPeak 51 = .ok (.getfield 30, 3) := by decide +kernel
theorem dX6_addPeak_54 : decode cX6_addPeak 54 = .ok (.iload 4, 2) := by decide +kernel
theorem dX6_addPeak_56 : decode cX6_addPeak 56 = .ok (.bipush 8, 2) := by decide +kernel
theorem dX6_addPeak_58 : decode cX6_addPeak 58 = .ok (.imul, 1) := by decide +kernel
theorem dX6_addPeak_59 : decode cX6_addPeak 59 = .ok (.iload_n 3, 1) := by decide +kernel
theorem dX6_addPeak_60 : decode cX6_addPeak 60 = .ok (.iadd, 1) := by decide +kernel
theorem dX6_addPeak_61 : decode cX6_addPeak 61 = .ok (.aload_n 1, 1) := by decide +kernel
theorem dX6_addPeak_62 : decode cX6_addPeak 62 = .ok (.getfield 75, 3) := by decide +kernel
theorem dX6_addPeak_65 : decode cX6_addPeak 65 = .ok (.iload_n 2, 1) := by decide +kernel
theorem dX6_addPeak_66 : decode cX6_addPeak 66 = .ok (.iaload, 1) := by decide +kernel
theorem dX6_addPeak_67 : decode cX6_addPeak 67 = .ok (.iastore, 1) := by decide +kernel
theorem dX6_addPeak_68 : decode cX6_addPeak 68 = .ok (.aload_n 0, 1) := by decide +kernel
theorem dX6_addPeak_69 : decode cX6_addPeak 69 = .ok (.getfield 36, 3) := by decide +kernel
theorem dX6_addPeak_72 : decode cX6_addPeak 72 = .ok (.iload_n 2, 1) := by decide +kernel
theorem dX6_addPeak_73 : decode cX6_addPeak 73 = .ok (.iaload, 1) := by decide +kernel
theorem dX6_addPeak_74 : decode cX6_addPeak 74 = .ok (.bipush (-9), 2) := by decide +kernel
theorem dX6_addPeak_76 : decode cX6_addPeak 76 = .ok (.if_icmp .eq 31, 3) := by decide +kernel
theorem dX6_addPeak_79 : decode cX6_addPeak 79 = .ok (.iload_n 3, 1) := by decide +kernel
theorem dX6_addPeak_80 : decode cX6_addPeak 80 = .ok (.iconst 1, 1) := by decide +kernel
theorem dX6_addPeak_81 : decode cX6_addPeak 81 = .ok (.iadd, 1) := by decide +kernel
theorem dX6_addPeak_82 : decode cX6_addPeak 82 = .ok (.bipush 8, 2) := by decide +kernel
theorem dX6_addPeak_84 : decode cX6_addPeak 84 = .ok (.if_icmp .ge 23, 3) := by decide +kernel
theorem dX6_addPeak_87 : decode cX6_addPeak 87 = .ok (.aload_n 0, 1) := by decide +kernel
theorem dX6_addPeak_88 : decode cX6_addPeak 88 = .ok (.getfield 33, 3) := by decide +kernel
theorem dX6_addPeak_91 : decode cX6_addPeak 91 = .ok (.iload_n 3, 1) := by decide +kernel
theorem dX6_addPeak_92 : decode cX6_addPeak 92 = .ok (.iconst 1, 1) := by decide +kernel
theorem dX6_addPeak_93 : decode cX6_addPeak 93 = .ok (.iadd, 1) := by decide +kernel
theorem dX6_addPeak_94 : decode cX6_addPeak 94 = .ok (.bipush 6, 2) := by decide +kernel
theorem dX6_addPeak_96 : decode cX6_addPeak 96 = .ok (.imul, 1) := by decide +kernel
theorem dX6_addPeak_97 : decode cX6_addPeak 97 = .ok (.aload_n 0, 1) := by decide +kernel
theorem dX6_addPeak_98 : decode cX6_addPeak 98 = .ok (.getfield 36, 3) := by decide +kernel
theorem dX6_addPeak_101 : decode cX6_addPeak 101 = .ok (.iload_n 2, 1) := by decide +kernel
theorem dX6_addPeak_102 : decode cX6_addPeak 102 = .ok (.iaload, 1) := by decide +kernel
theorem dX6_addPeak_103 : decode cX6_addPeak 103 = .ok (.iadd, 1) := by decide +kernel
theorem dX6_addPeak_104 : decode cX6_addPeak 104 = .ok (.iload 4, 2) := by decide +kernel
theorem dX6_addPeak_106 : decode cX6_addPeak 106 = .ok (.iastore, 1) := by decide +kernel
theorem dX6_addPeak_107 : decode cX6_addPeak 107 = .ok (.return_, 1) := by decide +kernel
theorem dX6_measure_0 : decode cX6_measure 0 = .ok (.aload_n 0, 1) := by decide +kernel
theorem dX6_measure_1 : decode cX6_measure 1 = .ok (.iload_n 1, 1) := by decide +kernel
theorem dX6_measure_2 : decode cX6_measure 2 = .ok (.aload_n 0, 1) := by decide +kernel
theorem dX6_measure_3 : decode cX6_measure 3 = .ok (.getfield 9, 3) := by decide +kernel
theorem dX6_measure_6 : decode cX6_measure 6 = .ok (.iload_n 1, 1) := by decide +kernel
theorem dX6_measure_7 : decode cX6_measure 7 = .ok (.iaload, 1) := by decide +kernel
theorem dX6_measure_8 : decode cX6_measure 8 = .ok (.invokevirtual 76, 3) := by decide +kernel
theorem dX6_measure_11 : decode cX6_measure 11 = .ok (.istore_n 2, 1) := by decide +kernel
theorem dX6_measure_12 : decode cX6_measure 12 = .ok (.iload_n 2, 1) := by decide +kernel
theorem dX6_measure_13 : decode cX6_measure 13 = .ok (.istore_n 3, 1) := by decide +kernel
theorem dX6_measure_14 : decode cX6_measure 14 = .ok (.iload_n 2, 1) := by decide +kernel
theorem dX6_measure_15 : decode cX6_measure 15 = .ok (.istore 4, 2) := by decide +kernel
theorem dX6_measure_17 : decode cX6_measure 17 = .ok (.iconst 0, 1) := by decide +kernel
theorem dX6_measure_18 : decode cX6_measure 18 = .ok (.istore 5, 2) := by decide +kernel
theorem dX6_measure_20 : decode cX6_measure 20 = .ok (.iconst 0, 1) := by decide +kernel
theorem dX6_measure_21 : decode cX6_measure 21 = .ok (.istore 6, 2) := by decide +kernel
theorem dX6_measure_23 : decode cX6_measure 23 = .ok (.aload_n 0, 1) := by decide +kernel
theorem dX6_measure_24 : decode cX6_measure 24 = .ok (.getfield 21, 3) := by decide +kernel
theorem dX6_measure_27 : decode cX6_measure 27 = .ok (.iload_n 1, 1) := by decide +kernel
theorem dX6_measure_28 : decode cX6_measure 28 = .ok (.iconst 0, 1) := by decide +kernel
theorem dX6_measure_29 : decode cX6_measure 29 = .ok (.iastore, 1) := by decide +kernel
theorem dX6_measure_30 : decode cX6_measure 30 = .ok (.aload_n 0, 1) := by decide +kernel
theorem dX6_measure_31 : decode cX6_measure 31 = .ok (.getfield 9, 3) := by decide +kernel
theorem dX6_measure_34 : decode cX6_measure 34 = .ok (.iload_n 1, 1) := by decide +kernel
theorem dX6_measure_35 : decode cX6_measure 35 = .ok (.iaload, 1) := by decide +kernel
theorem dX6_measure_36 : decode cX6_measure 36 = .ok (.iconst 1, 1) := by decide +kernel
theorem dX6_measure_37 : decode cX6_measure 37 = .ok (.iadd, 1) := by decide +kernel
theorem dX6_measure_38 : decode cX6_measure 38 = .ok (.istore 7, 2) := by decide +kernel
theorem dX6_measure_40 : decode cX6_measure 40 = .ok (.iload 7, 2) := by decide +kernel
theorem dX6_measure_42 : decode cX6_measure 42 = .ok (.aload_n 0, 1) := by decide +kernel
theorem dX6_measure_43 : decode cX6_measure 43 = .ok (.getfield 9, 3) := by decide +kernel
theorem dX6_measure_46 : decode cX6_measure 46 = .ok (.iload_n 1, 1) := by decide +kernel
theorem dX6_measure_47 : decode cX6_measure 47 = .ok (.iaload, 1) := by decide +kernel
theorem dX6_measure_48 : decode cX6_measure 48 = .ok (.aload_n 0, 1) := by decide +kernel
theorem dX6_measure_49 : decode cX6_measure 49 = .ok (.getfield 15, 3) := by decide +kernel
theorem dX6_measure_52 : decode cX6_measure 52 = .ok (.iload_n 1, 1) := by decide +kernel
theorem dX6_measure_53 : decode cX6_measure 53 = .ok (.iaload, 1) := by decide +kernel
theorem dX6_measure_54 : decode cX6_measure 54 = .ok (.iadd, 1) := by decide +kernel
theorem dX6_measure_55 : decode cX6_measure 55 = .ok (.if_icmp .ge 74, 3) := by decide +kernel
theorem dX6_measure_58 : decode cX6_measure 58 = .ok (.aload_n 0, 1) := by decide +kernel
theorem dX6_measure_59 : decode cX6_measure 59 = .ok (.iload_n 1, 1) := by decide +kernel
theorem dX6_measure_60 : decode cX6_measure 60 = .ok (.iload 7, 2) := by decide +kernel
theorem dX6_measure_62 : decode cX6_measure 62 = .ok (.invokevirtual 76, 3) := by decide +kernel
theorem dX6_measure_65 : decode cX6_measure 65 = .ok (.iload_n 2, 1) := by decide +kernel
theorem dX6_measure_66 : decode cX6_measure 66 = .ok (.invokestatic 80, 3) := by decide +kernel
theorem dX6_measure_69 : decode cX6_measure 69 = .ok (.istore 8, 2) := by decide +kernel
theorem dX6_measure_71 : decode cX6_measure 71 = .ok (.aload_n 0, 1) := by decide +kernel
theorem dX6_measure_72 : decode cX6_measure 72 = .ok (.iload_n 1, 1) := by decide +kernel
theorem dX6_measure_73 : decode cX6_measure 73 = .ok (.iload 7, 2) := by decide +kernel
theorem dX6_measure_75 : decode cX6_measure 75 = .ok (.invokevirtual 76, 3) := by decide +kernel
theorem dX6_measure_78 : decode cX6_measure 78 = .ok (.istore_n 2, 1) := by decide +kernel
theorem dX6_measure_79 : decode cX6_measure 79 = .ok (.iload_n 3, 1) := by decide +kernel
theorem dX6_measure_80 : decode cX6_measure 80 = .ok (.iload_n 2, 1) := by decide +kernel
theorem dX6_measure_81 : decode cX6_measure 81 = .ok (.invokestatic 85, 3) := by decide +kernel
theorem dX6_measure_84 : decode cX6_measure 84 = .ok (.istore_n 3, 1) := by decide +kernel
theorem dX6_measure_85 : decode cX6_measure 85 = .ok (.iload 4, 2) := by decide +kernel
theorem dX6_measure_87 : decode cX6_measure 87 = .ok (.iload_n 2, 1) := by decide +kernel
theorem dX6_measure_88 : decode cX6_measure 88 = .ok (.invokestatic 90, 3) := by decide +kernel
theorem dX6_measure_91 : decode cX6_measure 91 = .ok (.istore 4, 2) := by decide +kernel
theorem dX6_measure_93 : decode cX6_measure 93 = .ok (.iload 8, 2) := by decide +kernel
theorem dX6_measure_95 : decode cX6_measure 95 = .ok (.ifCond .eq 28, 3) := by decide +kernel
theorem dX6_measure_98 : decode cX6_measure 98 = .ok (.iinc 5 1, 3) := by decide +kernel
theorem dX6_measure_101 : decode cX6_measure 101 = .ok (.iload 6, 2) := by decide +kernel
theorem dX6_measure_103 : decode cX6_measure 103 = .ok (.iload 8, 2) := by decide +kernel
theorem dX6_measure_105 : decode cX6_measure 105 = .ok (.ineg, 1) := by decide +kernel
theorem dX6_measure_106 : decode cX6_measure 106 = .ok (.if_icmp .ne 13, 3) := by decide +kernel
theorem dX6_measure_109 : decode cX6_measure 109 = .ok (.aload_n 0, 1) := by decide +kernel
theorem dX6_measure_110 : decode cX6_measure 110 = .ok (.getfield 21, 3) := by decide +kernel
theorem dX6_measure_113 : decode cX6_measure 113 = .ok (.iload_n 1, 1) := by decide +kernel
theorem dX6_measure_114 : decode cX6_measure 114 = .ok (.dup2, 1) := by decide +kernel
theorem dX6_measure_115 : decode cX6_measure 115 = .ok (.iaload, 1) := by decide +kernel
theorem dX6_measure_116 : decode cX6_measure 116 = .ok (.iconst 1, 1) := by decide +kernel
theorem dX6_measure_117 : decode cX6_measure 117 = .ok (.iadd, 1) := by decide +kernel
theorem dX6_measure_118 : decode cX6_measure 118 = .ok (.iastore, 1) := by decide +kernel
theorem dX6_measure_119 : decode cX6_measure 119 = .ok (.iload 8, 2) := by decide +kernel
theorem dX6_measure_121 : decode cX6_measure 121 = .ok (.istore 6, 2) := by decide +kernel
theorem dX6_measure_123 : decode cX6_measure 123 = .ok (.iinc 7 1, 3) := by decide +kernel
theorem dX6_measure_126 : decode cX6_measure 126 = .ok (.goto (-86), 3) := by decide +kernel
theorem dX6_measure_129 : decode cX6_measure 129 = .ok (.aload_n 0, 1) := by decide +kernel
theorem dX6_measure_130 : decode cX6_measure 130 = .ok (.getfield 18, 3) := by decide +kernel
theorem dX6_measure_133 : decode cX6_measure 133 = .ok (.iload_n 1, 1) := by decide +kernel
theorem dX6_measure_134 : decode cX6_measure 134 = .ok (.iload 4, 2) := by decide +kernel
theorem dX6_measure_136 : decode cX6_measure 136 = .ok (.iload_n 3, 1) := by decide +kernel
theorem dX6_measure_137 : decode cX6_measure 137 = .ok (.isub, 1) := by decide +kernel
theorem dX6_measure_138 : decode cX6_measure 138 = .ok (.iastore, 1) := by decide +kernel
theorem dX6_measure_139 : decode cX6_measure 139 = .ok (.aload_n 0, 1) := by decide +kernel
theorem dX6_measure_140 : decode cX6_measure 140 = .ok (.getfield 24, 3) := by decide +kernel
theorem dX6_measure_143 : decode cX6_measure 143 = .ok (.iload_n 1, 1) := by decide +kernel
theorem dX6_measure_144 : decode cX6_measure 144 = .ok (.aload_n 0, 1) := by decide +kernel
theorem dX6_measure_145 : decode cX6_measure 145 = .ok (.getfield 18, 3) := by decide +kernel
theorem dX6_measure_148 : decode cX6_measure 148 = .ok (.iload_n 1, 1) := by decide +kernel
theorem dX6_measure_149 : decode cX6_measure 149 = .ok (.iaload, 1) := by decide +kernel
theorem dX6_measure_150 : decode cX6_measure 150 = .ok (.aload_n 0, 1) := by decide +kernel
theorem dX6_measure_151 : decode cX6_measure 151 = .ok (.getfield 21, 3) := by decide +kernel
theorem dX6_measure_154 : decode cX6_measure 154 = .ok (.iload_n 1, 1) := by decide +kernel
theorem dX6_measure_155 : decode cX6_measure 155 = .ok (.iaload, 1) := by decide +kernel
theorem dX6_measure_156 : decode cX6_measure 156 = .ok (.iload 5, 2) := by decide +kernel
theorem dX6_measure_158 : decode cX6_measure 158 = .ok (.invokestatic 93, 3) := by decide +kernel
theorem dX6_measure_161 : decode cX6_measure 161 = .ok (.iastore, 1) := by decide +kernel
theorem dX6_measure_162 : decode cX6_measure 162 = .ok (.return_, 1) := by decide +kernel
theorem dX6_kindBy_0 : decode cX6_kindBy 0 = .ok (.iload_n 0, 1) := by decide +kernel
theorem dX6_kindBy_1 : decode cX6_kindBy 1 = .ok (.iconst 1, 1) := by decide +kernel
theorem dX6_kindBy_2 : decode cX6_kindBy 2 = .ok (.if_icmp .gt 5, 3) := by decide +kernel
theorem dX6_kindBy_5 : decode cX6_kindBy 5 = .ok (.iconst 0, 1) := by decide +kernel
theorem dX6_kindBy_6 : decode cX6_kindBy 6 = .ok (.ireturn, 1) := by decide +kernel
theorem dX6_kindBy_7 : decode cX6_kindBy 7 = .ok (.iload_n 1, 1) := by decide +kernel
theorem dX6_kindBy_8 : decode cX6_kindBy 8 = .ok (.ifCond .ne 5, 3) := by decide +kernel
theorem dX6_kindBy_11 : decode cX6_kindBy 11 = .ok (.iconst 1, 1) := by decide +kernel
theorem dX6_kindBy_12 : decode cX6_kindBy 12 = .ok (.ireturn, 1) := by decide +kernel
theorem dX6_kindBy_13 : decode cX6_kindBy 13 = .ok (.iconst 2, 1) := by decide +kernel
theorem dX6_kindBy_14 : decode cX6_kindBy 14 = .ok (.iload_n 1, 1) := by decide +kernel
theorem dX6_kindBy_15 : decode cX6_kindBy 15 = .ok (.imul, 1) := by decide +kernel
theorem dX6_kindBy_16 : decode cX6_kindBy 16 = .ok (.iload_n 2, 1) := by decide +kernel
theorem dX6_kindBy_17 : decode cX6_kindBy 17 = .ok (.if_icmp .lt 7, 3) := by decide +kernel
theorem dX6_kindBy_20 : decode cX6_kindBy 20 = .ok (.iconst 2, 1) := by decide +kernel
theorem dX6_kindBy_21 : decode cX6_kindBy 21 = .ok (.goto 4, 3) := by decide +kernel
theorem dX6_kindBy_24 : decode cX6_kindBy 24 = .ok (.iconst 3, 1) := by decide +kernel
theorem dX6_kindBy_25 : decode cX6_kindBy 25 = .ok (.ireturn, 1) := by decide +kernel
theorem dX6_worthOf_0 : decode cX6_worthOf 0 = .ok (.aload_n 0, 1) := by decide +kernel
theorem dX6_worthOf_1 : decode cX6_worthOf 1 = .ok (.getfield 27, 3) := by decide +kernel
theorem dX6_worthOf_4 : decode cX6_worthOf 4 = .ok (.iload_n 1, 1) := by decide +kernel
theorem dX6_worthOf_5 : decode cX6_worthOf 5 = .ok (.iaload, 1) := by decide +kernel
theorem dX6_worthOf_6 : decode cX6_worthOf 6 = .ok (.aload_n 0, 1) := by decide +kernel
theorem dX6_worthOf_7 : decode cX6_worthOf 7 = .ok (.getfield 24, 3) := by decide +kernel
theorem dX6_worthOf_10 : decode cX6_worthOf 10 = .ok (.iload_n 1, 1) := by decide +kernel
theorem dX6_worthOf_11 : decode cX6_worthOf 11 = .ok (.iaload, 1) := by decide +kernel
theorem dX6_worthOf_12 : decode cX6_worthOf 12 = .ok (.iconst 1, 1) := by decide +kernel
theorem dX6_worthOf_13 : decode cX6_worthOf 13 = .ok (.iadd, 1) := by decide +kernel
theorem dX6_worthOf_14 : decode cX6_worthOf 14 = .ok (.imul, 1) := by decide +kernel
theorem dX6_worthOf_15 : decode cX6_worthOf 15 = .ok (.aload_n 0, 1) := by decide +kernel
theorem dX6_worthOf_16 : decode cX6_worthOf 16 = .ok (.getfield 18, 3) := by decide +kernel
theorem dX6_worthOf_19 : decode cX6_worthOf 19 = .ok (.iload_n 1, 1) := by decide +kernel
theorem dX6_worthOf_20 : decode cX6_worthOf 20 = .ok (.iaload, 1) := by decide +kernel
theorem dX6_worthOf_21 : decode cX6_worthOf 21 = .ok (.isub, 1) := by decide +kernel
theorem dX6_worthOf_22 : decode cX6_worthOf 22 = .ok (.ireturn, 1) := by decide +kernel
theorem dX6_pitchIn_0 : decode cX6_pitchIn 0 = .ok (.iload_n 1, 1) := by decide +kernel
theorem dX6_pitchIn_1 : decode cX6_pitchIn 1 = .ok (.ifCond .lt 21, 3) := by decide +kernel
theorem dX6_pitchIn_4 : decode cX6_pitchIn 4 = .ok (.iload_n 1, 1) := by decide +kernel
theorem dX6_pitchIn_5 : decode cX6_pitchIn 5 = .ok (.aload_n 0, 1) := by decide +kernel
theorem dX6_pitchIn_6 : decode cX6_pitchIn 6 = .ok (.getfield 39, 3) := by decide +kernel
theorem dX6_pitchIn_9 : decode cX6_pitchIn 9 = .ok (.if_icmp .ge 13, 3) := by decide +kernel
theorem dX6_pitchIn_12 : decode cX6_pitchIn 12 = .ok (.iload_n 2, 1) := by decide +kernel
theorem dX6_pitchIn_13 : decode cX6_pitchIn 13 = .ok (.ifCond .lt 9, 3) := by decide +kernel
theorem dX6_pitchIn_16 : decode cX6_pitchIn 16 = .ok (.iload_n 2, 1) := by decide +kernel
theorem dX6_pitchIn_17 : decode cX6_pitchIn 17 = .ok (.bipush 8, 2) := by decide +kernel
theorem dX6_pitchIn_19 : decode cX6_pitchIn 19 = .ok (.if_icmp .lt 6, 3) := by decide +kernel
theorem dX6_pitchIn_22 : decode cX6_pitchIn 22 = .ok (.bipush (-9), 2) := by decide +kernel
theorem dX6_pitchIn_24 : decode cX6_pitchIn 24 = .ok (.ireturn, 1) := by decide +kernel
theorem dX6_pitchIn_25 : decode cX6_pitchIn 25 = .ok (.aload_n 0, 1) := by decide +kernel
theorem dX6_pitchIn_26 : decode cX6_pitchIn 26 = .ok (.getfield 30, 3) := by decide +kernel
theorem dX6_pitchIn_29 : decode cX6_pitchIn 29 = .ok (.iload_n 1, 1) := by decide +kernel
theorem dX6_pitchIn_30 : decode cX6_pitchIn 30 = .ok (.bipush 8, 2) := by decide +kernel
theorem dX6_pitchIn_32 : decode cX6_pitchIn 32 = .ok (.imul, 1) := by decide +kernel
theorem dX6_pitchIn_33 : decode cX6_pitchIn 33 = .ok (.iload_n 2, 1) := by decide +kernel
theorem dX6_pitchIn_34 : decode cX6_pitchIn 34 = .ok (.iadd, 1) := by decide +kernel
theorem dX6_pitchIn_35 : decode cX6_pitchIn 35 = .ok (.iaload, 1) := by decide +kernel
theorem dX6_pitchIn_36 : decode cX6_pitchIn 36 = .ok (.ireturn, 1) := by decide +kernel
theorem dX6_bornIn_0 : decode cX6_bornIn 0 = .ok (.iconst 0, 1) := by decide +kernel
theorem dX6_bornIn_1 : decode cX6_bornIn 1 = .ok (.istore_n 2, 1) := by decide +kernel
theorem dX6_bornIn_2 : decode cX6_bornIn 2 = .ok (.iconst 0, 1) := by decide +kernel
theorem dX6_bornIn_3 : decode cX6_bornIn 3 = .ok (.istore_n 3, 1) := by decide +kernel
theorem dX6_bornIn_4 : decode cX6_bornIn 4 = .ok (.iload_n 3, 1) := by decide +kernel
theorem dX6_bornIn_5 : decode cX6_bornIn 5 = .ok (.aload_n 0, 1) := by decide +kernel
theorem dX6_bornIn_6 : decode cX6_bornIn 6 = .ok (.getfield 39, 3) := by decide +kernel
theorem dX6_bornIn_9 : decode cX6_bornIn 9 = .ok (.if_icmp .ge 22, 3) := by decide +kernel
theorem dX6_bornIn_12 : decode cX6_bornIn 12 = .ok (.aload_n 0, 1) := by decide +kernel
theorem dX6_bornIn_13 : decode cX6_bornIn 13 = .ok (.getfield 9, 3) := by decide +kernel
theorem dX6_bornIn_16 : decode cX6_bornIn 16 = .ok (.iload_n 3, 1) := by decide +kernel
theorem dX6_bornIn_17 : decode cX6_bornIn 17 = .ok (.iaload, 1) := by decide +kernel
theorem dX6_bornIn_18 : decode cX6_bornIn 18 = .ok (.iload_n 1, 1) := by decide +kernel
theorem dX6_bornIn_19 : decode cX6_bornIn 19 = .ok (.if_icmp .ne 6, 3) := by decide +kernel
theorem dX6_bornIn_22 : decode cX6_bornIn 22 = .ok (.iinc 2 1, 3) := by decide +kernel
theorem dX6_bornIn_25 : decode cX6_bornIn 25 = .ok (.iinc 3 1, 3) := by decide +kernel
theorem dX6_bornIn_28 : decode cX6_bornIn 28 = .ok (.goto (-24), 3) := by decide +kernel
theorem dX6_bornIn_31 : decode cX6_bornIn 31 = .ok (.iload_n 2, 1) := by decide +kernel
theorem dX6_bornIn_32 : decode cX6_bornIn 32 = .ok (.ireturn, 1) := by decide +kernel
theorem dX6_endingIn_0 : decode cX6_endingIn 0 = .ok (.iconst 0, 1) := by decide +kernel
theorem dX6_endingIn_1 : decode cX6_endingIn 1 = .ok (.istore_n 2, 1) := by decide +kernel
theorem dX6_endingIn_2 : decode cX6_endingIn 2 = .ok (.iconst 0, 1) := by decide +kernel
theorem dX6_endingIn_3 : decode cX6_endingIn 3 = .ok (.istore_n 3, 1) := by decide +kernel
theorem dX6_endingIn_4 : decode cX6_endingIn 4 = .ok (.iload_n 3, 1) := by decide +kernel
theorem dX6_endingIn_5 : decode cX6_endingIn 5 = .ok (.aload_n 0, 1) := by decide +kernel
theorem dX6_endingIn_6 : decode cX6_endingIn 6 = .ok (.getfield 39, 3) := by decide +kernel
theorem dX6_endingIn_9 : decode cX6_endingIn 9 = .ok (.if_icmp .ge 31, 3) := by decide +kernel
theorem dX6_endingIn_12 : decode cX6_endingIn 12 = .ok (.aload_n 0, 1) := by decide +kernel
theorem dX6_endingIn_13 : decode cX6_endingIn 13 = .ok (.getfield 9, 3) := by decide +kernel
theorem dX6_endingIn_16 : decode cX6_endingIn 16 = .ok (.iload_n 3, 1) := by decide +kernel
theorem dX6_endingIn_17 : decode cX6_endingIn 17 = .ok (.iaload, 1) := by decide +kernel
theorem dX6_endingIn_18 : decode cX6_endingIn 18 = .ok (.aload_n 0, 1) := by decide +kernel
theorem dX6_endingIn_19 : decode cX6_endingIn 19 = .ok (.getfield 15, 3) := by decide +kernel
theorem dX6_endingIn_22 : decode cX6_endingIn 22 = .ok (.iload_n 3, 1) := by decide +kernel
theorem dX6_endingIn_23 : decode cX6_endingIn 23 = .ok (.iaload, 1) := by decide +kernel
theorem dX6_endingIn_24 : decode cX6_endingIn 24 = .ok (.iadd, 1) := by decide +kernel
theorem dX6_endingIn_25 : decode cX6_endingIn 25 = .ok (.iconst 1, 1) := by decide +kernel
theorem dX6_endingIn_26 : decode cX6_endingIn 26 = .ok (.isub, 1) := by decide +kernel
theorem dX6_endingIn_27 : decode cX6_endingIn 27 = .ok (.iload_n 1, 1) := by decide +kernel
theorem dX6_endingIn_28 : decode cX6_endingIn 28 = .ok (.if_icmp .ne 6, 3) := by decide +kernel
theorem dX6_endingIn_31 : decode cX6_endingIn 31 = .ok (.iinc 2 1, 3) := by decide +kernel
theorem dX6_endingIn_34 : decode cX6_endingIn 34 = .ok (.iinc 3 1, 3) := by decide +kernel
theorem dX6_endingIn_37 : decode cX6_endingIn 37 = .ok (.goto (-33), 3) := by decide +kernel
theorem dX6_endingIn_40 : decode cX6_endingIn 40 = .ok (.iload_n 2, 1) := by decide +kernel
theorem dX6_endingIn_41 : decode cX6_endingIn 41 = .ok (.ireturn, 1) := by decide +kernel
theorem dX6_longest_0 : decode cX6_longest 0 = .ok (.bipush (-9), 2) := by decide +kernel
theorem dX6_longest_2 : decode cX6_longest 2 = .ok (.istore_n 1, 1) := by decide +kernel
theorem dX6_longest_3 : decode cX6_longest 3 = .ok (.iconst 0, 1) := by decide +kernel
theorem dX6_longest_4 : decode cX6_longest 4 = .ok (.istore_n 2, 1) := by decide +kernel
theorem dX6_longest_5 : decode cX6_longest 5 = .ok (.iconst 0, 1) := by decide +kernel
theorem dX6_longest_6 : decode cX6_longest 6 = .ok (.istore_n 3, 1) := by decide +kernel
theorem dX6_longest_7 : decode cX6_longest 7 = .ok (.iload_n 3, 1) := by decide +kernel
theorem dX6_longest_8 : decode cX6_longest 8 = .ok (.aload_n 0, 1) := by decide +kernel
theorem dX6_longest_9 : decode cX6_longest 9 = .ok (.getfield 39, 3) := by decide +kernel
theorem dX6_longest_12 : decode cX6_longest 12 = .ok (.if_icmp .ge 28, 3) := by decide +kernel
end
section
theorem dX6_longest_15 : decode cX6_longest 15 = .ok (.aload_n 0, 1) := by decide +kernel
theorem dX6_longest_16 : decode cX6_longest 16 = .ok (.getfield 15, 3) := by decide +kernel
theorem dX6_longest_19 : decode cX6_longest 19 = .ok (.iload_n 3, 1) := by decide +kernel
theorem dX6_longest_20 : decode cX6_longest 20 = .ok (.iaload, 1) := by decide +kernel
theorem dX6_longest_21 : decode cX6_longest 21 = .ok (.iload_n 2, 1) := by decide +kernel
theorem dX6_longest_22 : decode cX6_longest 22 = .ok (.if_icmp .le 12, 3) := by decide +kernel
theorem dX6_longest_25 : decode cX6_longest 25 = .ok (.aload_n 0, 1) := by decide +kernel
theorem dX6_longest_26 : decode cX6_longest 26 = .ok (.getfield 15, 3) := by decide +kernel
theorem dX6_longest_29 : decode cX6_longest 29 = .ok (.iload_n 3, 1) := by decide +kernel
theorem dX6_longest_30 : decode cX6_longest 30 = .ok (.iaload, 1) := by decide +kernel
theorem dX6_longest_31 : decode cX6_longest 31 = .ok (.istore_n 2, 1) := by decide +kernel
theorem dX6_longest_32 : decode cX6_longest 32 = .ok (.iload_n 3, 1) := by decide +kernel
theorem dX6_longest_33 : decode cX6_longest 33 = .ok (.istore_n 1, 1) := by decide +kernel
theorem dX6_longest_34 : decode cX6_longest 34 = .ok (.iinc 3 1, 3) := by decide +kernel
theorem dX6_longest_37 : decode cX6_longest 37 = .ok (.goto (-30), 3) := by decide +kernel
theorem dX6_longest_40 : decode cX6_longest 40 = .ok (.iload_n 1, 1) := by decide +kernel
theorem dX6_longest_41 : decode cX6_longest 41 = .ok (.ireturn, 1) := by decide +kernel
theorem dX7_init_0 : decode cX7_init 0 = .ok (.aload_n 0, 1) := by decide +kernel
theorem dX7_init_1 : decode cX7_init 1 = .ok (.invokespecial 1, 3) := by decide +kernel
theorem dX7_init_4 : decode cX7_init 4 = .ok (.aload_n 0, 1) := by decide +kernel
theorem dX7_init_5 : decode cX7_init 5 = .ok (.new 7, 3) := by decide +kernel
theorem dX7_init_8 : decode cX7_init 8 = .ok (.dup, 1) := by decide +kernel
theorem dX7_init_9 : decode cX7_init 9 = .ok (.invokespecial 9, 3) := by decide +kernel
theorem dX7_init_12 : decode cX7_init 12 = .ok (.putfield 10, 3) := by decide +kernel
theorem dX7_init_15 : decode cX7_init 15 = .ok (.aload_n 0, 1) := by decide +kernel
theorem dX7_init_16 : decode cX7_init 16 = .ok (.new 7, 3) := by decide +kernel
theorem dX7_init_19 : decode cX7_init 19 = .ok (.dup, 1) := by decide +kernel
theorem dX7_init_20 : decode cX7_init 20 = .ok (.invokespecial 9, 3) := by decide +kernel
theorem dX7_init_23 : decode cX7_init 23 = .ok (.putfield 16, 3) := by decide +kernel
theorem dX7_init_26 : decode cX7_init 26 = .ok (.aload_n 0, 1) := by decide +kernel
theorem dX7_init_27 : decode cX7_init 27 = .ok (.new 19, 3) := by decide +kernel
theorem dX7_init_30 : decode cX7_init 30 = .ok (.dup, 1) := by decide +kernel
theorem dX7_init_31 : decode cX7_init 31 = .ok (.invokespecial 21, 3) := by decide +kernel
theorem dX7_init_34 : decode cX7_init 34 = .ok (.putfield 22, 3) := by decide +kernel
theorem dX7_init_37 : decode cX7_init 37 = .ok (.aload_n 0, 1) := by decide +kernel
theorem dX7_init_38 : decode cX7_init 38 = .ok (.new 26, 3) := by decide +kernel
theorem dX7_init_41 : decode cX7_init 41 = .ok (.dup, 1) := by decide +kernel
theorem dX7_init_42 : decode cX7_init 42 = .ok (.invokespecial 28, 3) := by decide +kernel
theorem dX7_init_45 : decode cX7_init 45 = .ok (.putfield 29, 3) := by decide +kernel
theorem dX7_init_48 : decode cX7_init 48 = .ok (.aload_n 0, 1) := by decide +kernel
theorem dX7_init_49 : decode cX7_init 49 = .ok (.iconst 2, 1) := by decide +kernel
theorem dX7_init_50 : decode cX7_init 50 = .ok (.anewarray 7, 3) := by decide +kernel
theorem dX7_init_53 : decode cX7_init 53 = .ok (.putfield 33, 3) := by decide +kernel
theorem dX7_init_56 : decode cX7_init 56 = .ok (.aload_n 0, 1) := by decide +kernel
theorem dX7_init_57 : decode cX7_init 57 = .ok (.iconst 2, 1) := by decide +kernel
theorem dX7_init_58 : decode cX7_init 58 = .ok (.newarray .boolean, 2) := by decide +kernel
theorem dX7_init_60 : decode cX7_init 60 = .ok (.putfield 37, 3) := by decide +kernel
theorem dX7_init_63 : decode cX7_init 63 = .ok (.aload_n 0, 1) := by decide +kernel
theorem dX7_init_64 : decode cX7_init 64 = .ok (.new 41, 3) := by decide +kernel
theorem dX7_init_67 : decode cX7_init 67 = .ok (.dup, 1) := by decide +kernel
theorem dX7_init_68 : decode cX7_init 68 = .ok (.invokespecial 43, 3) := by decide +kernel
theorem dX7_init_71 : decode cX7_init 71 = .ok (.putfield 44, 3) := by decide +kernel
theorem dX7_init_74 : decode cX7_init 74 = .ok (.aload_n 0, 1) := by decide +kernel
theorem dX7_init_75 : decode cX7_init 75 = .ok (.new 48, 3) := by decide +kernel
theorem dX7_init_78 : decode cX7_init 78 = .ok (.dup, 1) := by decide +kernel
theorem dX7_init_79 : decode cX7_init 79 = .ok (.invokespecial 50, 3) := by decide +kernel
theorem dX7_init_82 : decode cX7_init 82 = .ok (.putfield 51, 3) := by decide +kernel
theorem dX7_init_85 : decode cX7_init 85 = .ok (.aload_n 0, 1) := by decide +kernel
theorem dX7_init_86 : decode cX7_init 86 = .ok (.new 55, 3) := by decide +kernel
theorem dX7_init_89 : decode cX7_init 89 = .ok (.dup, 1) := by decide +kernel
theorem dX7_init_90 : decode cX7_init 90 = .ok (.invokespecial 57, 3) := by decide +kernel
theorem dX7_init_93 : decode cX7_init 93 = .ok (.putfield 58, 3) := by decide +kernel
theorem dX7_init_96 : decode cX7_init 96 = .ok (.aload_n 0, 1) := by decide +kernel
theorem dX7_init_97 : decode cX7_init 97 = .ok (.new 62, 3) := by decide +kernel
theorem dX7_init_100 : decode cX7_init 100 = .ok (.dup, 1) := by decide +kernel
theorem dX7_init_101 : decode cX7_init 101 = .ok (.invokespecial 64, 3) := by decide +kernel
theorem dX7_init_104 : decode cX7_init 104 = .ok (.putfield 65, 3) := by decide +kernel
theorem dX7_init_107 : decode cX7_init 107 = .ok (.aload_n 0, 1) := by decide +kernel
theorem dX7_init_108 : decode cX7_init 108 = .ok (.bipush (-9), 2) := by decide +kernel
theorem dX7_init_110 : decode cX7_init 110 = .ok (.putfield 69, 3) := by decide +kernel
theorem dX7_init_113 : decode cX7_init 113 = .ok (.iconst 0, 1) := by decide +kernel
theorem dX7_init_114 : decode cX7_init 114 = .ok (.istore_n 1, 1) := by decide +kernel
theorem dX7_init_115 : decode cX7_init 115 = .ok (.iload_n 1, 1) := by decide +kernel
theorem dX7_init_116 : decode cX7_init 116 = .ok (.iconst 2, 1) := by decide +kernel
theorem dX7_init_117 : decode cX7_init 117 = .ok (.if_icmp .ge 22, 3) := by decide +kernel
theorem dX7_init_120 : decode cX7_init 120 = .ok (.aload_n 0, 1) := by decide +kernel
theorem dX7_init_121 : decode cX7_init 121 = .ok (.getfield 33, 3) := by decide +kernel
theorem dX7_init_124 : decode cX7_init 124 = .ok (.iload_n 1, 1) := by decide +kernel
theorem dX7_init_125 : decode cX7_init 125 = .ok (.new 7, 3) := by decide +kernel
theorem dX7_init_128 : decode cX7_init 128 = .ok (.dup, 1) := by decide +kernel
theorem dX7_init_129 : decode cX7_init 129 = .ok (.invokespecial 9, 3) := by decide +kernel
theorem dX7_init_132 : decode cX7_init 132 = .ok (.aastore, 1) := by decide +kernel
theorem dX7_init_133 : decode cX7_init 133 = .ok (.iinc 1 1, 3) := by decide +kernel
theorem dX7_init_136 : decode cX7_init 136 = .ok (.goto (-21), 3) := by decide +kernel
theorem dX7_init_139 : decode cX7_init 139 = .ok (.aload_n 0, 1) := by decide +kernel
theorem dX7_init_140 : decode cX7_init 140 = .ok (.getfield 10, 3) := by decide +kernel
theorem dX7_init_143 : decode cX7_init 143 = .ok (.invokevirtual 73, 3) := by decide +kernel
theorem dX7_init_146 : decode cX7_init 146 = .ok (.aload_n 0, 1) := by decide +kernel
theorem dX7_init_147 : decode cX7_init 147 = .ok (.invokevirtual 76, 3) := by decide +kernel
theorem dX7_init_150 : decode cX7_init 150 = .ok (.return_, 1) := by decide +kernel
theorem dX7_type_0 : decode cX7_type 0 = .ok (.iload_n 1, 1) := by decide +kernel
theorem dX7_type_1 : decode cX7_type 1 = .ok (.ifCond .lt 10, 3) := by decide +kernel
theorem dX7_type_4 : decode cX7_type 4 = .ok (.iload_n 1, 1) := by decide +kernel
theorem dX7_type_5 : decode cX7_type 5 = .ok (.sipush 255, 3) := by decide +kernel
theorem dX7_type_8 : decode cX7_type 8 = .ok (.if_icmp .le 5, 3) := by decide +kernel
theorem dX7_type_11 : decode cX7_type 11 = .ok (.iconst (-1), 1) := by decide +kernel
theorem dX7_type_12 : decode cX7_type 12 = .ok (.ireturn, 1) := by decide +kernel
theorem dX7_type_13 : decode cX7_type 13 = .ok (.aload_n 0, 1) := by decide +kernel
theorem dX7_type_14 : decode cX7_type 14 = .ok (.getfield 22, 3) := by decide +kernel
theorem dX7_type_17 : decode cX7_type 17 = .ok (.getfield 79, 3) := by decide +kernel
theorem dX7_type_20 : decode cX7_type 20 = .ok (.sipush 140, 3) := by decide +kernel
theorem dX7_type_23 : decode cX7_type 23 = .ok (.if_icmp .lt 6, 3) := by decide +kernel
theorem dX7_type_26 : decode cX7_type 26 = .ok (.bipush (-3), 2) := by decide +kernel
theorem dX7_type_28 : decode cX7_type 28 = .ok (.ireturn, 1) := by decide +kernel
theorem dX7_type_29 : decode cX7_type 29 = .ok (.aload_n 0, 1) := by decide +kernel
theorem dX7_type_30 : decode cX7_type 30 = .ok (.getfield 22, 3) := by decide +kernel
theorem dX7_type_33 : decode cX7_type 33 = .ok (.iload_n 1, 1) := by decide +kernel
theorem dX7_type_34 : decode cX7_type 34 = .ok (.i2c, 1) := by decide +kernel
theorem dX7_type_35 : decode cX7_type 35 = .ok (.invokevirtual 82, 3) := by decide +kernel
theorem dX7_type_38 : decode cX7_type 38 = .ok (.aload_n 0, 1) := by decide +kernel
theorem dX7_type_39 : decode cX7_type 39 = .ok (.getfield 22, 3) := by decide +kernel
theorem dX7_type_42 : decode cX7_type 42 = .ok (.getfield 79, 3) := by decide +kernel
theorem dX7_type_45 : decode cX7_type 45 = .ok (.ireturn, 1) := by decide +kernel
theorem dX7_clear_0 : decode cX7_clear 0 = .ok (.aload_n 0, 1) := by decide +kernel
theorem dX7_clear_1 : decode cX7_clear 1 = .ok (.getfield 22, 3) := by decide +kernel
theorem dX7_clear_4 : decode cX7_clear 4 = .ok (.getfield 79, 3) := by decide +kernel
theorem dX7_clear_7 : decode cX7_clear 7 = .ok (.istore_n 1, 1) := by decide +kernel
theorem dX7_clear_8 : decode cX7_clear 8 = .ok (.aload_n 0, 1) := by decide +kernel
theorem dX7_clear_9 : decode cX7_clear 9 = .ok (.getfield 22, 3) := by decide +kernel
theorem dX7_clear_12 : decode cX7_clear 12 = .ok (.iconst 0, 1) := by decide +kernel
theorem dX7_clear_13 : decode cX7_clear 13 = .ok (.putfield 79, 3) := by decide +kernel
theorem dX7_clear_16 : decode cX7_clear 16 = .ok (.iload_n 1, 1) := by decide +kernel
theorem dX7_clear_17 : decode cX7_clear 17 = .ok (.ireturn, 1) := by decide +kernel
theorem dX7_tells_0 : decode cX7_tells 0 = .ok (.aload_n 0, 1) := by decide +kernel
theorem dX7_tells_1 : decode cX7_tells 1 = .ok (.getfield 22, 3) := by decide +kernel
theorem dX7_tells_4 : decode cX7_tells 4 = .ok (.aload_n 0, 1) := by decide +kernel
theorem dX7_tells_5 : decode cX7_tells 5 = .ok (.getfield 16, 3) := by decide +kernel
theorem dX7_tells_8 : decode cX7_tells 8 = .ok (.invokevirtual 86, 3) := by decide +kernel
theorem dX7_tells_11 : decode cX7_tells 11 = .ok (.istore_n 1, 1) := by decide +kernel
theorem dX7_tells_12 : decode cX7_tells 12 = .ok (.iload_n 1, 1) := by decide +kernel
theorem dX7_tells_13 : decode cX7_tells 13 = .ok (.ifCond .ge 5, 3) := by decide +kernel
theorem dX7_tells_16 : decode cX7_tells 16 = .ok (.iload_n 1, 1) := by decide +kernel
theorem dX7_tells_17 : decode cX7_tells 17 = .ok (.ireturn, 1) := by decide +kernel
theorem dX7_tells_18 : decode cX7_tells 18 = .ok (.aload_n 0, 1) := by decide +kernel
theorem dX7_tells_19 : decode cX7_tells 19 = .ok (.getfield 29, 3) := by decide +kernel
theorem dX7_tells_22 : decode cX7_tells 22 = .ok (.aload_n 0, 1) := by decide +kernel
theorem dX7_tells_23 : decode cX7_tells 23 = .ok (.getfield 10, 3) := by decide +kernel
theorem dX7_tells_26 : decode cX7_tells 26 = .ok (.invokevirtual 90, 3) := by decide +kernel
theorem dX7_tells_29 : decode cX7_tells 29 = .ok (.aload_n 0, 1) := by decide +kernel
theorem dX7_tells_30 : decode cX7_tells 30 = .ok (.getfield 10, 3) := by decide +kernel
theorem dX7_tells_33 : decode cX7_tells 33 = .ok (.aload_n 0, 1) := by decide +kernel
theorem dX7_tells_34 : decode cX7_tells 34 = .ok (.getfield 16, 3) := by decide +kernel
theorem dX7_tells_37 : decode cX7_tells 37 = .ok (.invokevirtual 94, 3) := by decide +kernel
theorem dX7_tells_40 : decode cX7_tells 40 = .ok (.aload_n 0, 1) := by decide +kernel
theorem dX7_tells_41 : decode cX7_tells 41 = .ok (.getfield 22, 3) := by decide +kernel
theorem dX7_tells_44 : decode cX7_tells 44 = .ok (.iconst 0, 1) := by decide +kernel
theorem dX7_tells_45 : decode cX7_tells 45 = .ok (.putfield 79, 3) := by decide +kernel
theorem dX7_tells_48 : decode cX7_tells 48 = .ok (.aload_n 0, 1) := by decide +kernel
theorem dX7_tells_49 : decode cX7_tells 49 = .ok (.invokevirtual 76, 3) := by decide +kernel
theorem dX7_tells_52 : decode cX7_tells 52 = .ok (.iload_n 1, 1) := by decide +kernel
theorem dX7_tells_53 : decode cX7_tells 53 = .ok (.ireturn, 1) := by decide +kernel
theorem dX7_levels_0 : decode cX7_levels 0 = .ok (.aload_n 0, 1) := by decide +kernel
theorem dX7_levels_1 : decode cX7_levels 1 = .ok (.getfield 10, 3) := by decide +kernel
theorem dX7_levels_4 : decode cX7_levels 4 = .ok (.iload_n 1, 1) := by decide +kernel
theorem dX7_levels_5 : decode cX7_levels 5 = .ok (.iload_n 2, 1) := by decide +kernel
theorem dX7_levels_6 : decode cX7_levels 6 = .ok (.invokevirtual 97, 3) := by decide +kernel
theorem dX7_levels_9 : decode cX7_levels 9 = .ok (.ifCond .eq 13, 3) := by decide +kernel
theorem dX7_levels_12 : decode cX7_levels 12 = .ok (.iload_n 3, 1) := by decide +kernel
theorem dX7_levels_13 : decode cX7_levels 13 = .ok (.ifCond .lt 9, 3) := by decide +kernel
theorem dX7_levels_16 : decode cX7_levels 16 = .ok (.iload_n 3, 1) := by decide +kernel
theorem dX7_levels_17 : decode cX7_levels 17 = .ok (.bipush 9, 2) := by decide +kernel
theorem dX7_levels_19 : decode cX7_levels 19 = .ok (.if_icmp .le 5, 3) := by decide +kernel
theorem dX7_levels_22 : decode cX7_levels 22 = .ok (.iconst (-1), 1) := by decide +kernel
theorem dX7_levels_23 : decode cX7_levels 23 = .ok (.ireturn, 1) := by decide +kernel
theorem dX7_levels_24 : decode cX7_levels 24 = .ok (.aload_n 0, 1) := by decide +kernel
theorem dX7_levels_25 : decode cX7_levels 25 = .ok (.getfield 10, 3) := by decide +kernel
theorem dX7_levels_28 : decode cX7_levels 28 = .ok (.iload_n 1, 1) := by decide +kernel
theorem dX7_levels_29 : decode cX7_levels 29 = .ok (.iload_n 2, 1) := by decide +kernel
theorem dX7_levels_30 : decode cX7_levels 30 = .ok (.invokevirtual 101, 3) := by decide +kernel
theorem dX7_levels_33 : decode cX7_levels 33 = .ok (.istore 4, 2) := by decide +kernel
theorem dX7_levels_35 : decode cX7_levels 35 = .ok (.iload 4, 2) := by decide +kernel
theorem dX7_levels_37 : decode cX7_levels 37 = .ok (.iload_n 3, 1) := by decide +kernel
theorem dX7_levels_38 : decode cX7_levels 38 = .ok (.if_icmp .ne 6, 3) := by decide +kernel
theorem dX7_levels_41 : decode cX7_levels 41 = .ok (.bipush (-2), 2) := by decide +kernel
theorem dX7_levels_43 : decode cX7_levels 43 = .ok (.ireturn, 1) := by decide +kernel
theorem dX7_levels_44 : decode cX7_levels 44 = .ok (.aload_n 0, 1) := by decide +kernel
theorem dX7_levels_45 : decode cX7_levels 45 = .ok (.getfield 29, 3) := by decide +kernel
theorem dX7_levels_48 : decode cX7_levels 48 = .ok (.aload_n 0, 1) := by decide +kernel
theorem dX7_levels_49 : decode cX7_levels 49 = .ok (.getfield 10, 3) := by decide +kernel
theorem dX7_levels_52 : decode cX7_levels 52 = .ok (.invokevirtual 90, 3) := by decide +kernel
theorem dX7_levels_55 : decode cX7_levels 55 = .ok (.aload_n 0, 1) := by decide +kernel
theorem dX7_levels_56 : decode cX7_levels 56 = .ok (.getfield 10, 3) := by decide +kernel
theorem dX7_levels_59 : decode cX7_levels 59 = .ok (.iload_n 1, 1) := by decide +kernel
theorem dX7_levels_60 : decode cX7_levels 60 = .ok (.iload_n 2, 1) := by decide +kernel
theorem dX7_levels_61 : decode cX7_levels 61 = .ok (.iload_n 3, 1) := by decide +kernel
theorem dX7_levels_62 : decode cX7_levels 62 = .ok (.invokevirtual 105, 3) := by decide +kernel
theorem dX7_levels_65 : decode cX7_levels 65 = .ok (.aload_n 0, 1) := by decide +kernel
theorem dX7_levels_66 : decode cX7_levels 66 = .ok (.invokevirtual 76, 3) := by decide +kernel
theorem dX7_levels_69 : decode cX7_levels 69 = .ok (.iload 4, 2) := by decide +kernel
theorem dX7_levels_71 : decode cX7_levels 71 = .ok (.ireturn, 1) := by decide +kernel
theorem dX7_sets_0 : decode cX7_sets 0 = .ok (.iload_n 1, 1) := by decide +kernel
theorem dX7_sets_1 : decode cX7_sets 1 = .ok (.iload_n 2, 1) := by decide +kernel
theorem dX7_sets_2 : decode cX7_sets 2 = .ok (.invokestatic 109, 3) := by decide +kernel
theorem dX7_sets_5 : decode cX7_sets 5 = .ok (.ifCond .ne 5, 3) := by decide +kernel
theorem dX7_sets_8 : decode cX7_sets 8 = .ok (.iconst (-1), 1) := by decide +kernel
theorem dX7_sets_9 : decode cX7_sets 9 = .ok (.ireturn, 1) := by decide +kernel
theorem dX7_sets_10 : decode cX7_sets 10 = .ok (.aload_n 0, 1) := by decide +kernel
theorem dX7_sets_11 : decode cX7_sets 11 = .ok (.getfield 10, 3) := by decide +kernel
theorem dX7_sets_14 : decode cX7_sets 14 = .ok (.getfield 112, 3) := by decide +kernel
theorem dX7_sets_17 : decode cX7_sets 17 = .ok (.iload_n 1, 1) := by decide +kernel
theorem dX7_sets_18 : decode cX7_sets 18 = .ok (.iaload, 1) := by decide +kernel
theorem dX7_sets_19 : decode cX7_sets 19 = .ok (.istore_n 3, 1) := by decide +kernel
theorem dX7_sets_20 : decode cX7_sets 20 = .ok (.iload_n 3, 1) := by decide +kernel
theorem dX7_sets_21 : decode cX7_sets 21 = .ok (.iload_n 2, 1) := by decide +kernel
theorem dX7_sets_22 : decode cX7_sets 22 = .ok (.if_icmp .ne 6, 3) := by decide +kernel
theorem dX7_sets_25 : decode cX7_sets 25 = .ok (.bipush (-2), 2) := by decide +kernel
theorem dX7_sets_27 : decode cX7_sets 27 = .ok (.ireturn, 1) := by decide +kernel
theorem dX7_sets_28 : decode cX7_sets 28 = .ok (.aload_n 0, 1) := by decide +kernel
theorem dX7_sets_29 : decode cX7_sets 29 = .ok (.getfield 29, 3) := by decide +kernel
theorem dX7_sets_32 : decode cX7_sets 32 = .ok (.aload_n 0, 1) := by decide +kernel
theorem dX7_sets_33 : decode cX7_sets 33 = .ok (.getfield 10, 3) := by decide +kernel
theorem dX7_sets_36 : decode cX7_sets 36 = .ok (.invokevirtual 90, 3) := by decide +kernel
theorem dX7_sets_39 : decode cX7_sets 39 = .ok (.aload_n 0, 1) := by decide +kernel
theorem dX7_sets_40 : decode cX7_sets 40 = .ok (.getfield 10, 3) := by decide +kernel
theorem dX7_sets_43 : decode cX7_sets 43 = .ok (.getfield 112, 3) := by decide +kernel
theorem dX7_sets_46 : decode cX7_sets 46 = .ok (.iload_n 1, 1) := by decide +kernel
theorem dX7_sets_47 : decode cX7_sets 47 = .ok (.iload_n 2, 1) := by decide +kernel
theorem dX7_sets_48 : decode cX7_sets 48 = .ok (.iastore, 1) := by decide +kernel
theorem dX7_sets_49 : decode cX7_sets 49 = .ok (.aload_n 0, 1) := by decide +kernel
theorem dX7_sets_50 : decode cX7_sets 50 = .ok (.invokevirtual 76, 3) := by decide +kernel
theorem dX7_sets_53 : decode cX7_sets 53 = .ok (.iload_n 3, 1) := by decide +kernel
theorem dX7_sets_54 : decode cX7_sets 54 = .ok (.ireturn, 1) := by decide +kernel
theorem dX7_undo_0 : decode cX7_undo 0 = .ok (.aload_n 0, 1) := by decide +kernel
theorem dX7_undo_1 : decode cX7_undo 1 = .ok (.getfield 29, 3) := by decide +kernel
theorem dX7_undo_4 : decode cX7_undo 4 = .ok (.getfield 116, 3) := by decide +kernel
theorem dX7_undo_7 : decode cX7_undo 7 = .ok (.ifCond .ne 6, 3) := by decide +kernel
theorem dX7_undo_10 : decode cX7_undo 10 = .ok (.bipush (-2), 2) := by decide +kernel
theorem dX7_undo_12 : decode cX7_undo 12 = .ok (.ireturn, 1) := by decide +kernel
theorem dX7_undo_13 : decode cX7_undo 13 = .ok (.aload_n 0, 1) := by decide +kernel
theorem dX7_undo_14 : decode cX7_undo 14 = .ok (.getfield 29, 3) := by decide +kernel
theorem dX7_undo_17 : decode cX7_undo 17 = .ok (.aload_n 0, 1) := by decide +kernel
theorem dX7_undo_18 : decode cX7_undo 18 = .ok (.getfield 10, 3) := by decide +kernel
theorem dX7_undo_21 : decode cX7_undo 21 = .ok (.invokevirtual 119, 3) := by decide +kernel
theorem dX7_undo_24 : decode cX7_undo 24 = .ok (.aload_n 0, 1) := by decide +kernel
theorem dX7_undo_25 : decode cX7_undo 25 = .ok (.invokevirtual 76, 3) := by decide +kernel
theorem dX7_undo_28 : decode cX7_undo 28 = .ok (.aload_n 0, 1) := by decide +kernel
theorem dX7_undo_29 : decode cX7_undo 29 = .ok (.getfield 29, 3) := by decide +kernel
theorem dX7_undo_32 : decode cX7_undo 32 = .ok (.getfield 116, 3) := by decide +kernel
theorem dX7_undo_35 : decode cX7_undo 35 = .ok (.ireturn, 1) := by decide +kernel
theorem dX7_level_0 : decode cX7_level 0 = .ok (.aload_n 0, 1) := by decide +kernel
theorem dX7_level_1 : decode cX7_level 1 = .ok (.getfield 10, 3) := by decide +kernel
theorem dX7_level_4 : decode cX7_level 4 = .ok (.iload_n 1, 1) := by decide +kernel
theorem dX7_level_5 : decode cX7_level 5 = .ok (.iload_n 2, 1) := by decide +kernel
theorem dX7_level_6 : decode cX7_level 6 = .ok (.invokevirtual 97, 3) := by decide +kernel
theorem dX7_level_9 : decode cX7_level 9 = .ok (.ifCond .eq 15, 3) := by decide +kernel
theorem dX7_level_12 : decode cX7_level 12 = .ok (.aload_n 0, 1) := by decide +kernel
theorem dX7_level_13 : decode cX7_level 13 = .ok (.getfield 10, 3) := by decide +kernel
theorem dX7_level_16 : decode cX7_level 16 = .ok (.iload_n 1, 1) := by decide +kernel
theorem dX7_level_17 : decode cX7_level 17 = .ok (.iload_n 2, 1) := by decide +kernel
theorem dX7_level_18 : decode cX7_level 18 = .ok (.invokevirtual 101, 3) := by decide +kernel
theorem dX7_level_21 : decode cX7_level 21 = .ok (.goto 4, 3) := by decide +kernel
theorem dX7_level_24 : decode cX7_level 24 = .ok (.iconst (-1), 1) := by decide +kernel
theorem dX7_level_25 : decode cX7_level 25 = .ok (.ireturn, 1) := by decide +kernel
theorem dX7_peak_0 : decode cX7_peak 0 = .ok (.aload_n 0, 1) := by decide +kernel
theorem dX7_peak_1 : decode cX7_peak 1 = .ok (.getfield 10, 3) := by decide +kernel
theorem dX7_peak_4 : decode cX7_peak 4 = .ok (.iload_n 1, 1) := by decide +kernel
theorem dX7_peak_5 : decode cX7_peak 5 = .ok (.invokevirtual 122, 3) := by decide +kernel
theorem dX7_peak_8 : decode cX7_peak 8 = .ok (.ifCond .eq 16, 3) := by decide +kernel
theorem dX7_peak_11 : decode cX7_peak 11 = .ok (.iload_n 2, 1) := by decide +kernel
theorem dX7_peak_12 : decode cX7_peak 12 = .ok (.ifCond .lt 12, 3) := by decide +kernel
theorem dX7_peak_15 : decode cX7_peak 15 = .ok (.iload_n 3, 1) := by decide +kernel
theorem dX7_peak_16 : decode cX7_peak 16 = .ok (.ifCond .lt 8, 3) := by decide +kernel
theorem dX7_peak_19 : decode cX7_peak 19 = .ok (.iload_n 3, 1) := by decide +kernel
theorem dX7_peak_20 : decode cX7_peak 20 = .ok (.iconst 4, 1) := by decide +kernel
theorem dX7_peak_21 : decode cX7_peak 21 = .ok (.if_icmp .le 6, 3) := by decide +kernel
theorem dX7_peak_24 : decode cX7_peak 24 = .ok (.ldc 126, 2) := by decide +kernel
theorem dX7_peak_26 : decode cX7_peak 26 = .ok (.ireturn, 1) := by decide +kernel
theorem dX7_peak_27 : decode cX7_peak 27 = .ok (.iload_n 2, 1) := by decide +kernel
theorem dX7_peak_28 : decode cX7_peak 28 = .ok (.aload_n 0, 1) := by decide +kernel
theorem dX7_peak_29 : decode cX7_peak 29 = .ok (.getfield 44, 3) := by decide +kernel
theorem dX7_peak_32 : decode cX7_peak 32 = .ok (.getfield 127, 3) := by decide +kernel
theorem dX7_peak_35 : decode cX7_peak 35 = .ok (.iload_n 1, 1) := by decide +kernel
theorem dX7_peak_36 : decode cX7_peak 36 = .ok (.iaload, 1) := by decide +kernel
theorem dX7_peak_37 : decode cX7_peak 37 = .ok (.if_icmp .lt 6, 3) := by decide +kernel
theorem dX7_peak_40 : decode cX7_peak 40 = .ok (.bipush (-9), 2) := by decide +kernel
theorem dX7_peak_42 : decode cX7_peak 42 = .ok (.ireturn, 1) := by decide +kernel
theorem dX7_peak_43 : decode cX7_peak 43 = .ok (.iload_n 1, 1) := by decide +kernel
theorem dX7_peak_44 : decode cX7_peak 44 = .ok (.bipush 6, 2) := by decide +kernel
theorem dX7_peak_46 : decode cX7_peak 46 = .ok (.imul, 1) := by decide +kernel
theorem dX7_peak_47 : decode cX7_peak 47 = .ok (.iload_n 2, 1) := by decide +kernel
theorem dX7_peak_48 : decode cX7_peak 48 = .ok (.iadd, 1) := by decide +kernel
theorem dX7_peak_49 : decode cX7_peak 49 = .ok (.istore 4, 2) := by decide +kernel
theorem dX7_peak_51 : decode cX7_peak 51 = .ok (.iload_n 3, 1) := by decide +kernel
theorem dX7_peak_52 : decode cX7_peak 52 = .ok (.tableswitch 76 0 3 #[32, 43, 54, 65], 32) := by decide +kernel
theorem dX7_peak_84 : decode cX7_peak 84 = .ok (.aload_n 0, 1) := by decide +kernel
theorem dX7_peak_85 : decode cX7_peak 85 = .ok (.getfield 44, 3) := by decide +kernel
theorem dX7_peak_88 : decode cX7_peak 88 = .ok (.getfield 130, 3) := by decide +kernel
theorem dX7_peak_91 : decode cX7_peak 91 = .ok (.iload 4, 2) := by decide +kernel
theorem dX7_peak_93 : decode cX7_peak 93 = .ok (.iaload, 1) := by decide +kernel
theorem dX7_peak_94 : decode cX7_peak 94 = .ok (.ireturn, 1) := by decide +kernel
theorem dX7_peak_95 : decode cX7_peak 95 = .ok (.aload_n 0, 1) := by decide +kernel
theorem dX7_peak_96 : decode cX7_peak 96 = .ok (.getfield 44, 3) := by decide +kernel
theorem dX7_peak_99 : decode cX7_peak 99 = .ok (.getfield 133, 3) := by decide +kernel
theorem dX7_peak_102 : decode cX7_peak 102 = .ok (.iload 4, 2) := by decide +kernel
theorem dX7_peak_104 : decode cX7_peak 104 = .ok (.iaload, 1) := by decide +kernel
theorem dX7_peak_105 : decode cX7_peak 105 = .ok (.ireturn, 1) := by decide +kernel
theorem dX7_peak_106 : decode cX7_peak 106 = .ok (.aload_n 0, 1) := by decide +kernel
theorem dX7_peak_107 : decode cX7_peak 107 = .ok (.getfield 44, 3) := by decide +kernel
theorem dX7_peak_110 : decode cX7_peak 110 = .ok (.getfield 136, 3) := by decide +kernel
theorem dX7_peak_113 : decode cX7_peak 113 = .ok (.iload 4, 2) := by decide +kernel
theorem dX7_peak_115 : decode cX7_peak 115 = .ok (.iaload, 1) := by decide +kernel
theorem dX7_peak_116 : decode cX7_peak 116 = .ok (.ireturn, 1) := by decide +kernel
theorem dX7_peak_117 : decode cX7_peak 117 = .ok (.aload_n 0, 1) := by decide +kernel
theorem dX7_peak_118 : decode cX7_peak 118 = .ok (.getfield 58, 3) := by decide +kernel
theorem dX7_peak_121 : decode cX7_peak 121 = .ok (.getfield 139, 3) := by decide +kernel
theorem dX7_peak_124 : decode cX7_peak 124 = .ok (.iload 4, 2) := by decide +kernel
theorem dX7_peak_126 : decode cX7_peak 126 = .ok (.iaload, 1) := by decide +kernel
theorem dX7_peak_127 : decode cX7_peak 127 = .ok (.ireturn, 1) := by decide +kernel
theorem dX7_peak_128 : decode cX7_peak 128 = .ok (.aload_n 0, 1) := by decide +kernel
theorem dX7_peak_129 : decode cX7_peak 129 = .ok (.getfield 58, 3) := by decide +kernel
theorem dX7_peak_132 : decode cX7_peak 132 = .ok (.getfield 142, 3) := by decide +kernel
theorem dX7_peak_135 : decode cX7_peak 135 = .ok (.iload 4, 2) := by decide +kernel
theorem dX7_peak_137 : decode cX7_peak 137 = .ok (.iaload, 1) := by decide +kernel
theorem dX7_peak_138 : decode cX7_peak 138 = .ok (.ireturn, 1) := by decide +kernel
theorem dX7_frame_0 : decode cX7_frame 0 = .ok (.aload_n 0, 1) := by decide +kernel
theorem dX7_frame_1 : decode cX7_frame 1 = .ok (.getfield 10, 3) := by decide +kernel
theorem dX7_frame_4 : decode cX7_frame 4 = .ok (.iload_n 1, 1) := by decide +kernel
theorem dX7_frame_5 : decode cX7_frame 5 = .ok (.invokevirtual 122, 3) := by decide +kernel
theorem dX7_frame_8 : decode cX7_frame 8 = .ok (.ifCond .ne 5, 3) := by decide +kernel
theorem dX7_frame_11 : decode cX7_frame 11 = .ok (.iconst (-1), 1) := by decide +kernel
theorem dX7_frame_12 : decode cX7_frame 12 = .ok (.ireturn, 1) := by decide +kernel
theorem dX7_frame_13 : decode cX7_frame 13 = .ok (.iload_n 2, 1) := by decide +kernel
theorem dX7_frame_14 : decode cX7_frame 14 = .ok (.tableswitch 76 0 4 #[34, 44, 51, 58, 67], 34) := by decide +kernel
theorem dX7_frame_48 : decode cX7_frame 48 = .ok (.aload_n 0, 1) := by decide +kernel
theorem dX7_frame_49 : decode cX7_frame 49 = .ok (.getfield 44, 3) := by decide +kernel
theorem dX7_frame_52 : decode cX7_frame 52 = .ok (.getfield 127, 3) := by decide +kernel
theorem dX7_frame_55 : decode cX7_frame 55 = .ok (.iload_n 1, 1) := by decide +kernel
theorem dX7_frame_56 : decode cX7_frame 56 = .ok (.iaload, 1) := by decide +kernel
theorem dX7_frame_57 : decode cX7_frame 57 = .ok (.ireturn, 1) := by decide +kernel
theorem dX7_frame_58 : decode cX7_frame 58 = .ok (.aload_n 0, 1) := by decide +kernel
theorem dX7_frame_59 : decode cX7_frame 59 = .ok (.iload_n 1, 1) := by decide +kernel
theorem dX7_frame_60 : decode cX7_frame 60 = .ok (.iconst 1, 1) := by decide +kernel
theorem dX7_frame_61 : decode cX7_frame 61 = .ok (.invokevirtual 145, 3) := by decide +kernel
theorem dX7_frame_64 : decode cX7_frame 64 = .ok (.ireturn, 1) := by decide +kernel
theorem dX7_frame_65 : decode cX7_frame 65 = .ok (.aload_n 0, 1) := by decide +kernel
theorem dX7_frame_66 : decode cX7_frame 66 = .ok (.iload_n 1, 1) := by decide +kernel
theorem dX7_frame_67 : decode cX7_frame 67 = .ok (.iconst 0, 1) := by decide +kernel
theorem dX7_frame_68 : decode cX7_frame 68 = .ok (.invokevirtual 145, 3) := by decide +kernel
theorem dX7_frame_71 : decode cX7_frame 71 = .ok (.ireturn, 1) := by decide +kernel
theorem dX7_frame_72 : decode cX7_frame 72 = .ok (.aload_n 0, 1) := by decide +kernel
theorem dX7_frame_73 : decode cX7_frame 73 = .ok (.getfield 58, 3) := by decide +kernel
theorem dX7_frame_76 : decode cX7_frame 76 = .ok (.iload_n 1, 1) := by decide +kernel
theorem dX7_frame_77 : decode cX7_frame 77 = .ok (.invokevirtual 149, 3) := by decide +kernel
theorem dX7_frame_80 : decode cX7_frame 80 = .ok (.ireturn, 1) := by decide +kernel
theorem dX7_frame_81 : decode cX7_frame 81 = .ok (.aload_n 0, 1) := by decide +kernel
theorem dX7_frame_82 : decode cX7_frame 82 = .ok (.getfield 58, 3) := by decide +kernel
theorem dX7_frame_85 : decode cX7_frame 85 = .ok (.iload_n 1, 1) := by decide +kernel
theorem dX7_frame_86 : decode cX7_frame 86 = .ok (.invokevirtual 153, 3) := by decide +kernel
theorem dX7_frame_89 : decode cX7_frame 89 = .ok (.ireturn, 1) := by decide +kernel
theorem dX7_frame_90 : decode cX7_frame 90 = .ok (.iconst (-1), 1) := by decide +kernel
theorem dX7_frame_91 : decode cX7_frame 91 = .ok (.ireturn, 1) := by decide +kernel
theorem dX7_track_0 : decode cX7_track 0 = .ok (.iload_n 1, 1) := by decide +kernel
theorem dX7_track_1 : decode cX7_track 1 = .ok (.ifCond .lt 14, 3) := by decide +kernel
theorem dX7_track_4 : decode cX7_track 4 = .ok (.iload_n 1, 1) := by decide +kernel
theorem dX7_track_5 : decode cX7_track 5 = .ok (.aload_n 0, 1) := by decide +kernel
theorem dX7_track_6 : decode cX7_track 6 = .ok (.getfield 58, 3) := by decide +kernel
theorem dX7_track_9 : decode cX7_track 9 = .ok (.getfield 156, 3) := by decide +kernel
theorem dX7_track_12 : decode cX7_track 12 = .ok (.if_icmp .lt 6, 3) := by decide +kernel
theorem dX7_track_15 : decode cX7_track 15 = .ok (.ldc 126, 2) := by decide +kernel
theorem dX7_track_17 : decode cX7_track 17 = .ok (.ireturn, 1) := by decide +kernel
theorem dX7_track_18 : decode cX7_track 18 = .ok (.iload_n 2, 1) := by decide +kernel
theorem dX7_track_19 : decode cX7_track 19 = .ok (.tableswitch 136 0 7 #[45, 55, 65, 79, 89, 99, 109, 118], 45) := by decide +kernel
theorem dX7_track_64 : decode cX7_track 64 = .ok (.aload_n 0, 1) := by decide +kernel
theorem dX7_track_65 : decode cX7_track 65 = .ok (.getfield 58, 3) := by decide +kernel
theorem dX7_track_68 : decode cX7_track 68 = .ok (.getfield 158, 3) := by decide +kernel
theorem dX7_track_71 : decode cX7_track 71 = .ok (.iload_n 1, 1) := by decide +kernel
theorem dX7_track_72 : decode cX7_track 72 = .ok (.iaload, 1) := by decide +kernel
theorem dX7_track_73 : decode cX7_track 73 = .ok (.ireturn, 1) := by decide +kernel
theorem dX7_track_74 : decode cX7_track 74 = .ok (.aload_n 0, 1) := by decide +kernel
theorem dX7_track_75 : decode cX7_track 75 = .ok (.getfield 58, 3) := by decide +kernel
theorem dX7_track_78 : decode cX7_track 78 = .ok (.getfield 161, 3) := by decide +kernel
theorem dX7_track_81 : decode cX7_track 81 = .ok (.iload_n 1, 1) := by decide +kernel
theorem dX7_track_82 : decode cX7_track 82 = .ok (.iaload, 1) := by decide +kernel
theorem dX7_track_83 : decode cX7_track 83 = .ok (.ireturn, 1) := by decide +kernel
theorem dX7_track_84 : decode cX7_track 84 = .ok (.aload_n 0, 1) := by decide +kernel
theorem dX7_track_85 : decode cX7_track 85 = .ok (.iload_n 1, 1) := by decide +kernel
theorem dX7_track_86 : decode cX7_track 86 = .ok (.invokevirtual 164, 3) := by decide +kernel
theorem dX7_track_89 : decode cX7_track 89 = .ok (.ifCond .eq 7, 3) := by decide +kernel
theorem dX7_track_92 : decode cX7_track 92 = .ok (.iconst 1, 1) := by decide +kernel
theorem dX7_track_93 : decode cX7_track 93 = .ok (.goto 4, 3) := by decide +kernel
theorem dX7_track_96 : decode cX7_track 96 = .ok (.iconst 0, 1) := by decide +kernel
theorem dX7_track_97 : decode cX7_track 97 = .ok (.ireturn, 1) := by decide +kernel
theorem dX7_track_98 : decode cX7_track 98 = .ok (.aload_n 0, 1) := by decide +kernel
theorem dX7_track_99 : decode cX7_track 99 = .ok (.getfield 58, 3) := by decide +kernel
theorem dX7_track_102 : decode cX7_track 102 = .ok (.getfield 167, 3) := by decide +kernel
theorem dX7_track_105 : decode cX7_track 105 = .ok (.iload_n 1, 1) := by decide +kernel
theorem dX7_track_106 : decode cX7_track 106 = .ok (.iaload, 1) := by decide +kernel
theorem dX7_track_107 : decode cX7_track 107 = .ok (.ireturn, 1) := by decide +kernel
theorem dX7_track_108 : decode cX7_track 108 = .ok (.aload_n 0, 1) := by decide +kernel
theorem dX7_track_109 : decode cX7_track 109 = .ok (.getfield 58, 3) := by decide +kernel
theorem dX7_track_112 : decode cX7_track 112 = .ok (.getfield 170, 3) := by decide +kernel
theorem dX7_track_115 : decode cX7_track 115 = .ok (.iload_n 1, 1) := by decide +kernel
theorem dX7_track_116 : decode cX7_track 116 = .ok (.iaload, 1) := by decide +kernel
theorem dX7_track_117 : decode cX7_track 117 = .ok (.ireturn, 1) := by decide +kernel
theorem dX7_track_118 : decode cX7_track 118 = .ok (.aload_n 0, 1) := by decide +kernel
theorem dX7_track_119 : decode cX7_track 119 = .ok (.getfield 58, 3) := by decide +kernel
theorem dX7_track_122 : decode cX7_track 122 = .ok (.getfield 173, 3) := by decide +kernel
theorem dX7_track_125 : decode cX7_track 125 = .ok (.iload_n 1, 1) := by decide +kernel
theorem dX7_track_126 : decode cX7_track 126 = .ok (.iaload, 1) := by decide +kernel
theorem dX7_track_127 : decode cX7_track 127 = .ok (.ireturn, 1) := by decide +kernel
theorem dX7_track_128 : decode cX7_track 128 = .ok (.aload_n 0, 1) := by decide +kernel
theorem dX7_track_129 : decode cX7_track 129 = .ok (.getfield 58, 3) := by decide +kernel
theorem dX7_track_132 : decode cX7_track 132 = .ok (.iload_n 1, 1) := by decide +kernel
theorem dX7_track_133 : decode cX7_track 133 = .ok (.invokevirtual 176, 3) := by decide +kernel
theorem dX7_track_136 : decode cX7_track 136 = .ok (.ireturn, 1) := by decide +kernel
theorem dX7_track_137 : decode cX7_track 137 = .ok (.aload_n 0, 1) := by decide +kernel
theorem dX7_track_138 : decode cX7_track 138 = .ok (.getfield 58, 3) := by decide +kernel
theorem dX7_track_141 : decode cX7_track 141 = .ok (.iload_n 1, 1) := by decide +kernel
theorem dX7_track_142 : decode cX7_track 142 = .ok (.aload_n 0, 1) := by decide +kernel
theorem dX7_track_143 : decode cX7_track 143 = .ok (.getfield 58, 3) := by decide +kernel
theorem dX7_track_146 : decode cX7_track 146 = .ok (.getfield 158, 3) := by decide +kernel
theorem dX7_track_149 : decode cX7_track 149 = .ok (.iload_n 1, 1) := by decide +kernel
theorem dX7_track_150 : decode cX7_track 150 = .ok (.iaload, 1) := by decide +kernel
theorem dX7_track_151 : decode cX7_track 151 = .ok (.invokevirtual 179, 3) := by decide +kernel
theorem dX7_track_154 : decode cX7_track 154 = .ok (.ireturn, 1) := by decide +kernel
theorem dX7_track_155 : decode cX7_track 155 = .ok (.ldc 126, 2) := by decide +kernel
theorem dX7_track_157 : decode cX7_track 157 = .ok (.ireturn, 1) := by decide +kernel
theorem dX7_pitch_0 : decode cX7_pitch 0 = .ok (.iload_n 1, 1) := by decide +kernel
theorem dX7_pitch_1 : decode cX7_pitch 1 = .ok (.ifCond .lt 25, 3) := by decide +kernel
theorem dX7_pitch_4 : decode cX7_pitch 4 = .ok (.iload_n 1, 1) := by decide +kernel
theorem dX7_pitch_5 : decode cX7_pitch 5 = .ok (.aload_n 0, 1) := by decide +kernel
theorem dX7_pitch_6 : decode cX7_pitch 6 = .ok (.getfield 58, 3) := by decide +kernel
theorem dX7_pitch_9 : decode cX7_pitch 9 = .ok (.getfield 156, 3) := by decide +kernel
theorem dX7_pitch_12 : decode cX7_pitch 12 = .ok (.if_icmp .ge 14, 3) := by decide +kernel
theorem dX7_pitch_15 : decode cX7_pitch 15 = .ok (.aload_n 0, 1) := by decide +kernel
theorem dX7_pitch_16 : decode cX7_pitch 16 = .ok (.getfield 10, 3) := by decide +kernel
theorem dX7_pitch_19 : decode cX7_pitch 19 = .ok (.iload_n 2, 1) := by decide +kernel
theorem dX7_pitch_20 : decode cX7_pitch 20 = .ok (.invokevirtual 122, 3) := by decide +kernel
theorem dX7_pitch_23 : decode cX7_pitch 23 = .ok (.ifCond .ne 6, 3) := by decide +kernel
theorem dX7_pitch_26 : decode cX7_pitch 26 = .ok (.ldc 126, 2) := by decide +kernel
theorem dX7_pitch_28 : decode cX7_pitch 28 = .ok (.ireturn, 1) := by decide +kernel
theorem dX7_pitch_29 : decode cX7_pitch 29 = .ok (.aload_n 0, 1) := by decide +kernel
theorem dX7_pitch_30 : decode cX7_pitch 30 = .ok (.getfield 58, 3) := by decide +kernel
theorem dX7_pitch_33 : decode cX7_pitch 33 = .ok (.iload_n 1, 1) := by decide +kernel
theorem dX7_pitch_34 : decode cX7_pitch 34 = .ok (.iload_n 2, 1) := by decide +kernel
theorem dX7_pitch_35 : decode cX7_pitch 35 = .ok (.invokevirtual 179, 3) := by decide +kernel
theorem dX7_pitch_38 : decode cX7_pitch 38 = .ok (.ireturn, 1) := by decide +kernel
theorem dX7_best_0 : decode cX7_best 0 = .ok (.iload_n 1, 1) := by decide +kernel
theorem dX7_best_1 : decode cX7_best 1 = .ok (.ifCond .lt 8, 3) := by decide +kernel
theorem dX7_best_4 : decode cX7_best 4 = .ok (.iload_n 1, 1) := by decide +kernel
theorem dX7_best_5 : decode cX7_best 5 = .ok (.iconst 1, 1) := by decide +kernel
theorem dX7_best_6 : decode cX7_best 6 = .ok (.if_icmp .le 5, 3) := by decide +kernel
theorem dX7_best_9 : decode cX7_best 9 = .ok (.iconst (-1), 1) := by decide +kernel
theorem dX7_best_10 : decode cX7_best 10 = .ok (.ireturn, 1) := by decide +kernel
theorem dX7_best_11 : decode cX7_best 11 = .ok (.aload_n 0, 1) := by decide +kernel
theorem dX7_best_12 : decode cX7_best 12 = .ok (.getfield 69, 3) := by decide +kernel
theorem dX7_best_15 : decode cX7_best 15 = .ok (.bipush (-9), 2) := by decide +kernel
theorem dX7_best_17 : decode cX7_best 17 = .ok (.if_icmp .ne 54, 3) := by decide +kernel
theorem dX7_best_20 : decode cX7_best 20 = .ok (.aload_n 0, 1) := by decide +kernel
theorem dX7_best_21 : decode cX7_best 21 = .ok (.bipush 49, 2) := by decide +kernel
theorem dX7_best_23 : decode cX7_best 23 = .ok (.putfield 182, 3) := by decide +kernel
theorem dX7_best_26 : decode cX7_best 26 = .ok (.getstatic 185, 3) := by decide +kernel
theorem dX7_best_29 : decode cX7_best 29 = .ok (.iconst 1, 1) := by decide +kernel
theorem dX7_best_30 : decode cX7_best 30 = .ok (.iaload, 1) := by decide +kernel
theorem dX7_best_31 : decode cX7_best 31 = .ok (.istore_n 2, 1) := by decide +kernel
theorem dX7_best_32 : decode cX7_best 32 = .ok (.iload_n 2, 1) := by decide +kernel
theorem dX7_best_33 : decode cX7_best 33 = .ok (.getstatic 188, 3) := by decide +kernel
theorem dX7_best_36 : decode cX7_best 36 = .ok (.iconst 1, 1) := by decide +kernel
theorem dX7_best_37 : decode cX7_best 37 = .ok (.iaload, 1) := by decide +kernel
theorem dX7_best_38 : decode cX7_best 38 = .ok (.if_icmp .gt 33, 3) := by decide +kernel
theorem dX7_best_41 : decode cX7_best 41 = .ok (.aload_n 0, 1) := by decide +kernel
theorem dX7_best_42 : decode cX7_best 42 = .ok (.iload_n 2, 1) := by decide +kernel
theorem dX7_best_43 : decode cX7_best 43 = .ok (.invokevirtual 191, 3) := by decide +kernel
theorem dX7_best_46 : decode cX7_best 46 = .ok (.istore_n 3, 1) := by decide +kernel
theorem dX7_best_47 : decode cX7_best 47 = .ok (.iload_n 3, 1) := by decide +kernel
theorem dX7_best_48 : decode cX7_best 48 = .ok (.aload_n 0, 1) := by decide +kernel
theorem dX7_best_49 : decode cX7_best 49 = .ok (.getfield 182, 3) := by decide +kernel
theorem dX7_best_52 : decode cX7_best 52 = .ok (.if_icmp .ge 13, 3) := by decide +kernel
theorem dX7_best_55 : decode cX7_best 55 = .ok (.aload_n 0, 1) := by decide +kernel
theorem dX7_best_56 : decode cX7_best 56 = .ok (.iload_n 3, 1) := by decide +kernel
theorem dX7_best_57 : decode cX7_best 57 = .ok (.putfield 182, 3) := by decide +kernel
theorem dX7_best_60 : decode cX7_best 60 = .ok (.aload_n 0, 1) := by decide +kernel
theorem dX7_best_61 : decode cX7_best 61 = .ok (.iload_n 2, 1) := by decide +kernel
theorem dX7_best_62 : decode cX7_best 62 = .ok (.putfield 69, 3) := by decide +kernel
theorem dX7_best_65 : decode cX7_best 65 = .ok (.iinc 2 1, 3) := by decide +kernel
theorem dX7_best_68 : decode cX7_best 68 = .ok (.goto (-36), 3) := by decide +kernel
theorem dX7_best_71 : decode cX7_best 71 = .ok (.iload_n 1, 1) := by decide +kernel
theorem dX7_best_72 : decode cX7_best 72 = .ok (.ifCond .ne 10, 3) := by decide +kernel
theorem dX7_best_75 : decode cX7_best 75 = .ok (.aload_n 0, 1) := by decide +kernel
theorem dX7_best_76 : decode cX7_best 76 = .ok (.getfield 69, 3) := by decide +kernel
theorem dX7_best_79 : decode cX7_best 79 = .ok (.goto 7, 3) := by decide +kernel
theorem dX7_best_82 : decode cX7_best 82 = .ok (.aload_n 0, 1) := by decide +kernel
theorem dX7_best_83 : decode cX7_best 83 = .ok (.getfield 182, 3) := by decide +kernel
theorem dX7_best_86 : decode cX7_best 86 = .ok (.ireturn, 1) := by decide +kernel
theorem dX7_sees_0 : decode cX7_sees 0 = .ok (.iload_n 2, 1) := by decide +kernel
theorem dX7_sees_1 : decode cX7_sees 1 = .ok (.iconst (-1), 1) := by decide +kernel
theorem dX7_sees_2 : decode cX7_sees 2 = .ok (.if_icmp .lt 13, 3) := by decide +kernel
theorem dX7_sees_5 : decode cX7_sees 5 = .ok (.iload_n 2, 1) := by decide +kernel
theorem dX7_sees_6 : decode cX7_sees 6 = .ok (.bipush 45, 2) := by decide +kernel
theorem dX7_sees_8 : decode cX7_sees 8 = .ok (.if_icmp .gt 7, 3) := by decide +kernel
theorem dX7_sees_11 : decode cX7_sees 11 = .ok (.iconst 1, 1) := by decide +kernel
theorem dX7_sees_12 : decode cX7_sees 12 = .ok (.goto 4, 3) := by decide +kernel
theorem dX7_sees_15 : decode cX7_sees 15 = .ok (.iconst 0, 1) := by decide +kernel
theorem dX7_sees_16 : decode cX7_sees 16 = .ok (.istore_n 3, 1) := by decide +kernel
theorem dX7_sees_17 : decode cX7_sees 17 = .ok (.iload_n 1, 1) := by decide +kernel
theorem dX7_sees_18 : decode cX7_sees 18 = .ok (.ifCond .lt 19, 3) := by decide +kernel
theorem dX7_sees_21 : decode cX7_sees 21 = .ok (.iload_n 1, 1) := by decide +kernel
theorem dX7_sees_22 : decode cX7_sees 22 = .ok (.bipush 8, 2) := by decide +kernel
theorem dX7_sees_24 : decode cX7_sees 24 = .ok (.if_icmp .ge 13, 3) := by decide +kernel
theorem dX7_sees_27 : decode cX7_sees 27 = .ok (.iload_n 3, 1) := by decide +kernel
theorem dX7_sees_28 : decode cX7_sees 28 = .ok (.ifCond .ne 11, 3) := by decide +kernel
theorem dX7_sees_31 : decode cX7_sees 31 = .ok (.iload_n 2, 1) := by decide +kernel
theorem dX7_sees_32 : decode cX7_sees 32 = .ok (.bipush (-9), 2) := by decide +kernel
theorem dX7_sees_34 : decode cX7_sees 34 = .ok (.if_icmp .eq 5, 3) := by decide +kernel
theorem dX7_sees_37 : decode cX7_sees 37 = .ok (.iconst (-1), 1) := by decide +kernel
theorem dX7_sees_38 : decode cX7_sees 38 = .ok (.ireturn, 1) := by decide +kernel
theorem dX7_sees_39 : decode cX7_sees 39 = .ok (.aload_n 0, 1) := by decide +kernel
theorem dX7_sees_40 : decode cX7_sees 40 = .ok (.getfield 65, 3) := by decide +kernel
theorem dX7_sees_43 : decode cX7_sees 43 = .ok (.getfield 194, 3) := by decide +kernel
theorem dX7_sees_46 : decode cX7_sees 46 = .ok (.bipush 6, 2) := by decide +kernel
theorem dX7_sees_48 : decode cX7_sees 48 = .ok (.if_icmp .lt 6, 3) := by decide +kernel
theorem dX7_sees_51 : decode cX7_sees 51 = .ok (.bipush (-3), 2) := by decide +kernel
theorem dX7_sees_53 : decode cX7_sees 53 = .ok (.ireturn, 1) := by decide +kernel
theorem dX7_sees_54 : decode cX7_sees 54 = .ok (.aload_n 0, 1) := by decide +kernel
theorem dX7_sees_55 : decode cX7_sees 55 = .ok (.getfield 65, 3) := by decide +kernel
theorem dX7_sees_58 : decode cX7_sees 58 = .ok (.iload_n 1, 1) := by decide +kernel
theorem dX7_sees_59 : decode cX7_sees 59 = .ok (.iload_n 2, 1) := by decide +kernel
theorem dX7_sees_60 : decode cX7_sees 60 = .ok (.invokevirtual 195, 3) := by decide +kernel
theorem dX7_sees_63 : decode cX7_sees 63 = .ok (.aload_n 0, 1) := by decide +kernel
theorem dX7_sees_64 : decode cX7_sees 64 = .ok (.getfield 65, 3) := by decide +kernel
theorem dX7_sees_67 : decode cX7_sees 67 = .ok (.getfield 194, 3) := by decide +kernel
theorem dX7_sees_70 : decode cX7_sees 70 = .ok (.ireturn, 1) := by decide +kernel
theorem dX7_forget_0 : decode cX7_forget 0 = .ok (.aload_n 0, 1) := by decide +kernel
theorem dX7_forget_1 : decode cX7_forget 1 = .ok (.getfield 65, 3) := by decide +kernel
theorem dX7_forget_4 : decode cX7_forget 4 = .ok (.getfield 194, 3) := by decide +kernel
theorem dX7_forget_7 : decode cX7_forget 7 = .ok (.istore_n 1, 1) := by decide +kernel
theorem dX7_forget_8 : decode cX7_forget 8 = .ok (.aload_n 0, 1) := by decide +kernel
theorem dX7_forget_9 : decode cX7_forget 9 = .ok (.getfield 65, 3) := by decide +kernel
theorem dX7_forget_12 : decode cX7_forget 12 = .ok (.iconst 0, 1) := by decide +kernel
theorem dX7_forget_13 : decode cX7_forget 13 = .ok (.putfield 194, 3) := by decide +kernel
theorem dX7_forget_16 : decode cX7_forget 16 = .ok (.iload_n 1, 1) := by decide +kernel
theorem dX7_forget_17 : decode cX7_forget 17 = .ok (.ireturn, 1) := by decide +kernel
theorem dX7_which_0 : decode cX7_which 0 = .ok (.iload_n 1, 1) := by decide +kernel
theorem dX7_which_1 : decode cX7_which 1 = .ok (.ifCond .lt 8, 3) := by decide +kernel
theorem dX7_which_4 : decode cX7_which 4 = .ok (.iload_n 1, 1) := by decide +kernel
theorem dX7_which_5 : decode cX7_which 5 = .ok (.iconst 1, 1) := by decide +kernel
theorem dX7_which_6 : decode cX7_which 6 = .ok (.if_icmp .le 5, 3) := by decide +kernel
theorem dX7_which_9 : decode cX7_which 9 = .ok (.iconst (-1), 1) := by decide +kernel
theorem dX7_which_10 : decode cX7_which 10 = .ok (.ireturn, 1) := by decide +kernel
theorem dX7_which_11 : decode cX7_which 11 = .ok (.aload_n 0, 1) := by decide +kernel
theorem dX7_which_12 : decode cX7_which 12 = .ok (.getfield 65, 3) := by decide +kernel
theorem dX7_which_15 : decode cX7_which 15 = .ok (.aload_n 0, 1) := by decide +kernel
theorem dX7_which_16 : decode cX7_which 16 = .ok (.getfield 58, 3) := by decide +kernel
theorem dX7_which_19 : decode cX7_which 19 = .ok (.invokevirtual 198, 3) := by decide +kernel
theorem dX7_which_22 : decode cX7_which 22 = .ok (.iload_n 1, 1) := by decide +kernel
theorem dX7_which_23 : decode cX7_which 23 = .ok (.ifCond .ne 11, 3) := by decide +kernel
theorem dX7_which_26 : decode cX7_which 26 = .ok (.aload_n 0, 1) := by decide +kernel
theorem dX7_which_27 : decode cX7_which 27 = .ok (.getfield 65, 3) := by decide +kernel
theorem dX7_which_30 : decode cX7_which 30 = .ok (.getfield 202, 3) := by decide +kernel
theorem dX7_which_33 : decode cX7_which 33 = .ok (.ireturn, 1) := by decide +kernel
theorem dX7_which_34 : decode cX7_which 34 = .ok (.aload_n 0, 1) := by decide +kernel
theorem dX7_which_35 : decode cX7_which 35 = .ok (.getfield 65, 3) := by decide +kernel
theorem dX7_which_38 : decode cX7_which 38 = .ok (.getfield 202, 3) := by decide +kernel
theorem dX7_which_41 : decode cX7_which 41 = .ok (.ifCond .le 15, 3) := by decide +kernel
theorem dX7_which_44 : decode cX7_which 44 = .ok (.aload_n 0, 1) := by decide +kernel
theorem dX7_which_45 : decode cX7_which 45 = .ok (.getfield 65, 3) := by decide +kernel
theorem dX7_which_48 : decode cX7_which 48 = .ok (.getfield 205, 3) := by decide +kernel
theorem dX7_which_51 : decode cX7_which 51 = .ok (.iconst 0, 1) := by decide +kernel
theorem dX7_which_52 : decode cX7_which 52 = .ok (.iaload, 1) := by decide +kernel
theorem dX7_which_53 : decode cX7_which 53 = .ok (.goto 5, 3) := by decide +kernel
theorem dX7_which_56 : decode cX7_which 56 = .ok (.bipush (-9), 2) := by decide +kernel
theorem dX7_which_58 : decode cX7_which 58 = .ok (.ireturn, 1) := by decide +kernel
theorem dX7_listen_0 : decode cX7_listen 0 = .ok (.aload_n 0, 1) := by decide +kernel
theorem dX7_listen_1 : decode cX7_listen 1 = .ok (.getfield 65, 3) := by decide +kernel
theorem dX7_listen_4 : decode cX7_listen 4 = .ok (.aload_n 0, 1) := by decide +kernel
theorem dX7_listen_5 : decode cX7_listen 5 = .ok (.getfield 58, 3) := by decide +kernel
theorem dX7_listen_8 : decode cX7_listen 8 = .ok (.invokevirtual 198, 3) := by decide +kernel
theorem dX7_listen_11 : decode cX7_listen 11 = .ok (.aload_n 0, 1) := by decide +kernel
theorem dX7_listen_12 : decode cX7_listen 12 = .ok (.getfield 65, 3) := by decide +kernel
theorem dX7_listen_15 : decode cX7_listen 15 = .ok (.getfield 202, 3) := by decide +kernel
theorem dX7_listen_18 : decode cX7_listen 18 = .ok (.iconst 1, 1) := by decide +kernel
theorem dX7_listen_19 : decode cX7_listen 19 = .ok (.if_icmp .gt 6, 3) := by decide +kernel
theorem dX7_listen_22 : decode cX7_listen 22 = .ok (.bipush (-9), 2) := by decide +kernel
theorem dX7_listen_24 : decode cX7_listen 24 = .ok (.ireturn, 1) := by decide +kernel
theorem dX7_listen_25 : decode cX7_listen 25 = .ok (.iconst 0, 1) := by decide +kernel
theorem dX7_listen_26 : decode cX7_listen 26 = .ok (.istore_n 1, 1) := by decide +kernel
theorem dX7_listen_27 : decode cX7_listen 27 = .ok (.aload_n 0, 1) := by decide +kernel
theorem dX7_listen_28 : decode cX7_listen 28 = .ok (.getfield 65, 3) := by decide +kernel
theorem dX7_listen_31 : decode cX7_listen 31 = .ok (.aload_n 0, 1) := by decide +kernel
theorem dX7_listen_32 : decode cX7_listen 32 = .ok (.getfield 58, 3) := by decide +kernel
theorem dX7_listen_35 : decode cX7_listen 35 = .ok (.iconst 0, 1) := by decide +kernel
theorem dX7_listen_36 : decode cX7_listen 36 = .ok (.invokevirtual 208, 3) := by decide +kernel
theorem dX7_listen_39 : decode cX7_listen 39 = .ok (.istore_n 2, 1) := by decide +kernel
theorem dX7_listen_40 : decode cX7_listen 40 = .ok (.iconst 1, 1) := by decide +kernel
theorem dX7_listen_41 : decode cX7_listen 41 = .ok (.istore_n 3, 1) := by decide +kernel
theorem dX7_listen_42 : decode cX7_listen 42 = .ok (.iload_n 3, 1) := by decide +kernel
theorem dX7_listen_43 : decode cX7_listen 43 = .ok (.aload_n 0, 1) := by decide +kernel
theorem dX7_listen_44 : decode cX7_listen 44 = .ok (.getfield 10, 3) := by decide +kernel
theorem dX7_listen_47 : decode cX7_listen 47 = .ok (.getfield 212, 3) := by decide +kernel
theorem dX7_listen_50 : decode cX7_listen 50 = .ok (.if_icmp .ge 34, 3) := by decide +kernel
theorem dX7_listen_53 : decode cX7_listen 53 = .ok (.aload_n 0, 1) := by decide +kernel
theorem dX7_listen_54 : decode cX7_listen 54 = .ok (.getfield 65, 3) := by decide +kernel
theorem dX7_listen_57 : decode cX7_listen 57 = .ok (.aload_n 0, 1) := by decide +kernel
theorem dX7_listen_58 : decode cX7_listen 58 = .ok (.getfield 58, 3) := by decide +kernel
theorem dX7_listen_61 : decode cX7_listen 61 = .ok (.iload_n 3, 1) := by decide +kernel
theorem dX7_listen_62 : decode cX7_listen 62 = .ok (.invokevirtual 208, 3) := by decide +kernel
theorem dX7_listen_65 : decode cX7_listen 65 = .ok (.istore 4, 2) := by decide +kernel
theorem dX7_listen_67 : decode cX7_listen 67 = .ok (.iload 4, 2) := by decide +kernel
theorem dX7_listen_69 : decode cX7_listen 69 = .ok (.iload_n 2, 1) := by decide +kernel
theorem dX7_listen_70 : decode cX7_listen 70 = .ok (.if_icmp .ge 8, 3) := by decide +kernel
theorem dX7_listen_73 : decode cX7_listen 73 = .ok (.iload 4, 2) := by decide +kernel
theorem dX7_listen_75 : decode cX7_listen 75 = .ok (.istore_n 2, 1) := by decide +kernel
theorem dX7_listen_76 : decode cX7_listen 76 = .ok (.iload_n 3, 1) := by decide +kernel
theorem dX7_listen_77 : decode cX7_listen 77 = .ok (.istore_n 1, 1) := by decide +kernel
theorem dX7_listen_78 : decode cX7_listen 78 = .ok (.iinc 3 1, 3) := by decide +kernel
theorem dX7_listen_81 : decode cX7_listen 81 = .ok (.goto (-39), 3) := by decide +kernel
theorem dX7_listen_84 : decode cX7_listen 84 = .ok (.iload_n 1, 1) := by decide +kernel
theorem dX7_listen_85 : decode cX7_listen 85 = .ok (.ireturn, 1) := by decide +kernel
theorem dX7_keep_0 : decode cX7_keep 0 = .ok (.iload_n 1, 1) := by decide +kernel
theorem dX7_keep_1 : decode cX7_keep 1 = .ok (.ifCond .lt 8, 3) := by decide +kernel
theorem dX7_keep_4 : decode cX7_keep 4 = .ok (.iload_n 1, 1) := by decide +kernel
theorem dX7_keep_5 : decode cX7_keep 5 = .ok (.iconst 2, 1) := by decide +kernel
theorem dX7_keep_6 : decode cX7_keep 6 = .ok (.if_icmp .lt 5, 3) := by decide +kernel
theorem dX7_keep_9 : decode cX7_keep 9 = .ok (.iconst (-1), 1) := by decide +kernel
theorem dX7_keep_10 : decode cX7_keep 10 = .ok (.ireturn, 1) := by decide +kernel
theorem dX7_keep_11 : decode cX7_keep 11 = .ok (.aload_n 0, 1) := by decide +kernel
theorem dX7_keep_12 : decode cX7_keep 12 = .ok (.getfield 33, 3) := by decide +kernel
theorem dX7_keep_15 : decode cX7_keep 15 = .ok (.iload_n 1, 1) := by decide +kernel
theorem dX7_keep_16 : decode cX7_keep 16 = .ok (.aaload, 1) := by decide +kernel
theorem dX7_keep_17 : decode cX7_keep 17 = .ok (.aload_n 0, 1) := by decide +kernel
theorem dX7_keep_18 : decode cX7_keep 18 = .ok (.getfield 10, 3) := by decide +kernel
theorem dX7_keep_21 : decode cX7_keep 21 = .ok (.invokevirtual 94, 3) := by decide +kernel
theorem dX7_keep_24 : decode cX7_keep 24 = .ok (.aload_n 0, 1) := by decide +kernel
theorem dX7_keep_25 : decode cX7_keep 25 = .ok (.getfield 37, 3) := by decide +kernel
theorem dX7_keep_28 : decode cX7_keep 28 = .ok (.iload_n 1, 1) := by decide +kernel
theorem dX7_keep_29 : decode cX7_keep 29 = .ok (.iconst 1, 1) := by decide +kernel
theorem dX7_keep_30 : decode cX7_keep 30 = .ok (.bastore, 1) := by decide +kernel
theorem dX7_keep_31 : decode cX7_keep 31 = .ok (.aload_n 0, 1) := by decide +kernel
theorem dX7_keep_32 : decode cX7_keep 32 = .ok (.getfield 10, 3) := by decide +kernel
theorem dX7_keep_35 : decode cX7_keep 35 = .ok (.getfield 212, 3) := by decide +kernel
theorem dX7_keep_38 : decode cX7_keep 38 = .ok (.ireturn, 1) := by decide +kernel
theorem dX7_back_0 : decode cX7_back 0 = .ok (.iload_n 1, 1) := by decide +kernel
theorem dX7_back_1 : decode cX7_back 1 = .ok (.ifCond .lt 8, 3) := by decide +kernel
theorem dX7_back_4 : decode cX7_back 4 = .ok (.iload_n 1, 1) := by decide +kernel
theorem dX7_back_5 : decode cX7_back 5 = .ok (.iconst 2, 1) := by decide +kernel
theorem dX7_back_6 : decode cX7_back 6 = .ok (.if_icmp .lt 5, 3) := by decide +kernel
theorem dX7_back_9 : decode cX7_back 9 = .ok (.iconst (-1), 1) := by decide +kernel
theorem dX7_back_10 : decode cX7_back 10 = .ok (.ireturn, 1) := by decide +kernel
theorem dX7_back_11 : decode cX7_back 11 = .ok (.aload_n 0, 1) := by decide +kernel
theorem dX7_back_12 : decode cX7_back 12 = .ok (.getfield 37, 3) := by decide +kernel
theorem dX7_back_15 : decode cX7_back 15 = .ok (.iload_n 1, 1) := by decide +kernel
theorem dX7_back_16 : decode cX7_back 16 = .ok (.baload, 1) := by decide +kernel
theorem dX7_back_17 : decode cX7_back 17 = .ok (.ifCond .ne 6, 3) := by decide +kernel
theorem dX7_back_20 : decode cX7_back 20 = .ok (.bipush (-2), 2) := by decide +kernel
theorem dX7_back_22 : decode cX7_back 22 = .ok (.ireturn, 1) := by decide +kernel
theorem dX7_back_23 : decode cX7_back 23 = .ok (.aload_n 0, 1) := by decide +kernel
theorem dX7_back_24 : decode cX7_back 24 = .ok (.getfield 10, 3) := by decide +kernel
theorem dX7_back_27 : decode cX7_back 27 = .ok (.aload_n 0, 1) := by decide +kernel
theorem dX7_back_28 : decode cX7_back 28 = .ok (.getfield 33, 3) := by decide +kernel
theorem dX7_back_31 : decode cX7_back 31 = .ok (.iload_n 1, 1) := by decide +kernel
theorem dX7_back_32 : decode cX7_back 32 = .ok (.aaload, 1) := by decide +kernel
theorem dX7_back_33 : decode cX7_back 33 = .ok (.invokevirtual 94, 3) := by decide +kernel
theorem dX7_back_36 : decode cX7_back 36 = .ok (.aload_n 0, 1) := by decide +kernel
theorem dX7_back_37 : decode cX7_back 37 = .ok (.getfield 29, 3) := by decide +kernel
theorem dX7_back_40 : decode cX7_back 40 = .ok (.iconst 0, 1) := by decide +kernel
theorem dX7_back_41 : decode cX7_back 41 = .ok (.putfield 116, 3) := by decide +kernel
theorem dX7_back_44 : decode cX7_back 44 = .ok (.aload_n 0, 1) := by decide +kernel
theorem dX7_back_45 : decode cX7_back 45 = .ok (.invokevirtual 76, 3) := by decide +kernel
theorem dX7_back_48 : decode cX7_back 48 = .ok (.aload_n 0, 1) := by decide +kernel
theorem dX7_back_49 : decode cX7_back 49 = .ok (.getfield 10, 3) := by decide +kernel
theorem dX7_back_52 : decode cX7_back 52 = .ok (.getfield 212, 3) := by decide +kernel
theorem dX7_back_55 : decode cX7_back 55 = .ok (.ireturn, 1) := by decide +kernel
theorem dX7_count_0 : decode cX7_count 0 = .ok (.iload_n 1, 1) := by decide +kernel
theorem dX7_count_1 : decode cX7_count 1 = .ok (.tableswitch 150 0 10 #[59, 67, 75, 85, 95, 105, 113, 118, 126, 134, 142], 59) := by decide +kernel
theorem dX7_count_60 : decode cX7_count 60 = .ok (.aload_n 0, 1) := by decide +kernel
theorem dX7_count_61 : decode cX7_count 61 = .ok (.getfield 10, 3) := by decide +kernel
theorem dX7_count_64 : decode cX7_count 64 = .ok (.getfield 212, 3) := by decide +kernel
theorem dX7_count_67 : decode cX7_count 67 = .ok (.ireturn, 1) := by decide +kernel
theorem dX7_count_68 : decode cX7_count 68 = .ok (.aload_n 0, 1) := by decide +kernel
theorem dX7_count_69 : decode cX7_count 69 = .ok (.getfield 10, 3) := by decide +kernel
theorem dX7_count_72 : decode cX7_count 72 = .ok (.getfield 215, 3) := by decide +kernel
theorem dX7_count_75 : decode cX7_count 75 = .ok (.ireturn, 1) := by decide +kernel
theorem dX7_count_76 : decode cX7_count 76 = .ok (.aload_n 0, 1) := by decide +kernel
theorem dX7_count_77 : decode cX7_count 77 = .ok (.getfield 10, 3) := by decide +kernel
theorem dX7_count_80 : decode cX7_count 80 = .ok (.getfield 112, 3) := by decide +kernel
theorem dX7_count_83 : decode cX7_count 83 = .ok (.iconst 0, 1) := by decide +kernel
theorem dX7_count_84 : decode cX7_count 84 = .ok (.iaload, 1) := by decide +kernel
theorem dX7_count_85 : decode cX7_count 85 = .ok (.ireturn, 1) := by decide +kernel
theorem dX7_count_86 : decode cX7_count 86 = .ok (.aload_n 0, 1) := by decide +kernel
theorem dX7_count_87 : decode cX7_count 87 = .ok (.getfield 10, 3) := by decide +kernel
theorem dX7_count_90 : decode cX7_count 90 = .ok (.getfield 112, 3) := by decide +kernel
theorem dX7_count_93 : decode cX7_count 93 = .ok (.iconst 1, 1) := by decide +kernel
theorem dX7_count_94 : decode cX7_count 94 = .ok (.iaload, 1) := by decide +kernel
theorem dX7_count_95 : decode cX7_count 95 = .ok (.ireturn, 1) := by decide +kernel
theorem dX7_count_96 : decode cX7_count 96 = .ok (.aload_n 0, 1) := by decide +kernel
theorem dX7_count_97 : decode cX7_count 97 = .ok (.getfield 10, 3) := by decide +kernel
theorem dX7_count_100 : decode cX7_count 100 = .ok (.getfield 112, 3) := by decide +kernel
theorem dX7_count_103 : decode cX7_count 103 = .ok (.iconst 2, 1) := by decide +kernel
theorem dX7_count_104 : decode cX7_count 104 = .ok (.iaload, 1) := by decide +kernel
theorem dX7_count_105 : decode cX7_count 105 = .ok (.ireturn, 1) := by decide +kernel
theorem dX7_count_106 : decode cX7_count 106 = .ok (.aload_n 0, 1) := by decide +kernel
theorem dX7_count_107 : decode cX7_count 107 = .ok (.getfield 58, 3) := by decide +kernel
theorem dX7_count_110 : decode cX7_count 110 = .ok (.getfield 156, 3) := by decide +kernel
theorem dX7_count_113 : decode cX7_count 113 = .ok (.ireturn, 1) := by decide +kernel
theorem dX7_count_114 : decode cX7_count 114 = .ok (.aload_n 0, 1) := by decide +kernel
theorem dX7_count_115 : decode cX7_count 115 = .ok (.invokevirtual 217, 3) := by decide +kernel
theorem dX7_count_118 : decode cX7_count 118 = .ok (.ireturn, 1) := by decide +kernel
theorem dX7_count_119 : decode cX7_count 119 = .ok (.aload_n 0, 1) := by decide +kernel
theorem dX7_count_120 : decode cX7_count 120 = .ok (.getfield 58, 3) := by decide +kernel
theorem dX7_count_123 : decode cX7_count 123 = .ok (.invokevirtual 221, 3) := by decide +kernel
theorem dX7_count_126 : decode cX7_count 126 = .ok (.ireturn, 1) := by decide +kernel
theorem dX7_count_127 : decode cX7_count 127 = .ok (.aload_n 0, 1) := by decide +kernel
theorem dX7_count_128 : decode cX7_count 128 = .ok (.getfield 65, 3) := by decide +kernel
theorem dX7_count_131 : decode cX7_count 131 = .ok (.getfield 194, 3) := by decide +kernel
theorem dX7_count_134 : decode cX7_count 134 = .ok (.ireturn, 1) := by decide +kernel
theorem dX7_count_135 : decode cX7_count 135 = .ok (.aload_n 0, 1) := by decide +kernel
theorem dX7_count_136 : decode cX7_count 136 = .ok (.getfield 22, 3) := by decide +kernel
theorem dX7_count_139 : decode cX7_count 139 = .ok (.getfield 79, 3) := by decide +kernel
theorem dX7_count_142 : decode cX7_count 142 = .ok (.ireturn, 1) := by decide +kernel
theorem dX7_count_143 : decode cX7_count 143 = .ok (.aload_n 0, 1) := by decide +kernel
theorem dX7_count_144 : decode cX7_count 144 = .ok (.getfield 29, 3) := by decide +kernel
theorem dX7_count_147 : decode cX7_count 147 = .ok (.getfield 116, 3) := by decide +kernel
theorem dX7_count_150 : decode cX7_count 150 = .ok (.ireturn, 1) := by decide +kernel
theorem dX7_count_151 : decode cX7_count 151 = .ok (.iconst (-1), 1) := by decide +kernel
theorem dX7_count_152 : decode cX7_count 152 = .ok (.ireturn, 1) := by decide +kernel
theorem dX7_followAnew_0 : decode cX7_followAnew 0 = .ok (.aload_n 0, 1) := by decide +kernel
theorem dX7_followAnew_1 : decode cX7_followAnew 1 = .ok (.getfield 44, 3) := by decide +kernel
theorem dX7_followAnew_4 : decode cX7_followAnew 4 = .ok (.aload_n 0, 1) := by decide +kernel
theorem dX7_followAnew_5 : decode cX7_followAnew 5 = .ok (.getfield 10, 3) := by decide +kernel
theorem dX7_followAnew_8 : decode cX7_followAnew 8 = .ok (.invokevirtual 224, 3) := by decide +kernel
theorem dX7_followAnew_11 : decode cX7_followAnew 11 = .ok (.aload_n 0, 1) := by decide +kernel
theorem dX7_followAnew_12 : decode cX7_followAnew 12 = .ok (.getfield 58, 3) := by decide +kernel
theorem dX7_followAnew_15 : decode cX7_followAnew 15 = .ok (.aload_n 0, 1) := by decide +kernel
theorem dX7_followAnew_16 : decode cX7_followAnew 16 = .ok (.getfield 44, 3) := by decide +kernel
theorem dX7_followAnew_19 : decode cX7_followAnew 19 = .ok (.aload_n 0, 1) := by decide +kernel
theorem dX7_followAnew_20 : decode cX7_followAnew 20 = .ok (.getfield 51, 3) := by decide +kernel
theorem dX7_followAnew_23 : decode cX7_followAnew 23 = .ok (.aload_n 0, 1) := by decide +kernel
theorem dX7_followAnew_24 : decode cX7_followAnew 24 = .ok (.getfield 10, 3) := by decide +kernel
theorem dX7_followAnew_27 : decode cX7_followAnew 27 = .ok (.getfield 112, 3) := by decide +kernel
theorem dX7_followAnew_30 : decode cX7_followAnew 30 = .ok (.iconst 1, 1) := by decide +kernel
theorem dX7_followAnew_31 : decode cX7_followAnew 31 = .ok (.iaload, 1) := by decide +kernel
theorem dX7_followAnew_32 : decode cX7_followAnew 32 = .ok (.invokevirtual 227, 3) := by decide +kernel
theorem dX7_followAnew_35 : decode cX7_followAnew 35 = .ok (.aload_n 0, 1) := by decide +kernel
theorem dX7_followAnew_36 : decode cX7_followAnew 36 = .ok (.bipush (-9), 2) := by decide +kernel
theorem dX7_followAnew_38 : decode cX7_followAnew 38 = .ok (.putfield 69, 3) := by decide +kernel
theorem dX7_followAnew_41 : decode cX7_followAnew 41 = .ok (.return_, 1) := by decide +kernel
theorem dX7_isSetting_0 : decode cX7_isSetting 0 = .ok (.iload_n 0, 1) := by decide +kernel
theorem dX7_isSetting_1 : decode cX7_isSetting 1 = .ok (.ifCond .lt 30, 3) := by decide +kernel
theorem dX7_isSetting_4 : decode cX7_isSetting 4 = .ok (.iload_n 0, 1) := by decide +kernel
theorem dX7_isSetting_5 : decode cX7_isSetting 5 = .ok (.iconst 3, 1) := by decide +kernel
theorem dX7_isSetting_6 : decode cX7_isSetting 6 = .ok (.if_icmp .ge 25, 3) := by decide +kernel
theorem dX7_isSetting_9 : decode cX7_isSetting 9 = .ok (.iload_n 1, 1) := by decide +kernel
theorem dX7_isSetting_10 : decode cX7_isSetting 10 = .ok (.getstatic 185, 3) := by decide +kernel
theorem dX7_isSetting_13 : decode cX7_isSetting 13 = .ok (.iload_n 0, 1) := by decide +kernel
theorem dX7_isSetting_14 : decode cX7_isSetting 14 = .ok (.iaload, 1) := by decide +kernel
theorem dX7_isSetting_15 : decode cX7_isSetting 15 = .ok (.if_icmp .lt 16, 3) := by decide +kernel
theorem dX7_isSetting_18 : decode cX7_isSetting 18 = .ok (.iload_n 1, 1) := by decide +kernel
theorem dX7_isSetting_19 : decode cX7_isSetting 19 = .ok (.getstatic 188, 3) := by decide +kernel
theorem dX7_isSetting_22 : decode cX7_isSetting 22 = .ok (.iload_n 0, 1) := by decide +kernel
theorem dX7_isSetting_23 : decode cX7_isSetting 23 = .ok (.iaload, 1) := by decide +kernel
theorem dX7_isSetting_24 : decode cX7_isSetting 24 = .ok (.if_icmp .gt 7, 3) := by decide +kernel
theorem dX7_isSetting_27 : decode cX7_isSetting 27 = .ok (.iconst 1, 1) := by decide +kernel
theorem dX7_isSetting_28 : decode cX7_isSetting 28 = .ok (.goto 4, 3) := by decide +kernel
theorem dX7_isSetting_31 : decode cX7_isSetting 31 = .ok (.iconst 0, 1) := by decide +kernel
theorem dX7_isSetting_32 : decode cX7_isSetting 32 = .ok (.ireturn, 1) := by decide +kernel
theorem dX7_isKept_0 : decode cX7_isKept 0 = .ok (.iload_n 1, 1) := by decide +kernel
theorem dX7_isKept_1 : decode cX7_isKept 1 = .ok (.ifCond .lt 39, 3) := by decide +kernel
theorem dX7_isKept_4 : decode cX7_isKept 4 = .ok (.iload_n 1, 1) := by decide +kernel
theorem dX7_isKept_5 : decode cX7_isKept 5 = .ok (.aload_n 0, 1) := by decide +kernel
theorem dX7_isKept_6 : decode cX7_isKept 6 = .ok (.getfield 58, 3) := by decide +kernel
theorem dX7_isKept_9 : decode cX7_isKept 9 = .ok (.getfield 156, 3) := by decide +kernel
theorem dX7_isKept_12 : decode cX7_isKept 12 = .ok (.if_icmp .ge 28, 3) := by decide +kernel
theorem dX7_isKept_15 : decode cX7_isKept 15 = .ok (.aload_n 0, 1) := by decide +kernel
theorem dX7_isKept_16 : decode cX7_isKept 16 = .ok (.getfield 58, 3) := by decide +kernel
theorem dX7_isKept_19 : decode cX7_isKept 19 = .ok (.getfield 161, 3) := by decide +kernel
theorem dX7_isKept_22 : decode cX7_isKept 22 = .ok (.iload_n 1, 1) := by decide +kernel
theorem dX7_isKept_23 : decode cX7_isKept 23 = .ok (.iaload, 1) := by decide +kernel
theorem dX7_isKept_24 : decode cX7_isKept 24 = .ok (.aload_n 0, 1) := by decide +kernel
theorem dX7_isKept_25 : decode cX7_isKept 25 = .ok (.getfield 10, 3) := by decide +kernel
theorem dX7_isKept_28 : decode cX7_isKept 28 = .ok (.getfield 112, 3) := by decide +kernel
theorem dX7_isKept_31 : decode cX7_isKept 31 = .ok (.iconst 2, 1) := by decide +kernel
theorem dX7_isKept_32 : decode cX7_isKept 32 = .ok (.iaload, 1) := by decide +kernel
theorem dX7_isKept_33 : decode cX7_isKept 33 = .ok (.if_icmp .lt 7, 3) := by decide +kernel
theorem dX7_isKept_36 : decode cX7_isKept 36 = .ok (.iconst 1, 1) := by decide +kernel
theorem dX7_isKept_37 : decode cX7_isKept 37 = .ok (.goto 4, 3) := by decide +kernel
theorem dX7_isKept_40 : decode cX7_isKept 40 = .ok (.iconst 0, 1) := by decide +kernel
theorem dX7_isKept_41 : decode cX7_isKept 41 = .ok (.ireturn, 1) := by decide +kernel
theorem dX7_keptTracks_0 : decode cX7_keptTracks 0 = .ok (.iconst 0, 1) := by decide +kernel
theorem dX7_keptTracks_1 : decode cX7_keptTracks 1 = .ok (.istore_n 1, 1) := by decide +kernel
theorem dX7_keptTracks_2 : decode cX7_keptTracks 2 = .ok (.iconst 0, 1) := by decide +kernel
theorem dX7_keptTracks_3 : decode cX7_keptTracks 3 = .ok (.istore_n 2, 1) := by decide +kernel
theorem dX7_keptTracks_4 : decode cX7_keptTracks 4 = .ok (.iload_n 2, 1) := by decide +kernel
theorem dX7_keptTracks_5 : decode cX7_keptTracks 5 = .ok (.aload_n 0, 1) := by decide +kernel
theorem dX7_keptTracks_6 : decode cX7_keptTracks 6 = .ok (.getfield 58, 3) := by decide +kernel
theorem dX7_keptTracks_9 : decode cX7_keptTracks 9 = .ok (.getfield 156, 3) := by decide +kernel
theorem dX7_keptTracks_12 : decode cX7_keptTracks 12 = .ok (.if_icmp .ge 20, 3) := by decide +kernel
theorem dX7_keptTracks_15 : decode cX7_keptTracks 15 = .ok (.aload_n 0, 1) := by decide +kernel
theorem dX7_keptTracks_16 : decode cX7_keptTracks 16 = .ok (.iload_n 2, 1) := by decide +kernel
theorem dX7_keptTracks_17 : decode cX7_keptTracks 17 = .ok (.invokevirtual 164, 3) := by decide +kernel
theorem dX7_keptTracks_20 : decode cX7_keptTracks 20 = .ok (.ifCond .eq 6, 3) := by decide +kernel
theorem dX7_keptTracks_23 : decode cX7_keptTracks 23 = .ok (.iinc 1 1, 3) := by decide +kernel
theorem dX7_keptTracks_26 : decode cX7_keptTracks 26 = .ok (.iinc 2 1, 3) := by decide +kernel
theorem dX7_keptTracks_29 : decode cX7_keptTracks 29 = .ok (.goto (-25), 3) := by decide +kernel
theorem dX7_keptTracks_32 : decode cX7_keptTracks 32 = .ok (.iload_n 1, 1) := by decide +kernel
theorem dX7_keptTracks_33 : decode cX7_keptTracks 33 = .ok (.ireturn, 1) := by decide +kernel
theorem dX7_loudTogether_0 : decode cX7_loudTogether 0 = .ok (.iconst 0, 1) := by decide +kernel
theorem dX7_loudTogether_1 : decode cX7_loudTogether 1 = .ok (.istore_n 3, 1) := by decide +kernel
theorem dX7_loudTogether_2 : decode cX7_loudTogether 2 = .ok (.iconst 0, 1) := by decide +kernel
theorem dX7_loudTogether_3 : decode cX7_loudTogether 3 = .ok (.istore 4, 2) := by decide +kernel
theorem dX7_loudTogether_5 : decode cX7_loudTogether 5 = .ok (.iload 4, 2) := by decide +kernel
theorem dX7_loudTogether_7 : decode cX7_loudTogether 7 = .ok (.aload_n 0, 1) := by decide +kernel
theorem dX7_loudTogether_8 : decode cX7_loudTogether 8 = .ok (.getfield 44, 3) := by decide +kernel
theorem dX7_loudTogether_11 : decode cX7_loudTogether 11 = .ok (.getfield 127, 3) := by decide +kernel
theorem dX7_loudTogether_14 : decode cX7_loudTogether 14 = .ok (.iload_n 1, 1) := by decide +kernel
theorem dX7_loudTogether_15 : decode cX7_loudTogether 15 = .ok (.iaload, 1) := by decide +kernel
theorem dX7_loudTogether_16 : decode cX7_loudTogether 16 = .ok (.if_icmp .ge 49, 3) := by decide +kernel
theorem dX7_loudTogether_19 : decode cX7_loudTogether 19 = .ok (.iload_n 1, 1) := by decide +kernel
theorem dX7_loudTogether_20 : decode cX7_loudTogether 20 = .ok (.bipush 6, 2) := by decide +kernel
theorem dX7_loudTogether_22 : decode cX7_loudTogether 22 = .ok (.imul, 1) := by decide +kernel
theorem dX7_loudTogether_23 : decode cX7_loudTogether 23 = .ok (.iload 4, 2) := by decide +kernel
theorem dX7_loudTogether_25 : decode cX7_loudTogether 25 = .ok (.iadd, 1) := by decide +kernel
theorem dX7_loudTogether_26 : decode cX7_loudTogether 26 = .ok (.istore 5, 2) := by decide +kernel
theorem dX7_loudTogether_28 : decode cX7_loudTogether 28 = .ok (.aload_n 0, 1) := by decide +kernel
theorem dX7_loudTogether_29 : decode cX7_loudTogether 29 = .ok (.aload_n 0, 1) := by decide +kernel
theorem dX7_loudTogether_30 : decode cX7_loudTogether 30 = .ok (.getfield 58, 3) := by decide +kernel
theorem dX7_loudTogether_33 : decode cX7_loudTogether 33 = .ok (.getfield 139, 3) := by decide +kernel
theorem dX7_loudTogether_36 : decode cX7_loudTogether 36 = .ok (.iload 5, 2) := by decide +kernel
theorem dX7_loudTogether_38 : decode cX7_loudTogether 38 = .ok (.iaload, 1) := by decide +kernel
theorem dX7_loudTogether_39 : decode cX7_loudTogether 39 = .ok (.invokevirtual 164, 3) := by decide +kernel
theorem dX7_loudTogether_42 : decode cX7_loudTogether 42 = .ok (.iload_n 2, 1) := by decide +kernel
theorem dX7_loudTogether_43 : decode cX7_loudTogether 43 = .ok (.if_icmp .ne 16, 3) := by decide +kernel
theorem dX7_loudTogether_46 : decode cX7_loudTogether 46 = .ok (.iload_n 3, 1) := by decide +kernel
theorem dX7_loudTogether_47 : decode cX7_loudTogether 47 = .ok (.aload_n 0, 1) := by decide +kernel
theorem dX7_loudTogether_48 : decode cX7_loudTogether 48 = .ok (.getfield 44, 3) := by decide +kernel
theorem dX7_loudTogether_51 : decode cX7_loudTogether 51 = .ok (.getfield 136, 3) := by decide +kernel
theorem dX7_loudTogether_54 : decode cX7_loudTogether 54 = .ok (.iload 5, 2) := by decide +kernel
theorem dX7_loudTogether_56 : decode cX7_loudTogether 56 = .ok (.iaload, 1) := by decide +kernel
theorem dX7_loudTogether_57 : decode cX7_loudTogether 57 = .ok (.iadd, 1) := by decide +kernel
theorem dX7_loudTogether_58 : decode cX7_loudTogether 58 = .ok (.istore_n 3, 1) := by decide +kernel
theorem dX7_loudTogether_59 : decode cX7_loudTogether 59 = .ok (.iinc 4 1, 3) := by decide +kernel
theorem dX7_loudTogether_62 : decode cX7_loudTogether 62 = .ok (.goto (-57), 3) := by decide +kernel
theorem dX7_loudTogether_65 : decode cX7_loudTogether 65 = .ok (.iload_n 3, 1) := by decide +kernel
theorem dX7_loudTogether_66 : decode cX7_loudTogether 66 = .ok (.ireturn, 1) := by decide +kernel
theorem dX7_tracksByReach_0 : decode cX7_tracksByReach 0 = .ok (.iconst 0, 1) := by decide +kernel
theorem dX7_tracksByReach_1 : decode cX7_tracksByReach 1 = .ok (.istore_n 2, 1) := by decide +kernel
theorem dX7_tracksByReach_2 : decode cX7_tracksByReach 2 = .ok (.iconst 0, 1) := by decide +kernel
theorem dX7_tracksByReach_3 : decode cX7_tracksByReach 3 = .ok (.istore_n 3, 1) := by decide +kernel
theorem dX7_tracksByReach_4 : decode cX7_tracksByReach 4 = .ok (.iload_n 3, 1) := by decide +kernel
theorem dX7_tracksByReach_5 : decode cX7_tracksByReach 5 = .ok (.bipush 8, 2) := by decide +kernel
theorem dX7_tracksByReach_7 : decode cX7_tracksByReach 7 = .ok (.if_icmp .ge 35, 3) := by decide +kernel
theorem dX7_tracksByReach_10 : decode cX7_tracksByReach 10 = .ok (.iload_n 2, 1) := by decide +kernel
theorem dX7_tracksByReach_11 : decode cX7_tracksByReach 11 = .ok (.aload_n 0, 1) := by decide +kernel
theorem dX7_tracksByReach_12 : decode cX7_tracksByReach 12 = .ok (.getfield 44, 3) := by decide +kernel
theorem dX7_tracksByReach_15 : decode cX7_tracksByReach 15 = .ok (.getfield 127, 3) := by decide +kernel
theorem dX7_tracksByReach_18 : decode cX7_tracksByReach 18 = .ok (.iload_n 3, 1) := by decide +kernel
theorem dX7_tracksByReach_19 : decode cX7_tracksByReach 19 = .ok (.iaload, 1) := by decide +kernel
theorem dX7_tracksByReach_20 : decode cX7_tracksByReach 20 = .ok (.aload_n 0, 1) := by decide +kernel
theorem dX7_tracksByReach_21 : decode cX7_tracksByReach 21 = .ok (.getfield 51, 3) := by decide +kernel
theorem dX7_tracksByReach_24 : decode cX7_tracksByReach 24 = .ok (.aload_n 0, 1) := by decide +kernel
theorem dX7_tracksByReach_25 : decode cX7_tracksByReach 25 = .ok (.getfield 44, 3) := by decide +kernel
theorem dX7_tracksByReach_28 : decode cX7_tracksByReach 28 = .ok (.iload_n 3, 1) := by decide +kernel
theorem dX7_tracksByReach_29 : decode cX7_tracksByReach 29 = .ok (.iload_n 1, 1) := by decide +kernel
theorem dX7_tracksByReach_30 : decode cX7_tracksByReach 30 = .ok (.invokevirtual 231, 3) := by decide +kernel
theorem dX7_tracksByReach_33 : decode cX7_tracksByReach 33 = .ok (.isub, 1) := by decide +kernel
theorem dX7_tracksByReach_34 : decode cX7_tracksByReach 34 = .ok (.iadd, 1) := by decide +kernel
theorem dX7_tracksByReach_35 : decode cX7_tracksByReach 35 = .ok (.istore_n 2, 1) := by decide +kernel
theorem dX7_tracksByReach_36 : decode cX7_tracksByReach 36 = .ok (.iinc 3 1, 3) := by decide +kernel
theorem dX7_tracksByReach_39 : decode cX7_tracksByReach 39 = .ok (.goto (-35), 3) := by decide +kernel
theorem dX7_tracksByReach_42 : decode cX7_tracksByReach 42 = .ok (.iload_n 2, 1) := by decide +kernel
theorem dX7_tracksByReach_43 : decode cX7_tracksByReach 43 = .ok (.ireturn, 1) := by decide +kernel
theorem dX8_init_0 : decode cX8_init 0 = .ok (.aload_n 0, 1) := by decide +kernel
theorem dX8_init_1 : decode cX8_init 1 = .ok (.invokespecial 1, 3) := by decide +kernel
theorem dX8_init_4 : decode cX8_init 4 = .ok (.aload_n 0, 1) := by decide +kernel
theorem dX8_init_5 : decode cX8_init 5 = .ok (.bipush 101, 2) := by decide +kernel
theorem dX8_init_7 : decode cX8_init 7 = .ok (.newarray .int, 2) := by decide +kernel
theorem dX8_init_9 : decode cX8_init 9 = .ok (.putfield 7, 3) := by decide +kernel
theorem dX8_init_12 : decode cX8_init 12 = .ok (.aload_n 0, 1) := by decide +kernel
theorem dX8_init_13 : decode cX8_init 13 = .ok (.bipush 101, 2) := by decide +kernel
theorem dX8_init_15 : decode cX8_init 15 = .ok (.newarray .int, 2) := by decide +kernel
theorem dX8_init_17 : decode cX8_init 17 = .ok (.putfield 13, 3) := by decide +kernel
theorem dX8_init_20 : decode cX8_init 20 = .ok (.aload_n 0, 1) := by decide +kernel
theorem dX8_init_21 : decode cX8_init 21 = .ok (.sipush 606, 3) := by decide +kernel
theorem dX8_init_24 : decode cX8_init 24 = .ok (.newarray .int, 2) := by decide +kernel
theorem dX8_init_26 : decode cX8_init 26 = .ok (.putfield 16, 3) := by decide +kernel
theorem dX8_init_29 : decode cX8_init 29 = .ok (.aload_n 0, 1) := by decide +kernel
theorem dX8_init_30 : decode cX8_init 30 = .ok (.sipush 202, 3) := by decide +kernel
theorem dX8_init_33 : decode cX8_init 33 = .ok (.newarray .int, 2) := by decide +kernel
theorem dX8_init_35 : decode cX8_init 35 = .ok (.putfield 19, 3) := by decide +kernel
theorem dX8_init_38 : decode cX8_init 38 = .ok (.aload_n 0, 1) := by decide +kernel
theorem dX8_init_39 : decode cX8_init 39 = .ok (.iconst 2, 1) := by decide +kernel
theorem dX8_init_40 : decode cX8_init 40 = .ok (.newarray .boolean, 2) := by decide +kernel
theorem dX8_init_42 : decode cX8_init 42 = .ok (.putfield 22, 3) := by decide +kernel
theorem dX8_init_45 : decode cX8_init 45 = .ok (.aload_n 0, 1) := by decide +kernel
theorem dX8_init_46 : decode cX8_init 46 = .ok (.bipush 12, 2) := by decide +kernel
theorem dX8_init_48 : decode cX8_init 48 = .ok (.newarray .int, 2) := by decide +kernel
theorem dX8_init_50 : decode cX8_init 50 = .ok (.putfield 26, 3) := by decide +kernel
theorem dX8_init_53 : decode cX8_init 53 = .ok (.aload_n 0, 1) := by decide +kernel
theorem dX8_init_54 : decode cX8_init 54 = .ok (.sipush 140, 3) := by decide +kernel
theorem dX8_init_57 : decode cX8_init 57 = .ok (.newarray .byte, 2) := by decide +kernel
theorem dX8_init_59 : decode cX8_init 59 = .ok (.putfield 29, 3) := by decide +kernel
theorem dX8_init_62 : decode cX8_init 62 = .ok (.aload_n 0, 1) := by decide +kernel
theorem dX8_init_63 : decode cX8_init 63 = .ok (.bipush 8, 2) := by decide +kernel
theorem dX8_init_65 : decode cX8_init 65 = .ok (.newarray .int, 2) := by decide +kernel
theorem dX8_init_67 : decode cX8_init 67 = .ok (.putfield 33, 3) := by decide +kernel
theorem dX8_init_70 : decode cX8_init 70 = .ok (.aload_n 0, 1) := by decide +kernel
theorem dX8_init_71 : decode cX8_init 71 = .ok (.bipush 48, 2) := by decide +kernel
theorem dX8_init_73 : decode cX8_init 73 = .ok (.newarray .int, 2) := by decide +kernel
theorem dX8_init_75 : decode cX8_init 75 = .ok (.putfield 36, 3) := by decide +kernel
theorem dX8_init_78 : decode cX8_init 78 = .ok (.aload_n 0, 1) := by decide +kernel
theorem dX8_init_79 : decode cX8_init 79 = .ok (.bipush 48, 2) := by decide +kernel
theorem dX8_init_81 : decode cX8_init 81 = .ok (.newarray .int, 2) := by decide +kernel
theorem dX8_init_83 : decode cX8_init 83 = .ok (.putfield 39, 3) := by decide +kernel
theorem dX8_init_86 : decode cX8_init 86 = .ok (.aload_n 0, 1) := by decide +kernel
theorem dX8_init_87 : decode cX8_init 87 = .ok (.bipush 48, 2) := by decide +kernel
theorem dX8_init_89 : decode cX8_init 89 = .ok (.newarray .int, 2) := by decide +kernel
theorem dX8_init_91 : decode cX8_init 91 = .ok (.putfield 42, 3) := by decide +kernel
theorem dX8_init_94 : decode cX8_init 94 = .ok (.aload_n 0, 1) := by decide +kernel
theorem dX8_init_95 : decode cX8_init 95 = .ok (.bipush 49, 2) := by decide +kernel
theorem dX8_init_97 : decode cX8_init 97 = .ok (.newarray .int, 2) := by decide +kernel
theorem dX8_init_99 : decode cX8_init 99 = .ok (.putfield 45, 3) := by decide +kernel
theorem dX8_init_102 : decode cX8_init 102 = .ok (.aload_n 0, 1) := by decide +kernel
theorem dX8_init_103 : decode cX8_init 103 = .ok (.getfield 7, 3) := by decide +kernel
theorem dX8_init_106 : decode cX8_init 106 = .ok (.invokestatic 48, 3) := by decide +kernel
theorem dX8_init_109 : decode cX8_init 109 = .ok (.aload_n 0, 1) := by decide +kernel
theorem dX8_init_110 : decode cX8_init 110 = .ok (.getfield 7, 3) := by decide +kernel
theorem dX8_init_113 : decode cX8_init 113 = .ok (.iconst 0, 1) := by decide +kernel
theorem dX8_init_114 : decode cX8_init 114 = .ok (.iconst 1, 1) := by decide +kernel
theorem dX8_init_115 : decode cX8_init 115 = .ok (.iastore, 1) := by decide +kernel
theorem dX8_init_116 : decode cX8_init 116 = .ok (.aload_n 0, 1) := by decide +kernel
theorem dX8_init_117 : decode cX8_init 117 = .ok (.getfield 7, 3) := by decide +kernel
theorem dX8_init_120 : decode cX8_init 120 = .ok (.iconst 1, 1) := by decide +kernel
theorem dX8_init_121 : decode cX8_init 121 = .ok (.iconst 3, 1) := by decide +kernel
theorem dX8_init_122 : decode cX8_init 122 = .ok (.iastore, 1) := by decide +kernel
theorem dX8_init_123 : decode cX8_init 123 = .ok (.return_, 1) := by decide +kernel
theorem dX8_plain_0 : decode cX8_plain 0 = .ok (.iconst 0, 1) := by decide +kernel
theorem dX8_plain_1 : decode cX8_plain 1 = .ok (.istore_n 1, 1) := by decide +kernel
theorem dX8_plain_2 : decode cX8_plain 2 = .ok (.iload_n 1, 1) := by decide +kernel
theorem dX8_plain_3 : decode cX8_plain 3 = .ok (.bipush 101, 2) := by decide +kernel
theorem dX8_plain_5 : decode cX8_plain 5 = .ok (.if_icmp .ge 13, 3) := by decide +kernel
theorem dX8_plain_8 : decode cX8_plain 8 = .ok (.aload_n 0, 1) := by decide +kernel
theorem dX8_plain_9 : decode cX8_plain 9 = .ok (.iload_n 1, 1) := by decide +kernel
theorem dX8_plain_10 : decode cX8_plain 10 = .ok (.iconst 0, 1) := by decide +kernel
theorem dX8_plain_11 : decode cX8_plain 11 = .ok (.iastore, 1) := by decide +kernel
theorem dX8_plain_12 : decode cX8_plain 12 = .ok (.iinc 1 1, 3) := by decide +kernel
theorem dX8_plain_15 : decode cX8_plain 15 = .ok (.goto (-13), 3) := by decide +kernel
theorem dX8_plain_18 : decode cX8_plain 18 = .ok (.aload_n 0, 1) := by decide +kernel
theorem dX8_plain_19 : decode cX8_plain 19 = .ok (.iconst 2, 1) := by decide +kernel
theorem dX8_plain_20 : decode cX8_plain 20 = .ok (.iconst 1, 1) := by decide +kernel
theorem dX8_plain_21 : decode cX8_plain 21 = .ok (.iastore, 1) := by decide +kernel
theorem dX8_plain_22 : decode cX8_plain 22 = .ok (.aload_n 0, 1) := by decide +kernel
theorem dX8_plain_23 : decode cX8_plain 23 = .ok (.iconst 3, 1) := by decide +kernel
theorem dX8_plain_24 : decode cX8_plain 24 = .ok (.iconst 4, 1) := by decide +kernel
theorem dX8_plain_25 : decode cX8_plain 25 = .ok (.iastore, 1) := by decide +kernel
theorem dX8_plain_26 : decode cX8_plain 26 = .ok (.aload_n 0, 1) := by decide +kernel
theorem dX8_plain_27 : decode cX8_plain 27 = .ok (.iconst 4, 1) := by decide +kernel
theorem dX8_plain_28 : decode cX8_plain 28 = .ok (.iconst 1, 1) := by decide +kernel
theorem dX8_plain_29 : decode cX8_plain 29 = .ok (.iastore, 1) := by decide +kernel
theorem dX8_plain_30 : decode cX8_plain 30 = .ok (.return_, 1) := by decide +kernel
theorem dX8_in_0 : decode cX8_in 0 = .ok (.iload_n 0, 1) := by decide +kernel
theorem dX8_in_1 : decode cX8_in 1 = .ok (.iload_n 1, 1) := by decide +kernel
theorem dX8_in_2 : decode cX8_in 2 = .ok (.if_icmp .lt 12, 3) := by decide +kernel
theorem dX8_in_5 : decode cX8_in 5 = .ok (.iload_n 0, 1) := by decide +kernel
theorem dX8_in_6 : decode cX8_in 6 = .ok (.iload_n 2, 1) := by decide +kernel
theorem dX8_in_7 : decode cX8_in 7 = .ok (.if_icmp .gt 7, 3) := by decide +kernel
theorem dX8_in_10 : decode cX8_in 10 = .ok (.iconst 1, 1) := by decide +kernel
theorem dX8_in_11 : decode cX8_in 11 = .ok (.goto 4, 3) := by decide +kernel
theorem dX8_in_14 : decode cX8_in 14 = .ok (.iconst 0, 1) := by decide +kernel
theorem dX8_in_15 : decode cX8_in 15 = .ok (.ireturn, 1) := by decide +kernel
theorem dX8_type_0 : decode cX8_type 0 = .ok (.aload_n 0, 1) := by decide +kernel
theorem dX8_type_1 : decode cX8_type 1 = .ok (.iconst 0, 1) := by decide +kernel
theorem dX8_type_2 : decode cX8_type 2 = .ok (.putfield 52, 3) := by decide +kernel
theorem dX8_type_5 : decode cX8_type 5 = .ok (.iload_n 1, 1) := by decide +kernel
theorem dX8_type_6 : decode cX8_type 6 = .ok (.iconst 0, 1) := by decide +kernel
theorem dX8_type_7 : decode cX8_type 7 = .ok (.sipush 255, 3) := by decide +kernel
theorem dX8_type_10 : decode cX8_type 10 = .ok (.invokestatic 56, 3) := by decide +kernel
theorem dX8_type_13 : decode cX8_type 13 = .ok (.ifCond .ne 5, 3) := by decide +kernel
theorem dX8_type_16 : decode cX8_type 16 = .ok (.iconst (-1), 1) := by decide +kernel
theorem dX8_type_17 : decode cX8_type 17 = .ok (.ireturn, 1) := by decide +kernel
theorem dX8_type_18 : decode cX8_type 18 = .ok (.aload_n 0, 1) := by decide +kernel
theorem dX8_type_19 : decode cX8_type 19 = .ok (.getfield 60, 3) := by decide +kernel
theorem dX8_type_22 : decode cX8_type 22 = .ok (.sipush 140, 3) := by decide +kernel
theorem dX8_type_25 : decode cX8_type 25 = .ok (.if_icmp .ne 6, 3) := by decide +kernel
theorem dX8_type_28 : decode cX8_type 28 = .ok (.bipush (-3), 2) := by decide +kernel
theorem dX8_type_30 : decode cX8_type 30 = .ok (.ireturn, 1) := by decide +kernel
theorem dX8_type_31 : decode cX8_type 31 = .ok (.aload_n 0, 1) := by decide +kernel
theorem dX8_type_32 : decode cX8_type 32 = .ok (.getfield 29, 3) := by decide +kernel
theorem dX8_type_35 : decode cX8_type 35 = .ok (.aload_n 0, 1) := by decide +kernel
theorem dX8_type_36 : decode cX8_type 36 = .ok (.getfield 60, 3) := by decide +kernel
theorem dX8_type_39 : decode cX8_type 39 = .ok (.iload_n 1, 1) := by decide +kernel
theorem dX8_type_40 : decode cX8_type 40 = .ok (.i2b, 1) := by decide +kernel
theorem dX8_type_41 : decode cX8_type 41 = .ok (.bastore, 1) := by decide +kernel
theorem dX8_type_42 : decode cX8_type 42 = .ok (.aload_n 0, 1) := by decide +kernel
theorem dX8_type_43 : decode cX8_type 43 = .ok (.dup, 1) := by decide +kernel
theorem dX8_type_44 : decode cX8_type 44 = .ok (.getfield 60, 3) := by decide +kernel
theorem dX8_type_47 : decode cX8_type 47 = .ok (.iconst 1, 1) := by decide +kernel
theorem dX8_type_48 : decode cX8_type 48 = .ok (.iadd, 1) := by decide +kernel
theorem dX8_type_49 : decode cX8_type 49 = .ok (.putfield 60, 3) := by decide +kernel
theorem dX8_type_52 : decode cX8_type 52 = .ok (.aload_n 0, 1) := by decide +kernel
theorem dX8_type_53 : decode cX8_type 53 = .ok (.getfield 60, 3) := by decide +kernel
theorem dX8_type_56 : decode cX8_type 56 = .ok (.ireturn, 1) := by decide +kernel
theorem dX8_clear_0 : decode cX8_clear 0 = .ok (.aload_n 0, 1) := by decide +kernel
theorem dX8_clear_1 : decode cX8_clear 1 = .ok (.iconst 0, 1) := by decide +kernel
theorem dX8_clear_2 : decode cX8_clear 2 = .ok (.putfield 52, 3) := by decide +kernel
theorem dX8_clear_5 : decode cX8_clear 5 = .ok (.aload_n 0, 1) := by decide +kernel
theorem dX8_clear_6 : decode cX8_clear 6 = .ok (.getfield 60, 3) := by decide +kernel
theorem dX8_clear_9 : decode cX8_clear 9 = .ok (.istore_n 1, 1) := by decide +kernel
theorem dX8_clear_10 : decode cX8_clear 10 = .ok (.aload_n 0, 1) := by decide +kernel
theorem dX8_clear_11 : decode cX8_clear 11 = .ok (.iconst 0, 1) := by decide +kernel
theorem dX8_clear_12 : decode cX8_clear 12 = .ok (.putfield 60, 3) := by decide +kernel
theorem dX8_clear_15 : decode cX8_clear 15 = .ok (.iload_n 1, 1) := by decide +kernel
theorem dX8_clear_16 : decode cX8_clear 16 = .ok (.ireturn, 1) := by decide +kernel
theorem dX8_at_0 : decode cX8_at 0 = .ok (.iload_n 1, 1) := by decide +kernel
theorem dX8_at_1 : decode cX8_at 1 = .ok (.aload_n 0, 1) := by decide +kernel
theorem dX8_at_2 : decode cX8_at 2 = .ok (.getfield 60, 3) := by decide +kernel
theorem dX8_at_5 : decode cX8_at 5 = .ok (.if_icmp .ge 16, 3) := by decide +kernel
theorem dX8_at_8 : decode cX8_at 8 = .ok (.aload_n 0, 1) := by decide +kernel
theorem dX8_at_9 : decode cX8_at 9 = .ok (.getfield 29, 3) := by decide +kernel
theorem dX8_at_12 : decode cX8_at 12 = .ok (.iload_n 1, 1) := by decide +kernel
theorem dX8_at_13 : decode cX8_at 13 = .ok (.baload, 1) := by decide +kernel
theorem dX8_at_14 : decode cX8_at 14 = .ok (.sipush 255, 3) := by decide +kernel
theorem dX8_at_17 : decode cX8_at 17 = .ok (.iand, 1) := by decide +kernel
theorem dX8_at_18 : decode cX8_at 18 = .ok (.goto 4, 3) := by decide +kernel
theorem dX8_at_21 : decode cX8_at 21 = .ok (.iconst (-1), 1) := by decide +kernel
theorem dX8_at_22 : decode cX8_at 22 = .ok (.ireturn, 1) := by decide +kernel
theorem dX8_isWord_0 : decode cX8_isWord 0 = .ok (.aload_n 0, 1) := by decide +kernel
theorem dX8_isWord_1 : decode cX8_isWord 1 = .ok (.getfield 63, 3) := by decide +kernel
theorem dX8_isWord_4 : decode cX8_isWord 4 = .ok (.aload_n 0, 1) := by decide +kernel
theorem dX8_isWord_5 : decode cX8_isWord 5 = .ok (.getfield 66, 3) := by decide +kernel
theorem dX8_isWord_8 : decode cX8_isWord 8 = .ok (.isub, 1) := by decide +kernel
theorem dX8_isWord_9 : decode cX8_isWord 9 = .ok (.iconst 5, 1) := by decide +kernel
theorem dX8_isWord_10 : decode cX8_isWord 10 = .ok (.if_icmp .ne 77, 3) := by decide +kernel
theorem dX8_isWord_13 : decode cX8_isWord 13 = .ok (.aload_n 0, 1) := by decide +kernel
theorem dX8_isWord_14 : decode cX8_isWord 14 = .ok (.aload_n 0, 1) := by decide +kernel
theorem dX8_isWord_15 : decode cX8_isWord 15 = .ok (.getfield 66, 3) := by decide +kernel
theorem dX8_isWord_18 : decode cX8_isWord 18 = .ok (.invokevirtual 69, 3) := by decide +kernel
theorem dX8_isWord_21 : decode cX8_isWord 21 = .ok (.iload_n 1, 1) := by decide +kernel
theorem dX8_isWord_22 : decode cX8_isWord 22 = .ok (.if_icmp .ne 65, 3) := by decide +kernel
theorem dX8_isWord_25 : decode cX8_isWord 25 = .ok (.aload_n 0, 1) := by decide +kernel
theorem dX8_isWord_26 : decode cX8_isWord 26 = .ok (.aload_n 0, 1) := by decide +kernel
theorem dX8_isWord_27 : decode cX8_isWord 27 = .ok (.getfield 66, 3) := by decide +kernel
theorem dX8_isWord_30 : decode cX8_isWord 30 = .ok (.iconst 1, 1) := by decide +kernel
theorem dX8_isWord_31 : decode cX8_isWord 31 = .ok (.iadd, 1) := by decide +kernel
theorem dX8_isWord_32 : decode cX8_isWord 32 = .ok (.invokevirtual 69, 3) := by decide +kernel
theorem dX8_isWord_35 : decode cX8_isWord 35 = .ok (.iload_n 2, 1) := by decide +kernel
theorem dX8_isWord_36 : decode cX8_isWord 36 = .ok (.if_icmp .ne 51, 3) := by decide +kernel
theorem dX8_isWord_39 : decode cX8_isWord 39 = .ok (.aload_n 0, 1) := by decide +kernel
theorem dX8_isWord_40 : decode cX8_isWord 40 = .ok (.aload_n 0, 1) := by decide +kernel
theorem dX8_isWord_41 : decode cX8_isWord 41 = .ok (.getfield 66, 3) := by decide +kernel
theorem dX8_isWord_44 : decode cX8_isWord 44 = .ok (.iconst 2, 1) := by decide +kernel
theorem dX8_isWord_45 : decode cX8_isWord 45 = .ok (.iadd, 1) := by decide +kernel
theorem dX8_isWord_46 : decode cX8_isWord 46 = .ok (.invokevirtual 69, 3) := by decide +kernel
theorem dX8_isWord_49 : decode cX8_isWord 49 = .ok (.iload_n 3, 1) := by decide +kernel
theorem dX8_isWord_50 : decode cX8_isWord 50 = .ok (.if_icmp .ne 37, 3) := by decide +kernel
theorem dX8_isWord_53 : decode cX8_isWord 53 = .ok (.aload_n 0, 1) := by decide +kernel
theorem dX8_isWord_54 : decode cX8_isWord 54 = .ok (.aload_n 0, 1) := by decide +kernel
theorem dX8_isWord_55 : decode cX8_isWord 55 = .ok (.getfield 66, 3) := by decide +kernel
theorem dX8_isWord_58 : decode cX8_isWord 58 = .ok (.iconst 3, 1) := by decide +kernel
theorem dX8_isWord_59 : decode cX8_isWord 59 = .ok (.iadd, 1) := by decide +kernel
theorem dX8_isWord_60 : decode cX8_isWord 60 = .ok (.invokevirtual 69, 3) := by decide +kernel
theorem dX8_isWord_63 : decode cX8_isWord 63 = .ok (.iload 4, 2) := by decide +kernel
theorem dX8_isWord_65 : decode cX8_isWord 65 = .ok (.if_icmp .ne 22, 3) := by decide +kernel
theorem dX8_isWord_68 : decode cX8_isWord 68 = .ok (.aload_n 0, 1) := by decide +kernel
theorem dX8_isWord_69 : decode cX8_isWord 69 = .ok (.aload_n 0, 1) := by decide +kernel
theorem dX8_isWord_70 : decode cX8_isWord 70 = .ok (.getfield 66, 3) := by decide +kernel
theorem dX8_isWord_73 : decode cX8_isWord 73 = .ok (.iconst 4, 1) := by decide +kernel
theorem dX8_isWord_74 : decode cX8_isWord 74 = .ok (.iadd, 1) := by decide +kernel
theorem dX8_isWord_75 : decode cX8_isWord 75 = .ok (.invokevirtual 69, 3) := by decide +kernel
theorem dX8_isWord_78 : decode cX8_isWord 78 = .ok (.iload 5, 2) := by decide +kernel
theorem dX8_isWord_80 : decode cX8_isWord 80 = .ok (.if_icmp .ne 7, 3) := by decide +kernel
theorem dX8_isWord_83 : decode cX8_isWord 83 = .ok (.iconst 1, 1) := by decide +kernel
theorem dX8_isWord_84 : decode cX8_isWord 84 = .ok (.goto 4, 3) := by decide +kernel
theorem dX8_isWord_87 : decode cX8_isWord 87 = .ok (.iconst 0, 1) := by decide +kernel
theorem dX8_isWord_88 : decode cX8_isWord 88 = .ok (.ireturn, 1) := by decide +kernel
theorem dX8_wordOf_0 : decode cX8_wordOf 0 = .ok (.aload_n 0, 1) := by decide +kernel
theorem dX8_wordOf_1 : decode cX8_wordOf 1 = .ok (.bipush 102, 2) := by decide +kernel
theorem dX8_wordOf_3 : decode cX8_wordOf 3 = .ok (.bipush 114, 2) := by decide +kernel
theorem dX8_wordOf_5 : decode cX8_wordOf 5 = .ok (.bipush 97, 2) := by decide +kernel
theorem dX8_wordOf_7 : decode cX8_wordOf 7 = .ok (.bipush 109, 2) := by decide +kernel
theorem dX8_wordOf_9 : decode cX8_wordOf 9 = .ok (.bipush 101, 2) := by decide +kernel
theorem dX8_wordOf_11 : decode cX8_wordOf 11 = .ok (.invokevirtual 73, 3) := by decide +kernel
theorem dX8_wordOf_14 : decode cX8_wordOf 14 = .ok (.ifCond .eq 5, 3) := by decide +kernel
theorem dX8_wordOf_17 : decode cX8_wordOf 17 = .ok (.iconst 1, 1) := by decide +kernel
theorem dX8_wordOf_18 : decode cX8_wordOf 18 = .ok (.ireturn, 1) := by decide +kernel
theorem dX8_wordOf_19 : decode cX8_wordOf 19 = .ok (.aload_n 0, 1) := by decide +kernel
theorem dX8_wordOf_20 : decode cX8_wordOf 20 = .ok (.bipush 102, 2) := by decide +kernel
theorem dX8_wordOf_22 : decode cX8_wordOf 22 = .ok (.bipush 108, 2) := by decide +kernel
theorem dX8_wordOf_24 : decode cX8_wordOf 24 = .ok (.bipush 111, 2) := by decide +kernel
theorem dX8_wordOf_26 : decode cX8_wordOf 26 = .ok (.bipush 111, 2) := by decide +kernel
theorem dX8_wordOf_28 : decode cX8_wordOf 28 = .ok (.bipush 114, 2) := by decide +kernel
theorem dX8_wordOf_30 : decode cX8_wordOf 30 = .ok (.invokevirtual 73, 3) := by decide +kernel
theorem dX8_wordOf_33 : decode cX8_wordOf 33 = .ok (.ifCond .eq 5, 3) := by decide +kernel
theorem dX8_wordOf_36 : decode cX8_wordOf 36 = .ok (.iconst 2, 1) := by decide +kernel
theorem dX8_wordOf_37 : decode cX8_wordOf 37 = .ok (.ireturn, 1) := by decide +kernel
theorem dX8_wordOf_38 : decode cX8_wordOf 38 = .ok (.aload_n 0, 1) := by decide +kernel
theorem dX8_wordOf_39 : decode cX8_wordOf 39 = .ok (.bipush 114, 2) := by decide +kernel
theorem dX8_wordOf_41 : decode cX8_wordOf 41 = .ok (.bipush 101, 2) := by decide +kernel
theorem dX8_wordOf_43 : decode cX8_wordOf 43 = .ok (.bipush 97, 2) := by decide +kernel
theorem dX8_wordOf_45 : decode cX8_wordOf 45 = .ok (.bipush 99, 2) := by decide +kernel
theorem dX8_wordOf_47 : decode cX8_wordOf 47 = .ok (.bipush 104, 2) := by decide +kernel
theorem dX8_wordOf_49 : decode cX8_wordOf 49 = .ok (.invokevirtual 73, 3) := by decide +kernel
theorem dX8_wordOf_52 : decode cX8_wordOf 52 = .ok (.ifCond .eq 7, 3) := by decide +kernel
theorem dX8_wordOf_55 : decode cX8_wordOf 55 = .ok (.iconst 3, 1) := by decide +kernel
theorem dX8_wordOf_56 : decode cX8_wordOf 56 = .ok (.goto 26, 3) := by decide +kernel
theorem dX8_wordOf_59 : decode cX8_wordOf 59 = .ok (.aload_n 0, 1) := by decide +kernel
theorem dX8_wordOf_60 : decode cX8_wordOf 60 = .ok (.bipush 108, 2) := by decide +kernel
theorem dX8_wordOf_62 : decode cX8_wordOf 62 = .ok (.bipush 101, 2) := by decide +kernel
theorem dX8_wordOf_64 : decode cX8_wordOf 64 = .ok (.bipush 97, 2) := by decide +kernel
theorem dX8_wordOf_66 : decode cX8_wordOf 66 = .ok (.bipush 115, 2) := by decide +kernel
theorem dX8_wordOf_68 : decode cX8_wordOf 68 = .ok (.bipush 116, 2) := by decide +kernel
theorem dX8_wordOf_70 : decode cX8_wordOf 70 = .ok (.invokevirtual 73, 3) := by decide +kernel
theorem dX8_wordOf_73 : decode cX8_wordOf 73 = .ok (.ifCond .eq 7, 3) := by decide +kernel
theorem dX8_wordOf_76 : decode cX8_wordOf 76 = .ok (.iconst 4, 1) := by decide +kernel
theorem dX8_wordOf_77 : decode cX8_wordOf 77 = .ok (.goto 5, 3) := by decide +kernel
theorem dX8_wordOf_80 : decode cX8_wordOf 80 = .ok (.bipush 7, 2) := by decide +kernel
theorem dX8_wordOf_82 : decode cX8_wordOf 82 = .ok (.ireturn, 1) := by decide +kernel
theorem dX8_steps_0 : decode cX8_steps 0 = .ok (.aload_n 0, 1) := by decide +kernel
theorem dX8_steps_1 : decode cX8_steps 1 = .ok (.aload_n 0, 1) := by decide +kernel
theorem dX8_steps_2 : decode cX8_steps 2 = .ok (.getfield 63, 3) := by decide +kernel
theorem dX8_steps_5 : decode cX8_steps 5 = .ok (.putfield 66, 3) := by decide +kernel
theorem dX8_steps_8 : decode cX8_steps 8 = .ok (.aload_n 0, 1) := by decide +kernel
theorem dX8_steps_9 : decode cX8_steps 9 = .ok (.aload_n 0, 1) := by decide +kernel
theorem dX8_steps_10 : decode cX8_steps 10 = .ok (.getfield 66, 3) := by decide +kernel
theorem dX8_steps_13 : decode cX8_steps 13 = .ok (.invokevirtual 69, 3) := by decide +kernel
theorem dX8_steps_16 : decode cX8_steps 16 = .ok (.bipush 32, 2) := by decide +kernel
theorem dX8_steps_18 : decode cX8_steps 18 = .ok (.if_icmp .ne 16, 3) := by decide +kernel
theorem dX8_steps_21 : decode cX8_steps 21 = .ok (.aload_n 0, 1) := by decide +kernel
theorem dX8_steps_22 : decode cX8_steps 22 = .ok (.dup, 1) := by decide +kernel
theorem dX8_steps_23 : decode cX8_steps 23 = .ok (.getfield 66, 3) := by decide +kernel
theorem dX8_steps_26 : decode cX8_steps 26 = .ok (.iconst 1, 1) := by decide +kernel
theorem dX8_steps_27 : decode cX8_steps 27 = .ok (.iadd, 1) := by decide +kernel
theorem dX8_steps_28 : decode cX8_steps 28 = .ok (.putfield 66, 3) := by decide +kernel
theorem dX8_steps_31 : decode cX8_steps 31 = .ok (.goto (-23), 3) := by decide +kernel
theorem dX8_steps_34 : decode cX8_steps 34 = .ok (.aload_n 0, 1) := by decide +kernel
theorem dX8_steps_35 : decode cX8_steps 35 = .ok (.aload_n 0, 1) := by decide +kernel
theorem dX8_steps_36 : decode cX8_steps 36 = .ok (.getfield 66, 3) := by decide +kernel
theorem dX8_steps_39 : decode cX8_steps 39 = .ok (.putfield 63, 3) := by decide +kernel
theorem dX8_steps_42 : decode cX8_steps 42 = .ok (.aload_n 0, 1) := by decide +kernel
theorem dX8_steps_43 : decode cX8_steps 43 = .ok (.aload_n 0, 1) := by decide +kernel
theorem dX8_steps_44 : decode cX8_steps 44 = .ok (.getfield 63, 3) := by decide +kernel
theorem dX8_steps_47 : decode cX8_steps 47 = .ok (.invokevirtual 69, 3) := by decide +kernel
theorem dX8_steps_50 : decode cX8_steps 50 = .ok (.ifCond .ge 11, 3) := by decide +kernel
theorem dX8_steps_53 : decode cX8_steps 53 = .ok (.aload_n 0, 1) := by decide +kernel
theorem dX8_steps_54 : decode cX8_steps 54 = .ok (.iconst 0, 1) := by decide +kernel
theorem dX8_steps_55 : decode cX8_steps 55 = .ok (.putfield 77, 3) := by decide +kernel
theorem dX8_steps_58 : decode cX8_steps 58 = .ok (.goto 154, 3) := by decide +kernel
theorem dX8_steps_61 : decode cX8_steps 61 = .ok (.aload_n 0, 1) := by decide +kernel
theorem dX8_steps_62 : decode cX8_steps 62 = .ok (.aload_n 0, 1) := by decide +kernel
theorem dX8_steps_63 : decode cX8_steps 63 = .ok (.getfield 63, 3) := by decide +kernel
theorem dX8_steps_66 : decode cX8_steps 66 = .ok (.invokevirtual 69, 3) := by decide +kernel
theorem dX8_steps_69 : decode cX8_steps 69 = .ok (.bipush 48, 2) := by decide +kernel
theorem dX8_steps_71 : decode cX8_steps 71 = .ok (.bipush 57, 2) := by decide +kernel
theorem dX8_steps_73 : decode cX8_steps 73 = .ok (.invokestatic 56, 3) := by decide +kernel
theorem dX8_steps_76 : decode cX8_steps 76 = .ok (.ifCond .eq 42, 3) := by decide +kernel
theorem dX8_steps_79 : decode cX8_steps 79 = .ok (.aload_n 0, 1) := by decide +kernel
theorem dX8_steps_80 : decode cX8_steps 80 = .ok (.aload_n 0, 1) := by decide +kernel
theorem dX8_steps_81 : decode cX8_steps 81 = .ok (.getfield 63, 3) := by decide +kernel
theorem dX8_steps_84 : decode cX8_steps 84 = .ok (.invokevirtual 69, 3) := by decide +kernel
theorem dX8_steps_87 : decode cX8_steps 87 = .ok (.bipush 48, 2) := by decide +kernel
theorem dX8_steps_89 : decode cX8_steps 89 = .ok (.bipush 57, 2) := by decide +kernel
theorem dX8_steps_91 : decode cX8_steps 91 = .ok (.invokestatic 56, 3) := by decide +kernel
theorem dX8_steps_94 : decode cX8_steps 94 = .ok (.ifCond .eq 16, 3) := by decide +kernel
theorem dX8_steps_97 : decode cX8_steps 97 = .ok (.aload_n 0, 1) := by decide +kernel
theorem dX8_steps_98 : decode cX8_steps 98 = .ok (.dup, 1) := by decide +kernel
theorem dX8_steps_99 : decode cX8_steps 99 = .ok (.getfield 63, 3) := by decide +kernel
theorem dX8_steps_102 : decode cX8_steps 102 = .ok (.iconst 1, 1) := by decide +kernel
theorem dX8_steps_103 : decode cX8_steps 103 = .ok (.iadd, 1) := by decide +kernel
theorem dX8_steps_104 : decode cX8_steps 104 = .ok (.putfield 63, 3) := by decide +kernel
theorem dX8_steps_107 : decode cX8_steps 107 = .ok (.goto (-28), 3) := by decide +kernel
theorem dX8_steps_110 : decode cX8_steps 110 = .ok (.aload_n 0, 1) := by decide +kernel
theorem dX8_steps_111 : decode cX8_steps 111 = .ok (.iconst 5, 1) := by decide +kernel
theorem dX8_steps_112 : decode cX8_steps 112 = .ok (.putfield 77, 3) := by decide +kernel
theorem dX8_steps_115 : decode cX8_steps 115 = .ok (.goto 97, 3) := by decide +kernel
theorem dX8_steps_118 : decode cX8_steps 118 = .ok (.aload_n 0, 1) := by decide +kernel
theorem dX8_steps_119 : decode cX8_steps 119 = .ok (.aload_n 0, 1) := by decide +kernel
theorem dX8_steps_120 : decode cX8_steps 120 = .ok (.getfield 63, 3) := by decide +kernel
theorem dX8_steps_123 : decode cX8_steps 123 = .ok (.invokevirtual 69, 3) := by decide +kernel
theorem dX8_steps_126 : decode cX8_steps 126 = .ok (.bipush 97, 2) := by decide +kernel
theorem dX8_steps_128 : decode cX8_steps 128 = .ok (.bipush 122, 2) := by decide +kernel
theorem dX8_steps_130 : decode cX8_steps 130 = .ok (.invokestatic 56, 3) := by decide +kernel
theorem dX8_steps_133 : decode cX8_steps 133 = .ok (.ifCond .eq 45, 3) := by decide +kernel
theorem dX8_steps_136 : decode cX8_steps 136 = .ok (.aload_n 0, 1) := by decide +kernel
theorem dX8_steps_137 : decode cX8_steps 137 = .ok (.aload_n 0, 1) := by decide +kernel
theorem dX8_steps_138 : decode cX8_steps 138 = .ok (.getfield 63, 3) := by decide +kernel
theorem dX8_steps_141 : decode cX8_steps 141 = .ok (.invokevirtual 69, 3) := by decide +kernel
theorem dX8_steps_144 : decode cX8_steps 144 = .ok (.bipush 97, 2) := by decide +kernel
theorem dX8_steps_146 : decode cX8_steps 146 = .ok (.bipush 122, 2) := by decide +kernel
theorem dX8_steps_148 : decode cX8_steps 148 = .ok (.invokestatic 56, 3) := by decide +kernel
theorem dX8_steps_151 : decode cX8_steps 151 = .ok (.ifCond .eq 16, 3) := by decide +kernel
theorem dX8_steps_154 : decode cX8_steps 154 = .ok (.aload_n 0, 1) := by decide +kernel
theorem dX8_steps_155 : decode cX8_steps 155 = .ok (.dup, 1) := by decide +kernel
theorem dX8_steps_156 : decode cX8_steps 156 = .ok (.getfield 63, 3) := by decide +kernel
theorem dX8_steps_159 : decode cX8_steps 159 = .ok (.iconst 1, 1) := by decide +kernel
theorem dX8_steps_160 : decode cX8_steps 160 = .ok (.iadd, 1) := by decide +kernel
theorem dX8_steps_161 : decode cX8_steps 161 = .ok (.putfield 63, 3) := by decide +kernel
theorem dX8_steps_164 : decode cX8_steps 164 = .ok (.goto (-28), 3) := by decide +kernel
theorem dX8_steps_167 : decode cX8_steps 167 = .ok (.aload_n 0, 1) := by decide +kernel
theorem dX8_steps_168 : decode cX8_steps 168 = .ok (.aload_n 0, 1) := by decide +kernel
theorem dX8_steps_169 : decode cX8_steps 169 = .ok (.invokevirtual 80, 3) := by decide +kernel
theorem dX8_steps_172 : decode cX8_steps 172 = .ok (.putfield 77, 3) := by decide +kernel
theorem dX8_steps_175 : decode cX8_steps 175 = .ok (.goto 37, 3) := by decide +kernel
theorem dX8_steps_178 : decode cX8_steps 178 = .ok (.aload_n 0, 1) := by decide +kernel
theorem dX8_steps_179 : decode cX8_steps 179 = .ok (.aload_n 0, 1) := by decide +kernel
theorem dX8_steps_180 : decode cX8_steps 180 = .ok (.aload_n 0, 1) := by decide +kernel
theorem dX8_steps_181 : decode cX8_steps 181 = .ok (.getfield 63, 3) := by decide +kernel
theorem dX8_steps_184 : decode cX8_steps 184 = .ok (.invokevirtual 69, 3) := by decide +kernel
theorem dX8_steps_187 : decode cX8_steps 187 = .ok (.bipush 59, 2) := by decide +kernel
theorem dX8_steps_189 : decode cX8_steps 189 = .ok (.if_icmp .ne 8, 3) := by decide +kernel
theorem dX8_steps_192 : decode cX8_steps 192 = .ok (.bipush 6, 2) := by decide +kernel
theorem dX8_steps_194 : decode cX8_steps 194 = .ok (.goto 5, 3) := by decide +kernel
theorem dX8_steps_197 : decode cX8_steps 197 = .ok (.bipush 7, 2) := by decide +kernel
theorem dX8_steps_199 : decode cX8_steps 199 = .ok (.putfield 77, 3) := by decide +kernel
theorem dX8_steps_202 : decode cX8_steps 202 = .ok (.aload_n 0, 1) := by decide +kernel
theorem dX8_steps_203 : decode cX8_steps 203 = .ok (.dup, 1) := by decide +kernel
theorem dX8_steps_204 : decode cX8_steps 204 = .ok (.getfield 63, 3) := by decide +kernel
theorem dX8_steps_207 : decode cX8_steps 207 = .ok (.iconst 1, 1) := by decide +kernel
theorem dX8_steps_208 : decode cX8_steps 208 = .ok (.iadd, 1) := by decide +kernel
theorem dX8_steps_209 : decode cX8_steps 209 = .ok (.putfield 63, 3) := by decide +kernel
theorem dX8_steps_212 : decode cX8_steps 212 = .ok (.return_, 1) := by decide +kernel
theorem dX8_takes_0 : decode cX8_takes 0 = .ok (.aload_n 0, 1) := by decide +kernel
theorem dX8_takes_1 : decode cX8_takes 1 = .ok (.getfield 84, 3) := by decide +kernel
theorem dX8_takes_4 : decode cX8_takes 4 = .ok (.bipush (-9), 2) := by decide +kernel
theorem dX8_takes_6 : decode cX8_takes 6 = .ok (.if_icmp .ne 22, 3) := by decide +kernel
theorem dX8_takes_9 : decode cX8_takes 9 = .ok (.iload_n 1, 1) := by decide +kernel
theorem dX8_takes_10 : decode cX8_takes 10 = .ok (.ifCond .eq 10, 3) := by decide +kernel
theorem dX8_takes_13 : decode cX8_takes 13 = .ok (.aload_n 0, 1) := by decide +kernel
theorem dX8_takes_14 : decode cX8_takes 14 = .ok (.invokevirtual 87, 3) := by decide +kernel
theorem dX8_takes_17 : decode cX8_takes 17 = .ok (.goto 11, 3) := by decide +kernel
theorem dX8_takes_20 : decode cX8_takes 20 = .ok (.aload_n 0, 1) := by decide +kernel
theorem dX8_takes_21 : decode cX8_takes 21 = .ok (.aload_n 0, 1) := by decide +kernel
theorem dX8_takes_22 : decode cX8_takes 22 = .ok (.getfield 66, 3) := by decide +kernel
theorem dX8_takes_25 : decode cX8_takes 25 = .ok (.putfield 84, 3) := by decide +kernel
theorem dX8_takes_28 : decode cX8_takes 28 = .ok (.return_, 1) := by decide +kernel
theorem dX8_readsFrame_0 : decode cX8_readsFrame 0 = .ok (.aload_n 0, 1) := by decide +kernel
theorem dX8_readsFrame_1 : decode cX8_readsFrame 1 = .ok (.aload_n 0, 1) := by decide +kernel
theorem dX8_readsFrame_2 : decode cX8_readsFrame 2 = .ok (.getfield 13, 3) := by decide +kernel
theorem dX8_readsFrame_5 : decode cX8_readsFrame 5 = .ok (.iconst 0, 1) := by decide +kernel
theorem dX8_readsFrame_6 : decode cX8_readsFrame 6 = .ok (.iaload, 1) := by decide +kernel
theorem dX8_readsFrame_7 : decode cX8_readsFrame 7 = .ok (.bipush 8, 2) := by decide +kernel
theorem dX8_readsFrame_9 : decode cX8_readsFrame 9 = .ok (.if_icmp .ge 7, 3) := by decide +kernel
theorem dX8_readsFrame_12 : decode cX8_readsFrame 12 = .ok (.iconst 1, 1) := by decide +kernel
theorem dX8_readsFrame_13 : decode cX8_readsFrame 13 = .ok (.goto 4, 3) := by decide +kernel
theorem dX8_readsFrame_16 : decode cX8_readsFrame 16 = .ok (.iconst 0, 1) := by decide +kernel
theorem dX8_readsFrame_17 : decode cX8_readsFrame 17 = .ok (.invokevirtual 90, 3) := by decide +kernel
theorem dX8_readsFrame_20 : decode cX8_readsFrame 20 = .ok (.aload_n 0, 1) := by decide +kernel
theorem dX8_readsFrame_21 : decode cX8_readsFrame 21 = .ok (.getfield 63, 3) := by decide +kernel
theorem dX8_readsFrame_24 : decode cX8_readsFrame 24 = .ok (.aload_n 0, 1) := by decide +kernel
theorem dX8_readsFrame_25 : decode cX8_readsFrame 25 = .ok (.getfield 66, 3) := by decide +kernel
theorem dX8_readsFrame_28 : decode cX8_readsFrame 28 = .ok (.isub, 1) := by decide +kernel
theorem dX8_readsFrame_29 : decode cX8_readsFrame 29 = .ok (.istore_n 1, 1) := by decide +kernel
theorem dX8_readsFrame_30 : decode cX8_readsFrame 30 = .ok (.aload_n 0, 1) := by decide +kernel
theorem dX8_readsFrame_31 : decode cX8_readsFrame 31 = .ok (.getfield 77, 3) := by decide +kernel
theorem dX8_readsFrame_34 : decode cX8_readsFrame 34 = .ok (.iconst 5, 1) := by decide +kernel
theorem dX8_readsFrame_35 : decode cX8_readsFrame 35 = .ok (.if_icmp .ne 36, 3) := by decide +kernel
theorem dX8_readsFrame_38 : decode cX8_readsFrame 38 = .ok (.iload_n 1, 1) := by decide +kernel
theorem dX8_readsFrame_39 : decode cX8_readsFrame 39 = .ok (.iconst 3, 1) := by decide +kernel
theorem dX8_readsFrame_40 : decode cX8_readsFrame 40 = .ok (.bipush 12, 2) := by decide +kernel
theorem dX8_readsFrame_42 : decode cX8_readsFrame 42 = .ok (.invokestatic 56, 3) := by decide +kernel
theorem dX8_readsFrame_45 : decode cX8_readsFrame 45 = .ok (.ifCond .eq 26, 3) := by decide +kernel
theorem dX8_readsFrame_48 : decode cX8_readsFrame 48 = .ok (.aload_n 0, 1) := by decide +kernel
theorem dX8_readsFrame_49 : decode cX8_readsFrame 49 = .ok (.getfield 13, 3) := by decide +kernel
theorem dX8_readsFrame_52 : decode cX8_readsFrame 52 = .ok (.iconst 0, 1) := by decide +kernel
theorem dX8_readsFrame_53 : decode cX8_readsFrame 53 = .ok (.iaload, 1) := by decide +kernel
theorem dX8_readsFrame_54 : decode cX8_readsFrame 54 = .ok (.ifCond .eq 13, 3) := by decide +kernel
theorem dX8_readsFrame_57 : decode cX8_readsFrame 57 = .ok (.iload_n 1, 1) := by decide +kernel
theorem dX8_readsFrame_58 : decode cX8_readsFrame 58 = .ok (.aload_n 0, 1) := by decide +kernel
theorem dX8_readsFrame_59 : decode cX8_readsFrame 59 = .ok (.getfield 13, 3) := by decide +kernel
theorem dX8_readsFrame_62 : decode cX8_readsFrame 62 = .ok (.iconst 1, 1) := by decide +kernel
theorem dX8_readsFrame_63 : decode cX8_readsFrame 63 = .ok (.iaload, 1) := by decide +kernel
theorem dX8_readsFrame_64 : decode cX8_readsFrame 64 = .ok (.if_icmp .ne 7, 3) := by decide +kernel
theorem dX8_readsFrame_67 : decode cX8_readsFrame 67 = .ok (.iconst 1, 1) := by decide +kernel
theorem dX8_readsFrame_68 : decode cX8_readsFrame 68 = .ok (.goto 4, 3) := by decide +kernel
theorem dX8_readsFrame_71 : decode cX8_readsFrame 71 = .ok (.iconst 0, 1) := by decide +kernel
theorem dX8_readsFrame_72 : decode cX8_readsFrame 72 = .ok (.istore_n 2, 1) := by decide +kernel
theorem dX8_readsFrame_73 : decode cX8_readsFrame 73 = .ok (.aload_n 0, 1) := by decide +kernel
theorem dX8_readsFrame_74 : decode cX8_readsFrame 74 = .ok (.getfield 84, 3) := by decide +kernel
theorem dX8_readsFrame_77 : decode cX8_readsFrame 77 = .ok (.bipush (-9), 2) := by decide +kernel
theorem dX8_readsFrame_79 : decode cX8_readsFrame 79 = .ok (.if_icmp .ne 68, 3) := by decide +kernel
theorem dX8_readsFrame_82 : decode cX8_readsFrame 82 = .ok (.iload_n 2, 1) := by decide +kernel
theorem dX8_readsFrame_83 : decode cX8_readsFrame 83 = .ok (.ifCond .eq 64, 3) := by decide +kernel
theorem dX8_readsFrame_86 : decode cX8_readsFrame 86 = .ok (.aload_n 0, 1) := by decide +kernel
theorem dX8_readsFrame_87 : decode cX8_readsFrame 87 = .ok (.getfield 13, 3) := by decide +kernel
theorem dX8_readsFrame_90 : decode cX8_readsFrame 90 = .ok (.iconst 1, 1) := by decide +kernel
theorem dX8_readsFrame_91 : decode cX8_readsFrame 91 = .ok (.iload_n 1, 1) := by decide +kernel
theorem dX8_readsFrame_92 : decode cX8_readsFrame 92 = .ok (.iastore, 1) := by decide +kernel
theorem dX8_readsFrame_93 : decode cX8_readsFrame 93 = .ok (.iconst 0, 1) := by decide +kernel
theorem dX8_readsFrame_94 : decode cX8_readsFrame 94 = .ok (.istore_n 3, 1) := by decide +kernel
theorem dX8_readsFrame_95 : decode cX8_readsFrame 95 = .ok (.iload_n 3, 1) := by decide +kernel
theorem dX8_readsFrame_96 : decode cX8_readsFrame 96 = .ok (.iload_n 1, 1) := by decide +kernel
theorem dX8_readsFrame_97 : decode cX8_readsFrame 97 = .ok (.if_icmp .ge 40, 3) := by decide +kernel
theorem dX8_readsFrame_100 : decode cX8_readsFrame 100 = .ok (.aload_n 0, 1) := by decide +kernel
theorem dX8_readsFrame_101 : decode cX8_readsFrame 101 = .ok (.getfield 13, 3) := by decide +kernel
theorem dX8_readsFrame_104 : decode cX8_readsFrame 104 = .ok (.iconst 5, 1) := by decide +kernel
theorem dX8_readsFrame_105 : decode cX8_readsFrame 105 = .ok (.bipush 12, 2) := by decide +kernel
theorem dX8_readsFrame_107 : decode cX8_readsFrame 107 = .ok (.aload_n 0, 1) := by decide +kernel
theorem dX8_readsFrame_108 : decode cX8_readsFrame 108 = .ok (.getfield 13, 3) := by decide +kernel
theorem dX8_readsFrame_111 : decode cX8_readsFrame 111 = .ok (.iconst 0, 1) := by decide +kernel
theorem dX8_readsFrame_112 : decode cX8_readsFrame 112 = .ok (.iaload, 1) := by decide +kernel
theorem dX8_readsFrame_113 : decode cX8_readsFrame 113 = .ok (.imul, 1) := by decide +kernel
theorem dX8_readsFrame_114 : decode cX8_readsFrame 114 = .ok (.iadd, 1) := by decide +kernel
theorem dX8_readsFrame_115 : decode cX8_readsFrame 115 = .ok (.iload_n 3, 1) := by decide +kernel
theorem dX8_readsFrame_116 : decode cX8_readsFrame 116 = .ok (.iadd, 1) := by decide +kernel
theorem dX8_readsFrame_117 : decode cX8_readsFrame 117 = .ok (.aload_n 0, 1) := by decide +kernel
theorem dX8_readsFrame_118 : decode cX8_readsFrame 118 = .ok (.aload_n 0, 1) := by decide +kernel
theorem dX8_readsFrame_119 : decode cX8_readsFrame 119 = .ok (.getfield 66, 3) := by decide +kernel
theorem dX8_readsFrame_122 : decode cX8_readsFrame 122 = .ok (.iload_n 3, 1) := by decide +kernel
theorem dX8_readsFrame_123 : decode cX8_readsFrame 123 = .ok (.iadd, 1) := by decide +kernel
theorem dX8_readsFrame_124 : decode cX8_readsFrame 124 = .ok (.invokevirtual 69, 3) := by decide +kernel
theorem dX8_readsFrame_127 : decode cX8_readsFrame 127 = .ok (.bipush 48, 2) := by decide +kernel
theorem dX8_readsFrame_129 : decode cX8_readsFrame 129 = .ok (.isub, 1) := by decide +kernel
theorem dX8_readsFrame_130 : decode cX8_readsFrame 130 = .ok (.iastore, 1) := by decide +kernel
theorem dX8_readsFrame_131 : decode cX8_readsFrame 131 = .ok (.iinc 3 1, 3) := by decide +kernel
theorem dX8_readsFrame_134 : decode cX8_readsFrame 134 = .ok (.goto (-39), 3) := by decide +kernel
theorem dX8_readsFrame_137 : decode cX8_readsFrame 137 = .ok (.aload_n 0, 1) := by decide +kernel
theorem dX8_readsFrame_138 : decode cX8_readsFrame 138 = .ok (.getfield 13, 3) := by decide +kernel
theorem dX8_readsFrame_141 : decode cX8_readsFrame 141 = .ok (.iconst 0, 1) := by decide +kernel
theorem dX8_readsFrame_142 : decode cX8_readsFrame 142 = .ok (.dup2, 1) := by decide +kernel
theorem dX8_readsFrame_143 : decode cX8_readsFrame 143 = .ok (.iaload, 1) := by decide +kernel
theorem dX8_readsFrame_144 : decode cX8_readsFrame 144 = .ok (.iconst 1, 1) := by decide +kernel
theorem dX8_readsFrame_145 : decode cX8_readsFrame 145 = .ok (.iadd, 1) := by decide +kernel
theorem dX8_readsFrame_146 : decode cX8_readsFrame 146 = .ok (.iastore, 1) := by decide +kernel
theorem dX8_readsFrame_147 : decode cX8_readsFrame 147 = .ok (.aload_n 0, 1) := by decide +kernel
theorem dX8_readsFrame_148 : decode cX8_readsFrame 148 = .ok (.iload_n 2, 1) := by decide +kernel
theorem dX8_readsFrame_149 : decode cX8_readsFrame 149 = .ok (.invokevirtual 90, 3) := by decide +kernel
theorem dX8_readsFrame_152 : decode cX8_readsFrame 152 = .ok (.return_, 1) := by decide +kernel
theorem dX8_readsNumber_0 : decode cX8_readsNumber 0 = .ok (.aload_n 0, 1) := by decide +kernel
theorem dX8_readsNumber_1 : decode cX8_readsNumber 1 = .ok (.iconst 1, 1) := by decide +kernel
theorem dX8_readsNumber_2 : decode cX8_readsNumber 2 = .ok (.invokevirtual 90, 3) := by decide +kernel
theorem dX8_readsNumber_5 : decode cX8_readsNumber 5 = .ok (.aload_n 0, 1) := by decide +kernel
theorem dX8_readsNumber_6 : decode cX8_readsNumber 6 = .ok (.getfield 63, 3) := by decide +kernel
theorem dX8_readsNumber_9 : decode cX8_readsNumber 9 = .ok (.aload_n 0, 1) := by decide +kernel
theorem dX8_readsNumber_10 : decode cX8_readsNumber 10 = .ok (.getfield 66, 3) := by decide +kernel
theorem dX8_readsNumber_13 : decode cX8_readsNumber 13 = .ok (.isub, 1) := by decide +kernel
theorem dX8_readsNumber_14 : decode cX8_readsNumber 14 = .ok (.istore 4, 2) := by decide +kernel
theorem dX8_readsNumber_16 : decode cX8_readsNumber 16 = .ok (.iload 4, 2) := by decide +kernel
theorem dX8_readsNumber_18 : decode cX8_readsNumber 18 = .ok (.iconst 1, 1) := by decide +kernel
theorem dX8_readsNumber_19 : decode cX8_readsNumber 19 = .ok (.if_icmp .ne 17, 3) := by decide +kernel
theorem dX8_readsNumber_22 : decode cX8_readsNumber 22 = .ok (.aload_n 0, 1) := by decide +kernel
theorem dX8_readsNumber_23 : decode cX8_readsNumber 23 = .ok (.aload_n 0, 1) := by decide +kernel
theorem dX8_readsNumber_24 : decode cX8_readsNumber 24 = .ok (.getfield 66, 3) := by decide +kernel
theorem dX8_readsNumber_27 : decode cX8_readsNumber 27 = .ok (.invokevirtual 69, 3) := by decide +kernel
theorem dX8_readsNumber_30 : decode cX8_readsNumber 30 = .ok (.bipush 48, 2) := by decide +kernel
theorem dX8_readsNumber_32 : decode cX8_readsNumber 32 = .ok (.isub, 1) := by decide +kernel
theorem dX8_readsNumber_33 : decode cX8_readsNumber 33 = .ok (.goto 31, 3) := by decide +kernel
theorem dX8_readsNumber_36 : decode cX8_readsNumber 36 = .ok (.bipush 10, 2) := by decide +kernel
theorem dX8_readsNumber_38 : decode cX8_readsNumber 38 = .ok (.aload_n 0, 1) := by decide +kernel
theorem dX8_readsNumber_39 : decode cX8_readsNumber 39 = .ok (.aload_n 0, 1) := by decide +kernel
theorem dX8_readsNumber_40 : decode cX8_readsNumber 40 = .ok (.getfield 66, 3) := by decide +kernel
theorem dX8_readsNumber_43 : decode cX8_readsNumber 43 = .ok (.invokevirtual 69, 3) := by decide +kernel
theorem dX8_readsNumber_46 : decode cX8_readsNumber 46 = .ok (.bipush 48, 2) := by decide +kernel
theorem dX8_readsNumber_48 : decode cX8_readsNumber 48 = .ok (.isub, 1) := by decide +kernel
theorem dX8_readsNumber_49 : decode cX8_readsNumber 49 = .ok (.imul, 1) := by decide +kernel
theorem dX8_readsNumber_50 : decode cX8_readsNumber 50 = .ok (.aload_n 0, 1) := by decide +kernel
theorem dX8_readsNumber_51 : decode cX8_readsNumber 51 = .ok (.aload_n 0, 1) := by decide +kernel
theorem dX8_readsNumber_52 : decode cX8_readsNumber 52 = .ok (.getfield 66, 3) := by decide +kernel
theorem dX8_readsNumber_55 : decode cX8_readsNumber 55 = .ok (.iconst 1, 1) := by decide +kernel
theorem dX8_readsNumber_56 : decode cX8_readsNumber 56 = .ok (.iadd, 1) := by decide +kernel
theorem dX8_readsNumber_57 : decode cX8_readsNumber 57 = .ok (.invokevirtual 69, 3) := by decide +kernel
theorem dX8_readsNumber_60 : decode cX8_readsNumber 60 = .ok (.iadd, 1) := by decide +kernel
theorem dX8_readsNumber_61 : decode cX8_readsNumber 61 = .ok (.bipush 48, 2) := by decide +kernel
theorem dX8_readsNumber_63 : decode cX8_readsNumber 63 = .ok (.isub, 1) := by decide +kernel
theorem dX8_readsNumber_64 : decode cX8_readsNumber 64 = .ok (.istore 5, 2) := by decide +kernel
theorem dX8_readsNumber_66 : decode cX8_readsNumber 66 = .ok (.aload_n 0, 1) := by decide +kernel
theorem dX8_readsNumber_67 : decode cX8_readsNumber 67 = .ok (.aload_n 0, 1) := by decide +kernel
theorem dX8_readsNumber_68 : decode cX8_readsNumber 68 = .ok (.getfield 77, 3) := by decide +kernel
theorem dX8_readsNumber_71 : decode cX8_readsNumber 71 = .ok (.iconst 5, 1) := by decide +kernel
theorem dX8_readsNumber_72 : decode cX8_readsNumber 72 = .ok (.if_icmp .ne 46, 3) := by decide +kernel
theorem dX8_readsNumber_75 : decode cX8_readsNumber 75 = .ok (.iload 4, 2) := by decide +kernel
theorem dX8_readsNumber_77 : decode cX8_readsNumber 77 = .ok (.iconst 1, 1) := by decide +kernel
theorem dX8_readsNumber_78 : decode cX8_readsNumber 78 = .ok (.iconst 2, 1) := by decide +kernel
theorem dX8_readsNumber_79 : decode cX8_readsNumber 79 = .ok (.invokestatic 56, 3) := by decide +kernel
theorem dX8_readsNumber_82 : decode cX8_readsNumber 82 = .ok (.ifCond .eq 36, 3) := by decide +kernel
theorem dX8_readsNumber_85 : decode cX8_readsNumber 85 = .ok (.iload 4, 2) := by decide +kernel
theorem dX8_readsNumber_87 : decode cX8_readsNumber 87 = .ok (.iconst 1, 1) := by decide +kernel
theorem dX8_readsNumber_88 : decode cX8_readsNumber 88 = .ok (.if_icmp .eq 16, 3) := by decide +kernel
theorem dX8_readsNumber_91 : decode cX8_readsNumber 91 = .ok (.aload_n 0, 1) := by decide +kernel
theorem dX8_readsNumber_92 : decode cX8_readsNumber 92 = .ok (.aload_n 0, 1) := by decide +kernel
theorem dX8_readsNumber_93 : decode cX8_readsNumber 93 = .ok (.getfield 66, 3) := by decide +kernel
theorem dX8_readsNumber_96 : decode cX8_readsNumber 96 = .ok (.invokevirtual 69, 3) := by decide +kernel
theorem dX8_readsNumber_99 : decode cX8_readsNumber 99 = .ok (.bipush 48, 2) := by decide +kernel
theorem dX8_readsNumber_101 : decode cX8_readsNumber 101 = .ok (.if_icmp .eq 17, 3) := by decide +kernel
theorem dX8_readsNumber_104 : decode cX8_readsNumber 104 = .ok (.iload 5, 2) := by decide +kernel
theorem dX8_readsNumber_106 : decode cX8_readsNumber 106 = .ok (.iload_n 2, 1) := by decide +kernel
theorem dX8_readsNumber_107 : decode cX8_readsNumber 107 = .ok (.iload_n 3, 1) := by decide +kernel
theorem dX8_readsNumber_108 : decode cX8_readsNumber 108 = .ok (.invokestatic 56, 3) := by decide +kernel
theorem dX8_readsNumber_111 : decode cX8_readsNumber 111 = .ok (.ifCond .eq 7, 3) := by decide +kernel
theorem dX8_readsNumber_114 : decode cX8_readsNumber 114 = .ok (.iconst 1, 1) := by decide +kernel
theorem dX8_readsNumber_115 : decode cX8_readsNumber 115 = .ok (.goto 4, 3) := by decide +kernel
theorem dX8_readsNumber_118 : decode cX8_readsNumber 118 = .ok (.iconst 0, 1) := by decide +kernel
theorem dX8_readsNumber_119 : decode cX8_readsNumber 119 = .ok (.invokevirtual 90, 3) := by decide +kernel
theorem dX8_readsNumber_122 : decode cX8_readsNumber 122 = .ok (.aload_n 0, 1) := by decide +kernel
theorem dX8_readsNumber_123 : decode cX8_readsNumber 123 = .ok (.getfield 13, 3) := by decide +kernel
theorem dX8_readsNumber_126 : decode cX8_readsNumber 126 = .ok (.iload_n 1, 1) := by decide +kernel
theorem dX8_readsNumber_127 : decode cX8_readsNumber 127 = .ok (.iload 5, 2) := by decide +kernel
theorem dX8_readsNumber_129 : decode cX8_readsNumber 129 = .ok (.iastore, 1) := by decide +kernel
theorem dX8_readsNumber_130 : decode cX8_readsNumber 130 = .ok (.return_, 1) := by decide +kernel
theorem dX8_reads_0 : decode cX8_reads 0 = .ok (.aload_n 0, 1) := by decide +kernel
theorem dX8_reads_1 : decode cX8_reads 1 = .ok (.getfield 13, 3) := by decide +kernel
theorem dX8_reads_4 : decode cX8_reads 4 = .ok (.invokestatic 48, 3) := by decide +kernel
theorem dX8_reads_7 : decode cX8_reads 7 = .ok (.aload_n 0, 1) := by decide +kernel
theorem dX8_reads_8 : decode cX8_reads 8 = .ok (.bipush (-9), 2) := by decide +kernel
theorem dX8_reads_10 : decode cX8_reads 10 = .ok (.putfield 84, 3) := by decide +kernel
theorem dX8_reads_13 : decode cX8_reads 13 = .ok (.aload_n 0, 1) := by decide +kernel
theorem dX8_reads_14 : decode cX8_reads 14 = .ok (.iconst 0, 1) := by decide +kernel
theorem dX8_reads_15 : decode cX8_reads 15 = .ok (.putfield 63, 3) := by decide +kernel
theorem dX8_reads_18 : decode cX8_reads 18 = .ok (.aload_n 0, 1) := by decide +kernel
theorem dX8_reads_19 : decode cX8_reads 19 = .ok (.invokevirtual 87, 3) := by decide +kernel
theorem dX8_reads_22 : decode cX8_reads 22 = .ok (.iconst 0, 1) := by decide +kernel
theorem dX8_reads_23 : decode cX8_reads 23 = .ok (.istore_n 1, 1) := by decide +kernel
theorem dX8_reads_24 : decode cX8_reads 24 = .ok (.aload_n 0, 1) := by decide +kernel
theorem dX8_reads_25 : decode cX8_reads 25 = .ok (.getfield 84, 3) := by decide +kernel
theorem dX8_reads_28 : decode cX8_reads 28 = .ok (.bipush (-9), 2) := by decide +kernel
theorem dX8_reads_30 : decode cX8_reads 30 = .ok (.if_icmp .ne 115, 3) := by decide +kernel
theorem dX8_reads_33 : decode cX8_reads 33 = .ok (.aload_n 0, 1) := by decide +kernel
theorem dX8_reads_34 : decode cX8_reads 34 = .ok (.getfield 77, 3) := by decide +kernel
theorem dX8_reads_37 : decode cX8_reads 37 = .ok (.ifCond .eq 108, 3) := by decide +kernel
theorem dX8_reads_40 : decode cX8_reads 40 = .ok (.aload_n 0, 1) := by decide +kernel
theorem dX8_reads_41 : decode cX8_reads 41 = .ok (.getfield 77, 3) := by decide +kernel
theorem dX8_reads_44 : decode cX8_reads 44 = .ok (.tableswitch 72 1 4 #[32, 39, 50, 61], 32) := by decide +kernel
theorem dX8_reads_76 : decode cX8_reads 76 = .ok (.aload_n 0, 1) := by decide +kernel
theorem dX8_reads_77 : decode cX8_reads 77 = .ok (.invokevirtual 94, 3) := by decide +kernel
theorem dX8_reads_80 : decode cX8_reads 80 = .ok (.goto 41, 3) := by decide +kernel
theorem dX8_reads_83 : decode cX8_reads 83 = .ok (.aload_n 0, 1) := by decide +kernel
theorem dX8_reads_84 : decode cX8_reads 84 = .ok (.iconst 2, 1) := by decide +kernel
theorem dX8_reads_85 : decode cX8_reads 85 = .ok (.iconst 1, 1) := by decide +kernel
theorem dX8_reads_86 : decode cX8_reads 86 = .ok (.bipush 9, 2) := by decide +kernel
theorem dX8_reads_88 : decode cX8_reads 88 = .ok (.invokevirtual 97, 3) := by decide +kernel
theorem dX8_reads_91 : decode cX8_reads 91 = .ok (.goto 30, 3) := by decide +kernel
theorem dX8_reads_94 : decode cX8_reads 94 = .ok (.aload_n 0, 1) := by decide +kernel
theorem dX8_reads_95 : decode cX8_reads 95 = .ok (.iconst 3, 1) := by decide +kernel
theorem dX8_reads_96 : decode cX8_reads 96 = .ok (.iconst 0, 1) := by decide +kernel
theorem dX8_reads_97 : decode cX8_reads 97 = .ok (.bipush 20, 2) := by decide +kernel
theorem dX8_reads_99 : decode cX8_reads 99 = .ok (.invokevirtual 97, 3) := by decide +kernel
theorem dX8_reads_102 : decode cX8_reads 102 = .ok (.goto 19, 3) := by decide +kernel
theorem dX8_reads_105 : decode cX8_reads 105 = .ok (.aload_n 0, 1) := by decide +kernel
theorem dX8_reads_106 : decode cX8_reads 106 = .ok (.iconst 4, 1) := by decide +kernel
theorem dX8_reads_107 : decode cX8_reads 107 = .ok (.iconst 1, 1) := by decide +kernel
theorem dX8_reads_108 : decode cX8_reads 108 = .ok (.bipush 8, 2) := by decide +kernel
theorem dX8_reads_110 : decode cX8_reads 110 = .ok (.invokevirtual 97, 3) := by decide +kernel
theorem dX8_reads_113 : decode cX8_reads 113 = .ok (.goto 8, 3) := by decide +kernel
theorem dX8_reads_116 : decode cX8_reads 116 = .ok (.aload_n 0, 1) := by decide +kernel
theorem dX8_reads_117 : decode cX8_reads 117 = .ok (.iconst 0, 1) := by decide +kernel
theorem dX8_reads_118 : decode cX8_reads 118 = .ok (.invokevirtual 90, 3) := by decide +kernel
theorem dX8_reads_121 : decode cX8_reads 121 = .ok (.aload_n 0, 1) := by decide +kernel
theorem dX8_reads_122 : decode cX8_reads 122 = .ok (.aload_n 0, 1) := by decide +kernel
theorem dX8_reads_123 : decode cX8_reads 123 = .ok (.getfield 77, 3) := by decide +kernel
theorem dX8_reads_126 : decode cX8_reads 126 = .ok (.bipush 6, 2) := by decide +kernel
theorem dX8_reads_128 : decode cX8_reads 128 = .ok (.if_icmp .ne 7, 3) := by decide +kernel
theorem dX8_reads_131 : decode cX8_reads 131 = .ok (.iconst 1, 1) := by decide +kernel
theorem dX8_reads_132 : decode cX8_reads 132 = .ok (.goto 4, 3) := by decide +kernel
theorem dX8_reads_135 : decode cX8_reads 135 = .ok (.iconst 0, 1) := by decide +kernel
theorem dX8_reads_136 : decode cX8_reads 136 = .ok (.invokevirtual 90, 3) := by decide +kernel
theorem dX8_reads_139 : decode cX8_reads 139 = .ok (.iinc 1 1, 3) := by decide +kernel
theorem dX8_reads_142 : decode cX8_reads 142 = .ok (.goto (-118), 3) := by decide +kernel
theorem dX8_reads_145 : decode cX8_reads 145 = .ok (.aload_n 0, 1) := by decide +kernel
theorem dX8_reads_146 : decode cX8_reads 146 = .ok (.aload_n 0, 1) := by decide +kernel
theorem dX8_reads_147 : decode cX8_reads 147 = .ok (.getfield 13, 3) := by decide +kernel
theorem dX8_reads_150 : decode cX8_reads 150 = .ok (.iconst 0, 1) := by decide +kernel
theorem dX8_reads_151 : decode cX8_reads 151 = .ok (.iaload, 1) := by decide +kernel
theorem dX8_reads_152 : decode cX8_reads 152 = .ok (.ifCond .le 7, 3) := by decide +kernel
theorem dX8_reads_155 : decode cX8_reads 155 = .ok (.iconst 1, 1) := by decide +kernel
theorem dX8_reads_156 : decode cX8_reads 156 = .ok (.goto 4, 3) := by decide +kernel
theorem dX8_reads_159 : decode cX8_reads 159 = .ok (.iconst 0, 1) := by decide +kernel
theorem dX8_reads_160 : decode cX8_reads 160 = .ok (.invokevirtual 90, 3) := by decide +kernel
theorem dX8_reads_163 : decode cX8_reads 163 = .ok (.iload_n 1, 1) := by decide +kernel
theorem dX8_reads_164 : decode cX8_reads 164 = .ok (.ireturn, 1) := by decide +kernel
theorem dX8_tells_0 : decode cX8_tells 0 = .ok (.aload_n 0, 1) := by decide +kernel
theorem dX8_tells_1 : decode cX8_tells 1 = .ok (.iconst 0, 1) := by decide +kernel
theorem dX8_tells_2 : decode cX8_tells 2 = .ok (.putfield 52, 3) := by decide +kernel
theorem dX8_tells_5 : decode cX8_tells 5 = .ok (.aload_n 0, 1) := by decide +kernel
theorem dX8_tells_6 : decode cX8_tells 6 = .ok (.invokevirtual 101, 3) := by decide +kernel
theorem dX8_tells_9 : decode cX8_tells 9 = .ok (.istore_n 1, 1) := by decide +kernel
theorem dX8_tells_10 : decode cX8_tells 10 = .ok (.aload_n 0, 1) := by decide +kernel
theorem dX8_tells_11 : decode cX8_tells 11 = .ok (.getfield 84, 3) := by decide +kernel
theorem dX8_tells_14 : decode cX8_tells 14 = .ok (.bipush (-9), 2) := by decide +kernel
theorem dX8_tells_16 : decode cX8_tells 16 = .ok (.if_icmp .eq 11, 3) := by decide +kernel
theorem dX8_tells_19 : decode cX8_tells 19 = .ok (.bipush (-10), 2) := by decide +kernel
theorem dX8_tells_21 : decode cX8_tells 21 = .ok (.aload_n 0, 1) := by decide +kernel
theorem dX8_tells_22 : decode cX8_tells 22 = .ok (.getfield 84, 3) := by decide +kernel
theorem dX8_tells_25 : decode cX8_tells 25 = .ok (.isub, 1) := by decide +kernel
theorem dX8_tells_26 : decode cX8_tells 26 = .ok (.ireturn, 1) := by decide +kernel
theorem dX8_tells_27 : decode cX8_tells 27 = .ok (.aload_n 0, 1) := by decide +kernel
theorem dX8_tells_28 : decode cX8_tells 28 = .ok (.invokevirtual 104, 3) := by decide +kernel
theorem dX8_tells_31 : decode cX8_tells 31 = .ok (.iconst 0, 1) := by decide +kernel
theorem dX8_tells_32 : decode cX8_tells 32 = .ok (.istore_n 2, 1) := by decide +kernel
theorem dX8_tells_33 : decode cX8_tells 33 = .ok (.iload_n 2, 1) := by decide +kernel
theorem dX8_tells_34 : decode cX8_tells 34 = .ok (.bipush 101, 2) := by decide +kernel
theorem dX8_tells_36 : decode cX8_tells 36 = .ok (.if_icmp .ge 21, 3) := by decide +kernel
theorem dX8_tells_39 : decode cX8_tells 39 = .ok (.aload_n 0, 1) := by decide +kernel
theorem dX8_tells_40 : decode cX8_tells 40 = .ok (.getfield 7, 3) := by decide +kernel
theorem dX8_tells_43 : decode cX8_tells 43 = .ok (.iload_n 2, 1) := by decide +kernel
theorem dX8_tells_44 : decode cX8_tells 44 = .ok (.aload_n 0, 1) := by decide +kernel
theorem dX8_tells_45 : decode cX8_tells 45 = .ok (.getfield 13, 3) := by decide +kernel
theorem dX8_tells_48 : decode cX8_tells 48 = .ok (.iload_n 2, 1) := by decide +kernel
theorem dX8_tells_49 : decode cX8_tells 49 = .ok (.iaload, 1) := by decide +kernel
theorem dX8_tells_50 : decode cX8_tells 50 = .ok (.iastore, 1) := by decide +kernel
theorem dX8_tells_51 : decode cX8_tells 51 = .ok (.iinc 2 1, 3) := by decide +kernel
theorem dX8_tells_54 : decode cX8_tells 54 = .ok (.goto (-21), 3) := by decide +kernel
theorem dX8_tells_57 : decode cX8_tells 57 = .ok (.aload_n 0, 1) := by decide +kernel
theorem dX8_tells_58 : decode cX8_tells 58 = .ok (.iconst 0, 1) := by decide +kernel
theorem dX8_tells_59 : decode cX8_tells 59 = .ok (.putfield 60, 3) := by decide +kernel
theorem dX8_tells_62 : decode cX8_tells 62 = .ok (.iload_n 1, 1) := by decide +kernel
theorem dX8_tells_63 : decode cX8_tells 63 = .ok (.ireturn, 1) := by decide +kernel
theorem dX8_notes_0 : decode cX8_notes 0 = .ok (.aload_n 0, 1) := by decide +kernel
theorem dX8_notes_1 : decode cX8_notes 1 = .ok (.getfield 107, 3) := by decide +kernel
theorem dX8_notes_4 : decode cX8_notes 4 = .ok (.bipush 6, 2) := by decide +kernel
theorem dX8_notes_6 : decode cX8_notes 6 = .ok (.if_icmp .ne 43, 3) := by decide +kernel
theorem dX8_notes_9 : decode cX8_notes 9 = .ok (.iconst 0, 1) := by decide +kernel
theorem dX8_notes_10 : decode cX8_notes 10 = .ok (.istore_n 1, 1) := by decide +kernel
theorem dX8_notes_11 : decode cX8_notes 11 = .ok (.iload_n 1, 1) := by decide +kernel
theorem dX8_notes_12 : decode cX8_notes 12 = .ok (.sipush 505, 3) := by decide +kernel
end
section
theorem dX8_notes_15 : decode cX8_notes 15 = .ok (.if_icmp .ge 24, 3) := by decide +kernel
theorem dX8_notes_18 : decode cX8_notes 18 = .ok (.aload_n 0, 1) := by decide +kernel
theorem dX8_notes_19 : decode cX8_notes 19 = .ok (.getfield 16, 3) := by decide +kernel
theorem dX8_notes_22 : decode cX8_notes 22 = .ok (.iload_n 1, 1) := by decide +kernel
theorem dX8_notes_23 : decode cX8_notes 23 = .ok (.aload_n 0, 1) := by decide +kernel
theorem dX8_notes_24 : decode cX8_notes 24 = .ok (.getfield 16, 3) := by decide +kernel
theorem dX8_notes_27 : decode cX8_notes 27 = .ok (.iload_n 1, 1) := by decide +kernel
theorem dX8_notes_28 : decode cX8_notes 28 = .ok (.bipush 101, 2) := by decide +kernel
theorem dX8_notes_30 : decode cX8_notes 30 = .ok (.iadd, 1) := by decide +kernel
theorem dX8_notes_31 : decode cX8_notes 31 = .ok (.iaload, 1) := by decide +kernel
theorem dX8_notes_32 : decode cX8_notes 32 = .ok (.iastore, 1) := by decide +kernel
theorem dX8_notes_33 : decode cX8_notes 33 = .ok (.iinc 1 1, 3) := by decide +kernel
theorem dX8_notes_36 : decode cX8_notes 36 = .ok (.goto (-25), 3) := by decide +kernel
theorem dX8_notes_39 : decode cX8_notes 39 = .ok (.aload_n 0, 1) := by decide +kernel
theorem dX8_notes_40 : decode cX8_notes 40 = .ok (.dup, 1) := by decide +kernel
theorem dX8_notes_41 : decode cX8_notes 41 = .ok (.getfield 107, 3) := by decide +kernel
theorem dX8_notes_44 : decode cX8_notes 44 = .ok (.iconst 1, 1) := by decide +kernel
theorem dX8_notes_45 : decode cX8_notes 45 = .ok (.isub, 1) := by decide +kernel
theorem dX8_notes_46 : decode cX8_notes 46 = .ok (.putfield 107, 3) := by decide +kernel
theorem dX8_notes_49 : decode cX8_notes 49 = .ok (.iconst 0, 1) := by decide +kernel
theorem dX8_notes_50 : decode cX8_notes 50 = .ok (.istore_n 1, 1) := by decide +kernel
theorem dX8_notes_51 : decode cX8_notes 51 = .ok (.iload_n 1, 1) := by decide +kernel
theorem dX8_notes_52 : decode cX8_notes 52 = .ok (.bipush 101, 2) := by decide +kernel
theorem dX8_notes_54 : decode cX8_notes 54 = .ok (.if_icmp .ge 29, 3) := by decide +kernel
theorem dX8_notes_57 : decode cX8_notes 57 = .ok (.aload_n 0, 1) := by decide +kernel
theorem dX8_notes_58 : decode cX8_notes 58 = .ok (.getfield 16, 3) := by decide +kernel
theorem dX8_notes_61 : decode cX8_notes 61 = .ok (.bipush 101, 2) := by decide +kernel
theorem dX8_notes_63 : decode cX8_notes 63 = .ok (.aload_n 0, 1) := by decide +kernel
theorem dX8_notes_64 : decode cX8_notes 64 = .ok (.getfield 107, 3) := by decide +kernel
theorem dX8_notes_67 : decode cX8_notes 67 = .ok (.imul, 1) := by decide +kernel
theorem dX8_notes_68 : decode cX8_notes 68 = .ok (.iload_n 1, 1) := by decide +kernel
theorem dX8_notes_69 : decode cX8_notes 69 = .ok (.iadd, 1) := by decide +kernel
theorem dX8_notes_70 : decode cX8_notes 70 = .ok (.aload_n 0, 1) := by decide +kernel
theorem dX8_notes_71 : decode cX8_notes 71 = .ok (.getfield 7, 3) := by decide +kernel
theorem dX8_notes_74 : decode cX8_notes 74 = .ok (.iload_n 1, 1) := by decide +kernel
theorem dX8_notes_75 : decode cX8_notes 75 = .ok (.iaload, 1) := by decide +kernel
theorem dX8_notes_76 : decode cX8_notes 76 = .ok (.iastore, 1) := by decide +kernel
theorem dX8_notes_77 : decode cX8_notes 77 = .ok (.iinc 1 1, 3) := by decide +kernel
theorem dX8_notes_80 : decode cX8_notes 80 = .ok (.goto (-29), 3) := by decide +kernel
theorem dX8_notes_83 : decode cX8_notes 83 = .ok (.aload_n 0, 1) := by decide +kernel
theorem dX8_notes_84 : decode cX8_notes 84 = .ok (.dup, 1) := by decide +kernel
theorem dX8_notes_85 : decode cX8_notes 85 = .ok (.getfield 107, 3) := by decide +kernel
theorem dX8_notes_88 : decode cX8_notes 88 = .ok (.iconst 1, 1) := by decide +kernel
theorem dX8_notes_89 : decode cX8_notes 89 = .ok (.iadd, 1) := by decide +kernel
theorem dX8_notes_90 : decode cX8_notes 90 = .ok (.putfield 107, 3) := by decide +kernel
theorem dX8_notes_93 : decode cX8_notes 93 = .ok (.return_, 1) := by decide +kernel
theorem dX8_becomes_0 : decode cX8_becomes 0 = .ok (.aload_n 0, 1) := by decide +kernel
theorem dX8_becomes_1 : decode cX8_becomes 1 = .ok (.getfield 7, 3) := by decide +kernel
theorem dX8_becomes_4 : decode cX8_becomes 4 = .ok (.iload_n 1, 1) := by decide +kernel
theorem dX8_becomes_5 : decode cX8_becomes 5 = .ok (.iaload, 1) := by decide +kernel
theorem dX8_becomes_6 : decode cX8_becomes 6 = .ok (.istore_n 3, 1) := by decide +kernel
theorem dX8_becomes_7 : decode cX8_becomes 7 = .ok (.iload_n 3, 1) := by decide +kernel
theorem dX8_becomes_8 : decode cX8_becomes 8 = .ok (.iload_n 2, 1) := by decide +kernel
theorem dX8_becomes_9 : decode cX8_becomes 9 = .ok (.if_icmp .ne 6, 3) := by decide +kernel
theorem dX8_becomes_12 : decode cX8_becomes 12 = .ok (.bipush (-2), 2) := by decide +kernel
theorem dX8_becomes_14 : decode cX8_becomes 14 = .ok (.ireturn, 1) := by decide +kernel
theorem dX8_becomes_15 : decode cX8_becomes 15 = .ok (.aload_n 0, 1) := by decide +kernel
theorem dX8_becomes_16 : decode cX8_becomes 16 = .ok (.invokevirtual 104, 3) := by decide +kernel
theorem dX8_becomes_19 : decode cX8_becomes 19 = .ok (.aload_n 0, 1) := by decide +kernel
theorem dX8_becomes_20 : decode cX8_becomes 20 = .ok (.getfield 7, 3) := by decide +kernel
theorem dX8_becomes_23 : decode cX8_becomes 23 = .ok (.iload_n 1, 1) := by decide +kernel
theorem dX8_becomes_24 : decode cX8_becomes 24 = .ok (.iload_n 2, 1) := by decide +kernel
theorem dX8_becomes_25 : decode cX8_becomes 25 = .ok (.iastore, 1) := by decide +kernel
theorem dX8_becomes_26 : decode cX8_becomes 26 = .ok (.iload_n 3, 1) := by decide +kernel
theorem dX8_becomes_27 : decode cX8_becomes 27 = .ok (.ireturn, 1) := by decide +kernel
theorem dX8_isPlace_0 : decode cX8_isPlace 0 = .ok (.iload_n 1, 1) := by decide +kernel
theorem dX8_isPlace_1 : decode cX8_isPlace 1 = .ok (.iconst 0, 1) := by decide +kernel
theorem dX8_isPlace_2 : decode cX8_isPlace 2 = .ok (.aload_n 0, 1) := by decide +kernel
theorem dX8_isPlace_3 : decode cX8_isPlace 3 = .ok (.getfield 7, 3) := by decide +kernel
theorem dX8_isPlace_6 : decode cX8_isPlace 6 = .ok (.iconst 0, 1) := by decide +kernel
theorem dX8_isPlace_7 : decode cX8_isPlace 7 = .ok (.iaload, 1) := by decide +kernel
theorem dX8_isPlace_8 : decode cX8_isPlace 8 = .ok (.iconst 1, 1) := by decide +kernel
theorem dX8_isPlace_9 : decode cX8_isPlace 9 = .ok (.isub, 1) := by decide +kernel
theorem dX8_isPlace_10 : decode cX8_isPlace 10 = .ok (.invokestatic 56, 3) := by decide +kernel
theorem dX8_isPlace_13 : decode cX8_isPlace 13 = .ok (.ifCond .eq 23, 3) := by decide +kernel
theorem dX8_isPlace_16 : decode cX8_isPlace 16 = .ok (.iload_n 2, 1) := by decide +kernel
theorem dX8_isPlace_17 : decode cX8_isPlace 17 = .ok (.iconst 0, 1) := by decide +kernel
theorem dX8_isPlace_18 : decode cX8_isPlace 18 = .ok (.aload_n 0, 1) := by decide +kernel
theorem dX8_isPlace_19 : decode cX8_isPlace 19 = .ok (.getfield 7, 3) := by decide +kernel
theorem dX8_isPlace_22 : decode cX8_isPlace 22 = .ok (.iconst 1, 1) := by decide +kernel
theorem dX8_isPlace_23 : decode cX8_isPlace 23 = .ok (.iaload, 1) := by decide +kernel
theorem dX8_isPlace_24 : decode cX8_isPlace 24 = .ok (.iconst 1, 1) := by decide +kernel
theorem dX8_isPlace_25 : decode cX8_isPlace 25 = .ok (.isub, 1) := by decide +kernel
theorem dX8_isPlace_26 : decode cX8_isPlace 26 = .ok (.invokestatic 56, 3) := by decide +kernel
theorem dX8_isPlace_29 : decode cX8_isPlace 29 = .ok (.ifCond .eq 7, 3) := by decide +kernel
theorem dX8_isPlace_32 : decode cX8_isPlace 32 = .ok (.iconst 1, 1) := by decide +kernel
theorem dX8_isPlace_33 : decode cX8_isPlace 33 = .ok (.goto 4, 3) := by decide +kernel
theorem dX8_isPlace_36 : decode cX8_isPlace 36 = .ok (.iconst 0, 1) := by decide +kernel
theorem dX8_isPlace_37 : decode cX8_isPlace 37 = .ok (.ireturn, 1) := by decide +kernel
theorem dX8_levels_0 : decode cX8_levels 0 = .ok (.aload_n 0, 1) := by decide +kernel
theorem dX8_levels_1 : decode cX8_levels 1 = .ok (.iconst 0, 1) := by decide +kernel
theorem dX8_levels_2 : decode cX8_levels 2 = .ok (.putfield 52, 3) := by decide +kernel
theorem dX8_levels_5 : decode cX8_levels 5 = .ok (.aload_n 0, 1) := by decide +kernel
theorem dX8_levels_6 : decode cX8_levels 6 = .ok (.iload_n 1, 1) := by decide +kernel
theorem dX8_levels_7 : decode cX8_levels 7 = .ok (.iload_n 2, 1) := by decide +kernel
theorem dX8_levels_8 : decode cX8_levels 8 = .ok (.invokevirtual 110, 3) := by decide +kernel
theorem dX8_levels_11 : decode cX8_levels 11 = .ok (.ifCond .eq 29, 3) := by decide +kernel
theorem dX8_levels_14 : decode cX8_levels 14 = .ok (.iload_n 3, 1) := by decide +kernel
theorem dX8_levels_15 : decode cX8_levels 15 = .ok (.iconst 0, 1) := by decide +kernel
theorem dX8_levels_16 : decode cX8_levels 16 = .ok (.bipush 9, 2) := by decide +kernel
theorem dX8_levels_18 : decode cX8_levels 18 = .ok (.invokestatic 56, 3) := by decide +kernel
theorem dX8_levels_21 : decode cX8_levels 21 = .ok (.ifCond .eq 19, 3) := by decide +kernel
theorem dX8_levels_24 : decode cX8_levels 24 = .ok (.aload_n 0, 1) := by decide +kernel
theorem dX8_levels_25 : decode cX8_levels 25 = .ok (.iconst 5, 1) := by decide +kernel
theorem dX8_levels_26 : decode cX8_levels 26 = .ok (.bipush 12, 2) := by decide +kernel
theorem dX8_levels_28 : decode cX8_levels 28 = .ok (.iload_n 1, 1) := by decide +kernel
theorem dX8_levels_29 : decode cX8_levels 29 = .ok (.imul, 1) := by decide +kernel
theorem dX8_levels_30 : decode cX8_levels 30 = .ok (.iadd, 1) := by decide +kernel
theorem dX8_levels_31 : decode cX8_levels 31 = .ok (.iload_n 2, 1) := by decide +kernel
theorem dX8_levels_32 : decode cX8_levels 32 = .ok (.iadd, 1) := by decide +kernel
theorem dX8_levels_33 : decode cX8_levels 33 = .ok (.iload_n 3, 1) := by decide +kernel
theorem dX8_levels_34 : decode cX8_levels 34 = .ok (.invokevirtual 114, 3) := by decide +kernel
theorem dX8_levels_37 : decode cX8_levels 37 = .ok (.goto 4, 3) := by decide +kernel
theorem dX8_levels_40 : decode cX8_levels 40 = .ok (.iconst (-1), 1) := by decide +kernel
theorem dX8_levels_41 : decode cX8_levels 41 = .ok (.ireturn, 1) := by decide +kernel
theorem dX8_sets_0 : decode cX8_sets 0 = .ok (.aload_n 0, 1) := by decide +kernel
theorem dX8_sets_1 : decode cX8_sets 1 = .ok (.iconst 0, 1) := by decide +kernel
theorem dX8_sets_2 : decode cX8_sets 2 = .ok (.putfield 52, 3) := by decide +kernel
theorem dX8_sets_5 : decode cX8_sets 5 = .ok (.iload_n 1, 1) := by decide +kernel
theorem dX8_sets_6 : decode cX8_sets 6 = .ok (.ifCond .ne 13, 3) := by decide +kernel
theorem dX8_sets_9 : decode cX8_sets 9 = .ok (.iload_n 2, 1) := by decide +kernel
theorem dX8_sets_10 : decode cX8_sets 10 = .ok (.iconst 1, 1) := by decide +kernel
theorem dX8_sets_11 : decode cX8_sets 11 = .ok (.bipush 9, 2) := by decide +kernel
theorem dX8_sets_13 : decode cX8_sets 13 = .ok (.invokestatic 56, 3) := by decide +kernel
theorem dX8_sets_16 : decode cX8_sets 16 = .ok (.goto 38, 3) := by decide +kernel
theorem dX8_sets_19 : decode cX8_sets 19 = .ok (.iload_n 1, 1) := by decide +kernel
theorem dX8_sets_20 : decode cX8_sets 20 = .ok (.iconst 1, 1) := by decide +kernel
theorem dX8_sets_21 : decode cX8_sets 21 = .ok (.if_icmp .ne 13, 3) := by decide +kernel
theorem dX8_sets_24 : decode cX8_sets 24 = .ok (.iload_n 2, 1) := by decide +kernel
theorem dX8_sets_25 : decode cX8_sets 25 = .ok (.iconst 0, 1) := by decide +kernel
theorem dX8_sets_26 : decode cX8_sets 26 = .ok (.bipush 20, 2) := by decide +kernel
theorem dX8_sets_28 : decode cX8_sets 28 = .ok (.invokestatic 56, 3) := by decide +kernel
theorem dX8_sets_31 : decode cX8_sets 31 = .ok (.goto 23, 3) := by decide +kernel
theorem dX8_sets_34 : decode cX8_sets 34 = .ok (.iload_n 1, 1) := by decide +kernel
theorem dX8_sets_35 : decode cX8_sets 35 = .ok (.iconst 2, 1) := by decide +kernel
theorem dX8_sets_36 : decode cX8_sets 36 = .ok (.if_icmp .ne 17, 3) := by decide +kernel
theorem dX8_sets_39 : decode cX8_sets 39 = .ok (.iload_n 2, 1) := by decide +kernel
theorem dX8_sets_40 : decode cX8_sets 40 = .ok (.iconst 1, 1) := by decide +kernel
theorem dX8_sets_41 : decode cX8_sets 41 = .ok (.bipush 8, 2) := by decide +kernel
theorem dX8_sets_43 : decode cX8_sets 43 = .ok (.invokestatic 56, 3) := by decide +kernel
theorem dX8_sets_46 : decode cX8_sets 46 = .ok (.ifCond .eq 7, 3) := by decide +kernel
theorem dX8_sets_49 : decode cX8_sets 49 = .ok (.iconst 1, 1) := by decide +kernel
theorem dX8_sets_50 : decode cX8_sets 50 = .ok (.goto 4, 3) := by decide +kernel
theorem dX8_sets_53 : decode cX8_sets 53 = .ok (.iconst 0, 1) := by decide +kernel
theorem dX8_sets_54 : decode cX8_sets 54 = .ok (.istore_n 3, 1) := by decide +kernel
theorem dX8_sets_55 : decode cX8_sets 55 = .ok (.iload_n 3, 1) := by decide +kernel
theorem dX8_sets_56 : decode cX8_sets 56 = .ok (.ifCond .eq 14, 3) := by decide +kernel
theorem dX8_sets_59 : decode cX8_sets 59 = .ok (.aload_n 0, 1) := by decide +kernel
theorem dX8_sets_60 : decode cX8_sets 60 = .ok (.iconst 2, 1) := by decide +kernel
theorem dX8_sets_61 : decode cX8_sets 61 = .ok (.iload_n 1, 1) := by decide +kernel
theorem dX8_sets_62 : decode cX8_sets 62 = .ok (.iadd, 1) := by decide +kernel
theorem dX8_sets_63 : decode cX8_sets 63 = .ok (.iload_n 2, 1) := by decide +kernel
theorem dX8_sets_64 : decode cX8_sets 64 = .ok (.invokevirtual 114, 3) := by decide +kernel
theorem dX8_sets_67 : decode cX8_sets 67 = .ok (.goto 4, 3) := by decide +kernel
theorem dX8_sets_70 : decode cX8_sets 70 = .ok (.iconst (-1), 1) := by decide +kernel
theorem dX8_sets_71 : decode cX8_sets 71 = .ok (.ireturn, 1) := by decide +kernel
theorem dX8_undo_0 : decode cX8_undo 0 = .ok (.aload_n 0, 1) := by decide +kernel
theorem dX8_undo_1 : decode cX8_undo 1 = .ok (.iconst 0, 1) := by decide +kernel
theorem dX8_undo_2 : decode cX8_undo 2 = .ok (.putfield 52, 3) := by decide +kernel
theorem dX8_undo_5 : decode cX8_undo 5 = .ok (.aload_n 0, 1) := by decide +kernel
theorem dX8_undo_6 : decode cX8_undo 6 = .ok (.getfield 107, 3) := by decide +kernel
theorem dX8_undo_9 : decode cX8_undo 9 = .ok (.ifCond .ne 6, 3) := by decide +kernel
theorem dX8_undo_12 : decode cX8_undo 12 = .ok (.bipush (-2), 2) := by decide +kernel
theorem dX8_undo_14 : decode cX8_undo 14 = .ok (.ireturn, 1) := by decide +kernel
theorem dX8_undo_15 : decode cX8_undo 15 = .ok (.aload_n 0, 1) := by decide +kernel
theorem dX8_undo_16 : decode cX8_undo 16 = .ok (.dup, 1) := by decide +kernel
theorem dX8_undo_17 : decode cX8_undo 17 = .ok (.getfield 107, 3) := by decide +kernel
theorem dX8_undo_20 : decode cX8_undo 20 = .ok (.iconst 1, 1) := by decide +kernel
theorem dX8_undo_21 : decode cX8_undo 21 = .ok (.isub, 1) := by decide +kernel
theorem dX8_undo_22 : decode cX8_undo 22 = .ok (.putfield 107, 3) := by decide +kernel
theorem dX8_undo_25 : decode cX8_undo 25 = .ok (.iconst 0, 1) := by decide +kernel
theorem dX8_undo_26 : decode cX8_undo 26 = .ok (.istore_n 1, 1) := by decide +kernel
theorem dX8_undo_27 : decode cX8_undo 27 = .ok (.iload_n 1, 1) := by decide +kernel
theorem dX8_undo_28 : decode cX8_undo 28 = .ok (.bipush 101, 2) := by decide +kernel
theorem dX8_undo_30 : decode cX8_undo 30 = .ok (.if_icmp .ge 29, 3) := by decide +kernel
theorem dX8_undo_33 : decode cX8_undo 33 = .ok (.aload_n 0, 1) := by decide +kernel
theorem dX8_undo_34 : decode cX8_undo 34 = .ok (.getfield 7, 3) := by decide +kernel
theorem dX8_undo_37 : decode cX8_undo 37 = .ok (.iload_n 1, 1) := by decide +kernel
theorem dX8_undo_38 : decode cX8_undo 38 = .ok (.aload_n 0, 1) := by decide +kernel
theorem dX8_undo_39 : decode cX8_undo 39 = .ok (.getfield 16, 3) := by decide +kernel
theorem dX8_undo_42 : decode cX8_undo 42 = .ok (.bipush 101, 2) := by decide +kernel
theorem dX8_undo_44 : decode cX8_undo 44 = .ok (.aload_n 0, 1) := by decide +kernel
theorem dX8_undo_45 : decode cX8_undo 45 = .ok (.getfield 107, 3) := by decide +kernel
theorem dX8_undo_48 : decode cX8_undo 48 = .ok (.imul, 1) := by decide +kernel
theorem dX8_undo_49 : decode cX8_undo 49 = .ok (.iload_n 1, 1) := by decide +kernel
theorem dX8_undo_50 : decode cX8_undo 50 = .ok (.iadd, 1) := by decide +kernel
theorem dX8_undo_51 : decode cX8_undo 51 = .ok (.iaload, 1) := by decide +kernel
theorem dX8_undo_52 : decode cX8_undo 52 = .ok (.iastore, 1) := by decide +kernel
theorem dX8_undo_53 : decode cX8_undo 53 = .ok (.iinc 1 1, 3) := by decide +kernel
theorem dX8_undo_56 : decode cX8_undo 56 = .ok (.goto (-29), 3) := by decide +kernel
theorem dX8_undo_59 : decode cX8_undo 59 = .ok (.aload_n 0, 1) := by decide +kernel
theorem dX8_undo_60 : decode cX8_undo 60 = .ok (.getfield 107, 3) := by decide +kernel
theorem dX8_undo_63 : decode cX8_undo 63 = .ok (.ireturn, 1) := by decide +kernel
theorem dX8_levelAt_0 : decode cX8_levelAt 0 = .ok (.iload_n 2, 1) := by decide +kernel
theorem dX8_levelAt_1 : decode cX8_levelAt 1 = .ok (.iconst 0, 1) := by decide +kernel
theorem dX8_levelAt_2 : decode cX8_levelAt 2 = .ok (.aload_n 0, 1) := by decide +kernel
theorem dX8_levelAt_3 : decode cX8_levelAt 3 = .ok (.getfield 7, 3) := by decide +kernel
theorem dX8_levelAt_6 : decode cX8_levelAt 6 = .ok (.iconst 1, 1) := by decide +kernel
theorem dX8_levelAt_7 : decode cX8_levelAt 7 = .ok (.iaload, 1) := by decide +kernel
theorem dX8_levelAt_8 : decode cX8_levelAt 8 = .ok (.iconst 1, 1) := by decide +kernel
theorem dX8_levelAt_9 : decode cX8_levelAt 9 = .ok (.isub, 1) := by decide +kernel
theorem dX8_levelAt_10 : decode cX8_levelAt 10 = .ok (.invokestatic 56, 3) := by decide +kernel
theorem dX8_levelAt_13 : decode cX8_levelAt 13 = .ok (.ifCond .eq 19, 3) := by decide +kernel
theorem dX8_levelAt_16 : decode cX8_levelAt 16 = .ok (.aload_n 0, 1) := by decide +kernel
theorem dX8_levelAt_17 : decode cX8_levelAt 17 = .ok (.getfield 7, 3) := by decide +kernel
theorem dX8_levelAt_20 : decode cX8_levelAt 20 = .ok (.iconst 5, 1) := by decide +kernel
theorem dX8_levelAt_21 : decode cX8_levelAt 21 = .ok (.bipush 12, 2) := by decide +kernel
theorem dX8_levelAt_23 : decode cX8_levelAt 23 = .ok (.iload_n 1, 1) := by decide +kernel
theorem dX8_levelAt_24 : decode cX8_levelAt 24 = .ok (.imul, 1) := by decide +kernel
theorem dX8_levelAt_25 : decode cX8_levelAt 25 = .ok (.iadd, 1) := by decide +kernel
theorem dX8_levelAt_26 : decode cX8_levelAt 26 = .ok (.iload_n 2, 1) := by decide +kernel
theorem dX8_levelAt_27 : decode cX8_levelAt 27 = .ok (.iadd, 1) := by decide +kernel
theorem dX8_levelAt_28 : decode cX8_levelAt 28 = .ok (.iaload, 1) := by decide +kernel
theorem dX8_levelAt_29 : decode cX8_levelAt 29 = .ok (.goto 4, 3) := by decide +kernel
theorem dX8_levelAt_32 : decode cX8_levelAt 32 = .ok (.iconst 0, 1) := by decide +kernel
theorem dX8_levelAt_33 : decode cX8_levelAt 33 = .ok (.ireturn, 1) := by decide +kernel
theorem dX8_laysPeaks_0 : decode cX8_laysPeaks 0 = .ok (.iconst 0, 1) := by decide +kernel
theorem dX8_laysPeaks_1 : decode cX8_laysPeaks 1 = .ok (.istore_n 1, 1) := by decide +kernel
theorem dX8_laysPeaks_2 : decode cX8_laysPeaks 2 = .ok (.iload_n 1, 1) := by decide +kernel
theorem dX8_laysPeaks_3 : decode cX8_laysPeaks 3 = .ok (.aload_n 0, 1) := by decide +kernel
theorem dX8_laysPeaks_4 : decode cX8_laysPeaks 4 = .ok (.getfield 7, 3) := by decide +kernel
theorem dX8_laysPeaks_7 : decode cX8_laysPeaks 7 = .ok (.iconst 0, 1) := by decide +kernel
theorem dX8_laysPeaks_8 : decode cX8_laysPeaks 8 = .ok (.iaload, 1) := by decide +kernel
theorem dX8_laysPeaks_9 : decode cX8_laysPeaks 9 = .ok (.if_icmp .ge 102, 3) := by decide +kernel
theorem dX8_laysPeaks_12 : decode cX8_laysPeaks 12 = .ok (.aload_n 0, 1) := by decide +kernel
theorem dX8_laysPeaks_13 : decode cX8_laysPeaks 13 = .ok (.getfield 33, 3) := by decide +kernel
theorem dX8_laysPeaks_16 : decode cX8_laysPeaks 16 = .ok (.iload_n 1, 1) := by decide +kernel
theorem dX8_laysPeaks_17 : decode cX8_laysPeaks 17 = .ok (.iconst 0, 1) := by decide +kernel
theorem dX8_laysPeaks_18 : decode cX8_laysPeaks 18 = .ok (.iastore, 1) := by decide +kernel
theorem dX8_laysPeaks_19 : decode cX8_laysPeaks 19 = .ok (.iconst 0, 1) := by decide +kernel
theorem dX8_laysPeaks_20 : decode cX8_laysPeaks 20 = .ok (.istore_n 2, 1) := by decide +kernel
theorem dX8_laysPeaks_21 : decode cX8_laysPeaks 21 = .ok (.iload_n 2, 1) := by decide +kernel
theorem dX8_laysPeaks_22 : decode cX8_laysPeaks 22 = .ok (.aload_n 0, 1) := by decide +kernel
theorem dX8_laysPeaks_23 : decode cX8_laysPeaks 23 = .ok (.getfield 7, 3) := by decide +kernel
theorem dX8_laysPeaks_26 : decode cX8_laysPeaks 26 = .ok (.iconst 1, 1) := by decide +kernel
theorem dX8_laysPeaks_27 : decode cX8_laysPeaks 27 = .ok (.iaload, 1) := by decide +kernel
theorem dX8_laysPeaks_28 : decode cX8_laysPeaks 28 = .ok (.if_icmp .ge 77, 3) := by decide +kernel
theorem dX8_laysPeaks_31 : decode cX8_laysPeaks 31 = .ok (.aload_n 0, 1) := by decide +kernel
theorem dX8_laysPeaks_32 : decode cX8_laysPeaks 32 = .ok (.iload_n 1, 1) := by decide +kernel
theorem dX8_laysPeaks_33 : decode cX8_laysPeaks 33 = .ok (.iload_n 2, 1) := by decide +kernel
theorem dX8_laysPeaks_34 : decode cX8_laysPeaks 34 = .ok (.invokevirtual 118, 3) := by decide +kernel
theorem dX8_laysPeaks_37 : decode cX8_laysPeaks 37 = .ok (.istore_n 3, 1) := by decide +kernel
theorem dX8_laysPeaks_38 : decode cX8_laysPeaks 38 = .ok (.iload_n 3, 1) := by decide +kernel
theorem dX8_laysPeaks_39 : decode cX8_laysPeaks 39 = .ok (.aload_n 0, 1) := by decide +kernel
theorem dX8_laysPeaks_40 : decode cX8_laysPeaks 40 = .ok (.getfield 7, 3) := by decide +kernel
theorem dX8_laysPeaks_43 : decode cX8_laysPeaks 43 = .ok (.iconst 2, 1) := by decide +kernel
theorem dX8_laysPeaks_44 : decode cX8_laysPeaks 44 = .ok (.iaload, 1) := by decide +kernel
theorem dX8_laysPeaks_45 : decode cX8_laysPeaks 45 = .ok (.if_icmp .lt 54, 3) := by decide +kernel
theorem dX8_laysPeaks_48 : decode cX8_laysPeaks 48 = .ok (.iload_n 3, 1) := by decide +kernel
theorem dX8_laysPeaks_49 : decode cX8_laysPeaks 49 = .ok (.aload_n 0, 1) := by decide +kernel
theorem dX8_laysPeaks_50 : decode cX8_laysPeaks 50 = .ok (.iload_n 1, 1) := by decide +kernel
theorem dX8_laysPeaks_51 : decode cX8_laysPeaks 51 = .ok (.iload_n 2, 1) := by decide +kernel
theorem dX8_laysPeaks_52 : decode cX8_laysPeaks 52 = .ok (.iconst 1, 1) := by decide +kernel
theorem dX8_laysPeaks_53 : decode cX8_laysPeaks 53 = .ok (.isub, 1) := by decide +kernel
theorem dX8_laysPeaks_54 : decode cX8_laysPeaks 54 = .ok (.invokevirtual 118, 3) := by decide +kernel
theorem dX8_laysPeaks_57 : decode cX8_laysPeaks 57 = .ok (.if_icmp .le 42, 3) := by decide +kernel
theorem dX8_laysPeaks_60 : decode cX8_laysPeaks 60 = .ok (.iload_n 3, 1) := by decide +kernel
theorem dX8_laysPeaks_61 : decode cX8_laysPeaks 61 = .ok (.aload_n 0, 1) := by decide +kernel
theorem dX8_laysPeaks_62 : decode cX8_laysPeaks 62 = .ok (.iload_n 1, 1) := by decide +kernel
theorem dX8_laysPeaks_63 : decode cX8_laysPeaks 63 = .ok (.iload_n 2, 1) := by decide +kernel
theorem dX8_laysPeaks_64 : decode cX8_laysPeaks 64 = .ok (.iconst 1, 1) := by decide +kernel
theorem dX8_laysPeaks_65 : decode cX8_laysPeaks 65 = .ok (.iadd, 1) := by decide +kernel
theorem dX8_laysPeaks_66 : decode cX8_laysPeaks 66 = .ok (.invokevirtual 118, 3) := by decide +kernel
theorem dX8_laysPeaks_69 : decode cX8_laysPeaks 69 = .ok (.if_icmp .lt 30, 3) := by decide +kernel
theorem dX8_laysPeaks_72 : decode cX8_laysPeaks 72 = .ok (.aload_n 0, 1) := by decide +kernel
theorem dX8_laysPeaks_73 : decode cX8_laysPeaks 73 = .ok (.getfield 36, 3) := by decide +kernel
theorem dX8_laysPeaks_76 : decode cX8_laysPeaks 76 = .ok (.bipush 6, 2) := by decide +kernel
theorem dX8_laysPeaks_78 : decode cX8_laysPeaks 78 = .ok (.iload_n 1, 1) := by decide +kernel
theorem dX8_laysPeaks_79 : decode cX8_laysPeaks 79 = .ok (.imul, 1) := by decide +kernel
theorem dX8_laysPeaks_80 : decode cX8_laysPeaks 80 = .ok (.aload_n 0, 1) := by decide +kernel
theorem dX8_laysPeaks_81 : decode cX8_laysPeaks 81 = .ok (.getfield 33, 3) := by decide +kernel
theorem dX8_laysPeaks_84 : decode cX8_laysPeaks 84 = .ok (.iload_n 1, 1) := by decide +kernel
theorem dX8_laysPeaks_85 : decode cX8_laysPeaks 85 = .ok (.iaload, 1) := by decide +kernel
theorem dX8_laysPeaks_86 : decode cX8_laysPeaks 86 = .ok (.iadd, 1) := by decide +kernel
theorem dX8_laysPeaks_87 : decode cX8_laysPeaks 87 = .ok (.iload_n 2, 1) := by decide +kernel
theorem dX8_laysPeaks_88 : decode cX8_laysPeaks 88 = .ok (.iastore, 1) := by decide +kernel
theorem dX8_laysPeaks_89 : decode cX8_laysPeaks 89 = .ok (.aload_n 0, 1) := by decide +kernel
theorem dX8_laysPeaks_90 : decode cX8_laysPeaks 90 = .ok (.getfield 33, 3) := by decide +kernel
theorem dX8_laysPeaks_93 : decode cX8_laysPeaks 93 = .ok (.iload_n 1, 1) := by decide +kernel
theorem dX8_laysPeaks_94 : decode cX8_laysPeaks 94 = .ok (.dup2, 1) := by decide +kernel
theorem dX8_laysPeaks_95 : decode cX8_laysPeaks 95 = .ok (.iaload, 1) := by decide +kernel
theorem dX8_laysPeaks_96 : decode cX8_laysPeaks 96 = .ok (.iconst 1, 1) := by decide +kernel
theorem dX8_laysPeaks_97 : decode cX8_laysPeaks 97 = .ok (.iadd, 1) := by decide +kernel
theorem dX8_laysPeaks_98 : decode cX8_laysPeaks 98 = .ok (.iastore, 1) := by decide +kernel
theorem dX8_laysPeaks_99 : decode cX8_laysPeaks 99 = .ok (.iinc 2 1, 3) := by decide +kernel
theorem dX8_laysPeaks_102 : decode cX8_laysPeaks 102 = .ok (.goto (-81), 3) := by decide +kernel
theorem dX8_laysPeaks_105 : decode cX8_laysPeaks 105 = .ok (.iinc 1 1, 3) := by decide +kernel
theorem dX8_laysPeaks_108 : decode cX8_laysPeaks 108 = .ok (.goto (-106), 3) := by decide +kernel
theorem dX8_laysPeaks_111 : decode cX8_laysPeaks 111 = .ok (.return_, 1) := by decide +kernel
theorem dX8_pitchOf_0 : decode cX8_pitchOf 0 = .ok (.aload_n 0, 1) := by decide +kernel
theorem dX8_pitchOf_1 : decode cX8_pitchOf 1 = .ok (.getfield 36, 3) := by decide +kernel
theorem dX8_pitchOf_4 : decode cX8_pitchOf 4 = .ok (.bipush 6, 2) := by decide +kernel
theorem dX8_pitchOf_6 : decode cX8_pitchOf 6 = .ok (.iload_n 1, 1) := by decide +kernel
theorem dX8_pitchOf_7 : decode cX8_pitchOf 7 = .ok (.imul, 1) := by decide +kernel
theorem dX8_pitchOf_8 : decode cX8_pitchOf 8 = .ok (.iload_n 2, 1) := by decide +kernel
theorem dX8_pitchOf_9 : decode cX8_pitchOf 9 = .ok (.iadd, 1) := by decide +kernel
theorem dX8_pitchOf_10 : decode cX8_pitchOf 10 = .ok (.iaload, 1) := by decide +kernel
theorem dX8_pitchOf_11 : decode cX8_pitchOf 11 = .ok (.istore_n 3, 1) := by decide +kernel
theorem dX8_pitchOf_12 : decode cX8_pitchOf 12 = .ok (.aload_n 0, 1) := by decide +kernel
theorem dX8_pitchOf_13 : decode cX8_pitchOf 13 = .ok (.iload_n 1, 1) := by decide +kernel
theorem dX8_pitchOf_14 : decode cX8_pitchOf 14 = .ok (.iload_n 3, 1) := by decide +kernel
theorem dX8_pitchOf_15 : decode cX8_pitchOf 15 = .ok (.iconst 1, 1) := by decide +kernel
theorem dX8_pitchOf_16 : decode cX8_pitchOf 16 = .ok (.isub, 1) := by decide +kernel
theorem dX8_pitchOf_17 : decode cX8_pitchOf 17 = .ok (.invokevirtual 118, 3) := by decide +kernel
theorem dX8_pitchOf_20 : decode cX8_pitchOf 20 = .ok (.istore 4, 2) := by decide +kernel
theorem dX8_pitchOf_22 : decode cX8_pitchOf 22 = .ok (.aload_n 0, 1) := by decide +kernel
theorem dX8_pitchOf_23 : decode cX8_pitchOf 23 = .ok (.iload_n 1, 1) := by decide +kernel
theorem dX8_pitchOf_24 : decode cX8_pitchOf 24 = .ok (.iload_n 3, 1) := by decide +kernel
theorem dX8_pitchOf_25 : decode cX8_pitchOf 25 = .ok (.iconst 1, 1) := by decide +kernel
theorem dX8_pitchOf_26 : decode cX8_pitchOf 26 = .ok (.iadd, 1) := by decide +kernel
theorem dX8_pitchOf_27 : decode cX8_pitchOf 27 = .ok (.invokevirtual 118, 3) := by decide +kernel
theorem dX8_pitchOf_30 : decode cX8_pitchOf 30 = .ok (.istore 5, 2) := by decide +kernel
theorem dX8_pitchOf_32 : decode cX8_pitchOf 32 = .ok (.iconst 4, 1) := by decide +kernel
theorem dX8_pitchOf_33 : decode cX8_pitchOf 33 = .ok (.iload_n 3, 1) := by decide +kernel
theorem dX8_pitchOf_34 : decode cX8_pitchOf 34 = .ok (.imul, 1) := by decide +kernel
theorem dX8_pitchOf_35 : decode cX8_pitchOf 35 = .ok (.iload 5, 2) := by decide +kernel
theorem dX8_pitchOf_37 : decode cX8_pitchOf 37 = .ok (.iload 4, 2) := by decide +kernel
theorem dX8_pitchOf_39 : decode cX8_pitchOf 39 = .ok (.if_icmp .le 7, 3) := by decide +kernel
theorem dX8_pitchOf_42 : decode cX8_pitchOf 42 = .ok (.iconst 1, 1) := by decide +kernel
theorem dX8_pitchOf_43 : decode cX8_pitchOf 43 = .ok (.goto 15, 3) := by decide +kernel
theorem dX8_pitchOf_46 : decode cX8_pitchOf 46 = .ok (.iload 5, 2) := by decide +kernel
theorem dX8_pitchOf_48 : decode cX8_pitchOf 48 = .ok (.iload 4, 2) := by decide +kernel
theorem dX8_pitchOf_50 : decode cX8_pitchOf 50 = .ok (.if_icmp .ge 7, 3) := by decide +kernel
theorem dX8_pitchOf_53 : decode cX8_pitchOf 53 = .ok (.iconst (-1), 1) := by decide +kernel
theorem dX8_pitchOf_54 : decode cX8_pitchOf 54 = .ok (.goto 4, 3) := by decide +kernel
theorem dX8_pitchOf_57 : decode cX8_pitchOf 57 = .ok (.iconst 0, 1) := by decide +kernel
theorem dX8_pitchOf_58 : decode cX8_pitchOf 58 = .ok (.iadd, 1) := by decide +kernel
theorem dX8_pitchOf_59 : decode cX8_pitchOf 59 = .ok (.ireturn, 1) := by decide +kernel
theorem dX8_loudOf_0 : decode cX8_loudOf 0 = .ok (.aload_n 0, 1) := by decide +kernel
theorem dX8_loudOf_1 : decode cX8_loudOf 1 = .ok (.iload_n 1, 1) := by decide +kernel
theorem dX8_loudOf_2 : decode cX8_loudOf 2 = .ok (.aload_n 0, 1) := by decide +kernel
theorem dX8_loudOf_3 : decode cX8_loudOf 3 = .ok (.getfield 36, 3) := by decide +kernel
theorem dX8_loudOf_6 : decode cX8_loudOf 6 = .ok (.bipush 6, 2) := by decide +kernel
theorem dX8_loudOf_8 : decode cX8_loudOf 8 = .ok (.iload_n 1, 1) := by decide +kernel
theorem dX8_loudOf_9 : decode cX8_loudOf 9 = .ok (.imul, 1) := by decide +kernel
theorem dX8_loudOf_10 : decode cX8_loudOf 10 = .ok (.iload_n 2, 1) := by decide +kernel
theorem dX8_loudOf_11 : decode cX8_loudOf 11 = .ok (.iadd, 1) := by decide +kernel
theorem dX8_loudOf_12 : decode cX8_loudOf 12 = .ok (.iaload, 1) := by decide +kernel
theorem dX8_loudOf_13 : decode cX8_loudOf 13 = .ok (.invokevirtual 118, 3) := by decide +kernel
theorem dX8_loudOf_16 : decode cX8_loudOf 16 = .ok (.ireturn, 1) := by decide +kernel
theorem dX8_apart_0 : decode cX8_apart 0 = .ok (.aload_n 0, 1) := by decide +kernel
theorem dX8_apart_1 : decode cX8_apart 1 = .ok (.iload_n 1, 1) := by decide +kernel
theorem dX8_apart_2 : decode cX8_apart 2 = .ok (.iload_n 2, 1) := by decide +kernel
theorem dX8_apart_3 : decode cX8_apart 3 = .ok (.invokevirtual 121, 3) := by decide +kernel
theorem dX8_apart_6 : decode cX8_apart 6 = .ok (.aload_n 0, 1) := by decide +kernel
theorem dX8_apart_7 : decode cX8_apart 7 = .ok (.iload_n 1, 1) := by decide +kernel
theorem dX8_apart_8 : decode cX8_apart 8 = .ok (.iconst 1, 1) := by decide +kernel
theorem dX8_apart_9 : decode cX8_apart 9 = .ok (.iadd, 1) := by decide +kernel
theorem dX8_apart_10 : decode cX8_apart 10 = .ok (.iload_n 3, 1) := by decide +kernel
theorem dX8_apart_11 : decode cX8_apart 11 = .ok (.invokevirtual 121, 3) := by decide +kernel
theorem dX8_apart_14 : decode cX8_apart 14 = .ok (.isub, 1) := by decide +kernel
theorem dX8_apart_15 : decode cX8_apart 15 = .ok (.istore 4, 2) := by decide +kernel
theorem dX8_apart_17 : decode cX8_apart 17 = .ok (.iload 4, 2) := by decide +kernel
theorem dX8_apart_19 : decode cX8_apart 19 = .ok (.ifCond .ge 9, 3) := by decide +kernel
theorem dX8_apart_22 : decode cX8_apart 22 = .ok (.iload 4, 2) := by decide +kernel
theorem dX8_apart_24 : decode cX8_apart 24 = .ok (.ineg, 1) := by decide +kernel
theorem dX8_apart_25 : decode cX8_apart 25 = .ok (.goto 5, 3) := by decide +kernel
theorem dX8_apart_28 : decode cX8_apart 28 = .ok (.iload 4, 2) := by decide +kernel
theorem dX8_apart_30 : decode cX8_apart 30 = .ok (.ireturn, 1) := by decide +kernel
theorem dX8_worthOf_0 : decode cX8_worthOf 0 = .ok (.aload_n 0, 1) := by decide +kernel
theorem dX8_worthOf_1 : decode cX8_worthOf 1 = .ok (.getfield 45, 3) := by decide +kernel
theorem dX8_worthOf_4 : decode cX8_worthOf 4 = .ok (.bipush 7, 2) := by decide +kernel
theorem dX8_worthOf_6 : decode cX8_worthOf 6 = .ok (.iload_n 1, 1) := by decide +kernel
theorem dX8_worthOf_7 : decode cX8_worthOf 7 = .ok (.imul, 1) := by decide +kernel
theorem dX8_worthOf_8 : decode cX8_worthOf 8 = .ok (.iload_n 2, 1) := by decide +kernel
theorem dX8_worthOf_9 : decode cX8_worthOf 9 = .ok (.iadd, 1) := by decide +kernel
theorem dX8_worthOf_10 : decode cX8_worthOf 10 = .ok (.iaload, 1) := by decide +kernel
theorem dX8_worthOf_11 : decode cX8_worthOf 11 = .ok (.ireturn, 1) := by decide +kernel
theorem dX8_pairWorth_0 : decode cX8_pairWorth 0 = .ok (.aload_n 0, 1) := by decide +kernel
theorem dX8_pairWorth_1 : decode cX8_pairWorth 1 = .ok (.iload_n 1, 1) := by decide +kernel
theorem dX8_pairWorth_2 : decode cX8_pairWorth 2 = .ok (.iload_n 2, 1) := by decide +kernel
theorem dX8_pairWorth_3 : decode cX8_pairWorth 3 = .ok (.iload_n 3, 1) := by decide +kernel
theorem dX8_pairWorth_4 : decode cX8_pairWorth 4 = .ok (.invokevirtual 124, 3) := by decide +kernel
theorem dX8_pairWorth_7 : decode cX8_pairWorth 7 = .ok (.istore 5, 2) := by decide +kernel
theorem dX8_pairWorth_9 : decode cX8_pairWorth 9 = .ok (.iload 5, 2) := by decide +kernel
theorem dX8_pairWorth_11 : decode cX8_pairWorth 11 = .ok (.iload 4, 2) := by decide +kernel
theorem dX8_pairWorth_13 : decode cX8_pairWorth 13 = .ok (.if_icmp .le 7, 3) := by decide +kernel
theorem dX8_pairWorth_16 : decode cX8_pairWorth 16 = .ok (.iconst (-1), 1) := by decide +kernel
theorem dX8_pairWorth_17 : decode cX8_pairWorth 17 = .ok (.goto 20, 3) := by decide +kernel
theorem dX8_pairWorth_20 : decode cX8_pairWorth 20 = .ok (.sipush 1000, 3) := by decide +kernel
theorem dX8_pairWorth_23 : decode cX8_pairWorth 23 = .ok (.iload 5, 2) := by decide +kernel
theorem dX8_pairWorth_25 : decode cX8_pairWorth 25 = .ok (.isub, 1) := by decide +kernel
theorem dX8_pairWorth_26 : decode cX8_pairWorth 26 = .ok (.aload_n 0, 1) := by decide +kernel
theorem dX8_pairWorth_27 : decode cX8_pairWorth 27 = .ok (.iload_n 2, 1) := by decide +kernel
theorem dX8_pairWorth_28 : decode cX8_pairWorth 28 = .ok (.iconst 1, 1) := by decide +kernel
theorem dX8_pairWorth_29 : decode cX8_pairWorth 29 = .ok (.iadd, 1) := by decide +kernel
theorem dX8_pairWorth_30 : decode cX8_pairWorth 30 = .ok (.iload_n 3, 1) := by decide +kernel
theorem dX8_pairWorth_31 : decode cX8_pairWorth 31 = .ok (.iconst 1, 1) := by decide +kernel
theorem dX8_pairWorth_32 : decode cX8_pairWorth 32 = .ok (.iadd, 1) := by decide +kernel
theorem dX8_pairWorth_33 : decode cX8_pairWorth 33 = .ok (.invokevirtual 128, 3) := by decide +kernel
theorem dX8_pairWorth_36 : decode cX8_pairWorth 36 = .ok (.iadd, 1) := by decide +kernel
theorem dX8_pairWorth_37 : decode cX8_pairWorth 37 = .ok (.ireturn, 1) := by decide +kernel
theorem dX8_laysWorth_0 : decode cX8_laysWorth 0 = .ok (.aload_n 0, 1) := by decide +kernel
theorem dX8_laysWorth_1 : decode cX8_laysWorth 1 = .ok (.getfield 33, 3) := by decide +kernel
theorem dX8_laysWorth_4 : decode cX8_laysWorth 4 = .ok (.iload_n 1, 1) := by decide +kernel
theorem dX8_laysWorth_5 : decode cX8_laysWorth 5 = .ok (.iaload, 1) := by decide +kernel
theorem dX8_laysWorth_6 : decode cX8_laysWorth 6 = .ok (.istore_n 3, 1) := by decide +kernel
theorem dX8_laysWorth_7 : decode cX8_laysWorth 7 = .ok (.iload_n 3, 1) := by decide +kernel
theorem dX8_laysWorth_8 : decode cX8_laysWorth 8 = .ok (.ifCond .lt 141, 3) := by decide +kernel
theorem dX8_laysWorth_11 : decode cX8_laysWorth 11 = .ok (.aload_n 0, 1) := by decide +kernel
theorem dX8_laysWorth_12 : decode cX8_laysWorth 12 = .ok (.getfield 33, 3) := by decide +kernel
theorem dX8_laysWorth_15 : decode cX8_laysWorth 15 = .ok (.iload_n 1, 1) := by decide +kernel
theorem dX8_laysWorth_16 : decode cX8_laysWorth 16 = .ok (.iconst 1, 1) := by decide +kernel
theorem dX8_laysWorth_17 : decode cX8_laysWorth 17 = .ok (.iadd, 1) := by decide +kernel
theorem dX8_laysWorth_18 : decode cX8_laysWorth 18 = .ok (.iaload, 1) := by decide +kernel
theorem dX8_laysWorth_19 : decode cX8_laysWorth 19 = .ok (.istore 4, 2) := by decide +kernel
theorem dX8_laysWorth_21 : decode cX8_laysWorth 21 = .ok (.iload 4, 2) := by decide +kernel
theorem dX8_laysWorth_23 : decode cX8_laysWorth 23 = .ok (.ifCond .lt 120, 3) := by decide +kernel
theorem dX8_laysWorth_26 : decode cX8_laysWorth 26 = .ok (.iconst 0, 1) := by decide +kernel
theorem dX8_laysWorth_27 : decode cX8_laysWorth 27 = .ok (.istore 5, 2) := by decide +kernel
theorem dX8_laysWorth_29 : decode cX8_laysWorth 29 = .ok (.iload_n 3, 1) := by decide +kernel
theorem dX8_laysWorth_30 : decode cX8_laysWorth 30 = .ok (.aload_n 0, 1) := by decide +kernel
theorem dX8_laysWorth_31 : decode cX8_laysWorth 31 = .ok (.getfield 33, 3) := by decide +kernel
theorem dX8_laysWorth_34 : decode cX8_laysWorth 34 = .ok (.iload_n 1, 1) := by decide +kernel
theorem dX8_laysWorth_35 : decode cX8_laysWorth 35 = .ok (.iaload, 1) := by decide +kernel
theorem dX8_laysWorth_36 : decode cX8_laysWorth 36 = .ok (.if_icmp .ge 87, 3) := by decide +kernel
theorem dX8_laysWorth_39 : decode cX8_laysWorth 39 = .ok (.iload 4, 2) := by decide +kernel
theorem dX8_laysWorth_41 : decode cX8_laysWorth 41 = .ok (.aload_n 0, 1) := by decide +kernel
theorem dX8_laysWorth_42 : decode cX8_laysWorth 42 = .ok (.getfield 33, 3) := by decide +kernel
theorem dX8_laysWorth_45 : decode cX8_laysWorth 45 = .ok (.iload_n 1, 1) := by decide +kernel
theorem dX8_laysWorth_46 : decode cX8_laysWorth 46 = .ok (.iconst 1, 1) := by decide +kernel
theorem dX8_laysWorth_47 : decode cX8_laysWorth 47 = .ok (.iadd, 1) := by decide +kernel
theorem dX8_laysWorth_48 : decode cX8_laysWorth 48 = .ok (.iaload, 1) := by decide +kernel
theorem dX8_laysWorth_49 : decode cX8_laysWorth 49 = .ok (.if_icmp .ge 74, 3) := by decide +kernel
theorem dX8_laysWorth_52 : decode cX8_laysWorth 52 = .ok (.aload_n 0, 1) := by decide +kernel
theorem dX8_laysWorth_53 : decode cX8_laysWorth 53 = .ok (.iload_n 1, 1) := by decide +kernel
theorem dX8_laysWorth_54 : decode cX8_laysWorth 54 = .ok (.iload_n 3, 1) := by decide +kernel
theorem dX8_laysWorth_55 : decode cX8_laysWorth 55 = .ok (.iload 4, 2) := by decide +kernel
theorem dX8_laysWorth_57 : decode cX8_laysWorth 57 = .ok (.iload_n 2, 1) := by decide +kernel
theorem dX8_laysWorth_58 : decode cX8_laysWorth 58 = .ok (.invokevirtual 131, 3) := by decide +kernel
theorem dX8_laysWorth_61 : decode cX8_laysWorth 61 = .ok (.istore 5, 2) := by decide +kernel
theorem dX8_laysWorth_63 : decode cX8_laysWorth 63 = .ok (.aload_n 0, 1) := by decide +kernel
theorem dX8_laysWorth_64 : decode cX8_laysWorth 64 = .ok (.iload_n 3, 1) := by decide +kernel
theorem dX8_laysWorth_65 : decode cX8_laysWorth 65 = .ok (.iconst 1, 1) := by decide +kernel
theorem dX8_laysWorth_66 : decode cX8_laysWorth 66 = .ok (.iadd, 1) := by decide +kernel
theorem dX8_laysWorth_67 : decode cX8_laysWorth 67 = .ok (.iload 4, 2) := by decide +kernel
theorem dX8_laysWorth_69 : decode cX8_laysWorth 69 = .ok (.invokevirtual 128, 3) := by decide +kernel
theorem dX8_laysWorth_72 : decode cX8_laysWorth 72 = .ok (.iload 5, 2) := by decide +kernel
theorem dX8_laysWorth_74 : decode cX8_laysWorth 74 = .ok (.if_icmp .le 15, 3) := by decide +kernel
theorem dX8_laysWorth_77 : decode cX8_laysWorth 77 = .ok (.aload_n 0, 1) := by decide +kernel
theorem dX8_laysWorth_78 : decode cX8_laysWorth 78 = .ok (.iload_n 3, 1) := by decide +kernel
theorem dX8_laysWorth_79 : decode cX8_laysWorth 79 = .ok (.iconst 1, 1) := by decide +kernel
theorem dX8_laysWorth_80 : decode cX8_laysWorth 80 = .ok (.iadd, 1) := by decide +kernel
theorem dX8_laysWorth_81 : decode cX8_laysWorth 81 = .ok (.iload 4, 2) := by decide +kernel
theorem dX8_laysWorth_83 : decode cX8_laysWorth 83 = .ok (.invokevirtual 128, 3) := by decide +kernel
theorem dX8_laysWorth_86 : decode cX8_laysWorth 86 = .ok (.goto 5, 3) := by decide +kernel
theorem dX8_laysWorth_89 : decode cX8_laysWorth 89 = .ok (.iload 5, 2) := by decide +kernel
theorem dX8_laysWorth_91 : decode cX8_laysWorth 91 = .ok (.istore 5, 2) := by decide +kernel
theorem dX8_laysWorth_93 : decode cX8_laysWorth 93 = .ok (.aload_n 0, 1) := by decide +kernel
theorem dX8_laysWorth_94 : decode cX8_laysWorth 94 = .ok (.iload_n 3, 1) := by decide +kernel
theorem dX8_laysWorth_95 : decode cX8_laysWorth 95 = .ok (.iload 4, 2) := by decide +kernel
theorem dX8_laysWorth_97 : decode cX8_laysWorth 97 = .ok (.iconst 1, 1) := by decide +kernel
theorem dX8_laysWorth_98 : decode cX8_laysWorth 98 = .ok (.iadd, 1) := by decide +kernel
theorem dX8_laysWorth_99 : decode cX8_laysWorth 99 = .ok (.invokevirtual 128, 3) := by decide +kernel
theorem dX8_laysWorth_102 : decode cX8_laysWorth 102 = .ok (.iload 5, 2) := by decide +kernel
theorem dX8_laysWorth_104 : decode cX8_laysWorth 104 = .ok (.if_icmp .le 15, 3) := by decide +kernel
theorem dX8_laysWorth_107 : decode cX8_laysWorth 107 = .ok (.aload_n 0, 1) := by decide +kernel
theorem dX8_laysWorth_108 : decode cX8_laysWorth 108 = .ok (.iload_n 3, 1) := by decide +kernel
theorem dX8_laysWorth_109 : decode cX8_laysWorth 109 = .ok (.iload 4, 2) := by decide +kernel
theorem dX8_laysWorth_111 : decode cX8_laysWorth 111 = .ok (.iconst 1, 1) := by decide +kernel
theorem dX8_laysWorth_112 : decode cX8_laysWorth 112 = .ok (.iadd, 1) := by decide +kernel
theorem dX8_laysWorth_113 : decode cX8_laysWorth 113 = .ok (.invokevirtual 128, 3) := by decide +kernel
theorem dX8_laysWorth_116 : decode cX8_laysWorth 116 = .ok (.goto 5, 3) := by decide +kernel
theorem dX8_laysWorth_119 : decode cX8_laysWorth 119 = .ok (.iload 5, 2) := by decide +kernel
theorem dX8_laysWorth_121 : decode cX8_laysWorth 121 = .ok (.istore 5, 2) := by decide +kernel
theorem dX8_laysWorth_123 : decode cX8_laysWorth 123 = .ok (.aload_n 0, 1) := by decide +kernel
theorem dX8_laysWorth_124 : decode cX8_laysWorth 124 = .ok (.getfield 45, 3) := by decide +kernel
theorem dX8_laysWorth_127 : decode cX8_laysWorth 127 = .ok (.bipush 7, 2) := by decide +kernel
theorem dX8_laysWorth_129 : decode cX8_laysWorth 129 = .ok (.iload_n 3, 1) := by decide +kernel
theorem dX8_laysWorth_130 : decode cX8_laysWorth 130 = .ok (.imul, 1) := by decide +kernel
theorem dX8_laysWorth_131 : decode cX8_laysWorth 131 = .ok (.iload 4, 2) := by decide +kernel
theorem dX8_laysWorth_133 : decode cX8_laysWorth 133 = .ok (.iadd, 1) := by decide +kernel
theorem dX8_laysWorth_134 : decode cX8_laysWorth 134 = .ok (.iload 5, 2) := by decide +kernel
theorem dX8_laysWorth_136 : decode cX8_laysWorth 136 = .ok (.iastore, 1) := by decide +kernel
theorem dX8_laysWorth_137 : decode cX8_laysWorth 137 = .ok (.iinc 4 (-1), 3) := by decide +kernel
theorem dX8_laysWorth_140 : decode cX8_laysWorth 140 = .ok (.goto (-119), 3) := by decide +kernel
theorem dX8_laysWorth_143 : decode cX8_laysWorth 143 = .ok (.iinc 3 (-1), 3) := by decide +kernel
theorem dX8_laysWorth_146 : decode cX8_laysWorth 146 = .ok (.goto (-139), 3) := by decide +kernel
theorem dX8_laysWorth_149 : decode cX8_laysWorth 149 = .ok (.return_, 1) := by decide +kernel
theorem dX8_joins_0 : decode cX8_joins 0 = .ok (.aload_n 0, 1) := by decide +kernel
theorem dX8_joins_1 : decode cX8_joins 1 = .ok (.iload_n 1, 1) := by decide +kernel
theorem dX8_joins_2 : decode cX8_joins 2 = .ok (.iload_n 2, 1) := by decide +kernel
theorem dX8_joins_3 : decode cX8_joins 3 = .ok (.invokevirtual 135, 3) := by decide +kernel
theorem dX8_joins_6 : decode cX8_joins 6 = .ok (.iconst 0, 1) := by decide +kernel
theorem dX8_joins_7 : decode cX8_joins 7 = .ok (.istore_n 3, 1) := by decide +kernel
theorem dX8_joins_8 : decode cX8_joins 8 = .ok (.iconst 0, 1) := by decide +kernel
theorem dX8_joins_9 : decode cX8_joins 9 = .ok (.istore 4, 2) := by decide +kernel
theorem dX8_joins_11 : decode cX8_joins 11 = .ok (.iload 4, 2) := by decide +kernel
theorem dX8_joins_13 : decode cX8_joins 13 = .ok (.aload_n 0, 1) := by decide +kernel
theorem dX8_joins_14 : decode cX8_joins 14 = .ok (.getfield 33, 3) := by decide +kernel
theorem dX8_joins_17 : decode cX8_joins 17 = .ok (.iload_n 1, 1) := by decide +kernel
theorem dX8_joins_18 : decode cX8_joins 18 = .ok (.iaload, 1) := by decide +kernel
theorem dX8_joins_19 : decode cX8_joins 19 = .ok (.if_icmp .ge 96, 3) := by decide +kernel
theorem dX8_joins_22 : decode cX8_joins 22 = .ok (.bipush (-9), 2) := by decide +kernel
theorem dX8_joins_24 : decode cX8_joins 24 = .ok (.istore 5, 2) := by decide +kernel
theorem dX8_joins_26 : decode cX8_joins 26 = .ok (.aload_n 0, 1) := by decide +kernel
theorem dX8_joins_27 : decode cX8_joins 27 = .ok (.getfield 33, 3) := by decide +kernel
theorem dX8_joins_30 : decode cX8_joins 30 = .ok (.iload_n 1, 1) := by decide +kernel
theorem dX8_joins_31 : decode cX8_joins 31 = .ok (.iconst 1, 1) := by decide +kernel
theorem dX8_joins_32 : decode cX8_joins 32 = .ok (.iadd, 1) := by decide +kernel
theorem dX8_joins_33 : decode cX8_joins 33 = .ok (.iaload, 1) := by decide +kernel
theorem dX8_joins_34 : decode cX8_joins 34 = .ok (.iconst 1, 1) := by decide +kernel
theorem dX8_joins_35 : decode cX8_joins 35 = .ok (.isub, 1) := by decide +kernel
theorem dX8_joins_36 : decode cX8_joins 36 = .ok (.istore 6, 2) := by decide +kernel
theorem dX8_joins_38 : decode cX8_joins 38 = .ok (.iload 6, 2) := by decide +kernel
theorem dX8_joins_40 : decode cX8_joins 40 = .ok (.iload_n 3, 1) := by decide +kernel
theorem dX8_joins_41 : decode cX8_joins 41 = .ok (.if_icmp .lt 38, 3) := by decide +kernel
theorem dX8_joins_44 : decode cX8_joins 44 = .ok (.aload_n 0, 1) := by decide +kernel
theorem dX8_joins_45 : decode cX8_joins 45 = .ok (.iload_n 1, 1) := by decide +kernel
theorem dX8_joins_46 : decode cX8_joins 46 = .ok (.iload 4, 2) := by decide +kernel
theorem dX8_joins_48 : decode cX8_joins 48 = .ok (.iload 6, 2) := by decide +kernel
theorem dX8_joins_50 : decode cX8_joins 50 = .ok (.iload_n 2, 1) := by decide +kernel
theorem dX8_joins_51 : decode cX8_joins 51 = .ok (.invokevirtual 131, 3) := by decide +kernel
theorem dX8_joins_54 : decode cX8_joins 54 = .ok (.aload_n 0, 1) := by decide +kernel
theorem dX8_joins_55 : decode cX8_joins 55 = .ok (.iload 4, 2) := by decide +kernel
theorem dX8_joins_57 : decode cX8_joins 57 = .ok (.iload_n 3, 1) := by decide +kernel
theorem dX8_joins_58 : decode cX8_joins 58 = .ok (.invokevirtual 128, 3) := by decide +kernel
theorem dX8_joins_61 : decode cX8_joins 61 = .ok (.if_icmp .ne 8, 3) := by decide +kernel
theorem dX8_joins_64 : decode cX8_joins 64 = .ok (.iload 6, 2) := by decide +kernel
theorem dX8_joins_66 : decode cX8_joins 66 = .ok (.goto 5, 3) := by decide +kernel
theorem dX8_joins_69 : decode cX8_joins 69 = .ok (.iload 5, 2) := by decide +kernel
theorem dX8_joins_71 : decode cX8_joins 71 = .ok (.istore 5, 2) := by decide +kernel
theorem dX8_joins_73 : decode cX8_joins 73 = .ok (.iinc 6 (-1), 3) := by decide +kernel
theorem dX8_joins_76 : decode cX8_joins 76 = .ok (.goto (-38), 3) := by decide +kernel
theorem dX8_joins_79 : decode cX8_joins 79 = .ok (.aload_n 0, 1) := by decide +kernel
theorem dX8_joins_80 : decode cX8_joins 80 = .ok (.getfield 39, 3) := by decide +kernel
theorem dX8_joins_83 : decode cX8_joins 83 = .ok (.bipush 6, 2) := by decide +kernel
theorem dX8_joins_85 : decode cX8_joins 85 = .ok (.iload_n 1, 1) := by decide +kernel
theorem dX8_joins_86 : decode cX8_joins 86 = .ok (.imul, 1) := by decide +kernel
theorem dX8_joins_87 : decode cX8_joins 87 = .ok (.iload 4, 2) := by decide +kernel
theorem dX8_joins_89 : decode cX8_joins 89 = .ok (.iadd, 1) := by decide +kernel
theorem dX8_joins_90 : decode cX8_joins 90 = .ok (.iload 5, 2) := by decide +kernel
theorem dX8_joins_92 : decode cX8_joins 92 = .ok (.iastore, 1) := by decide +kernel
theorem dX8_joins_93 : decode cX8_joins 93 = .ok (.iload 5, 2) := by decide +kernel
theorem dX8_joins_95 : decode cX8_joins 95 = .ok (.bipush (-9), 2) := by decide +kernel
theorem dX8_joins_97 : decode cX8_joins 97 = .ok (.if_icmp .ne 7, 3) := by decide +kernel
theorem dX8_joins_100 : decode cX8_joins 100 = .ok (.iload_n 3, 1) := by decide +kernel
theorem dX8_joins_101 : decode cX8_joins 101 = .ok (.goto 7, 3) := by decide +kernel
theorem dX8_joins_104 : decode cX8_joins 104 = .ok (.iload 5, 2) := by decide +kernel
theorem dX8_joins_106 : decode cX8_joins 106 = .ok (.iconst 1, 1) := by decide +kernel
theorem dX8_joins_107 : decode cX8_joins 107 = .ok (.iadd, 1) := by decide +kernel
theorem dX8_joins_108 : decode cX8_joins 108 = .ok (.istore_n 3, 1) := by decide +kernel
theorem dX8_joins_109 : decode cX8_joins 109 = .ok (.iinc 4 1, 3) := by decide +kernel
theorem dX8_joins_112 : decode cX8_joins 112 = .ok (.goto (-101), 3) := by decide +kernel
theorem dX8_joins_115 : decode cX8_joins 115 = .ok (.return_, 1) := by decide +kernel
theorem dX8_laysTracks_0 : decode cX8_laysTracks 0 = .ok (.aload_n 0, 1) := by decide +kernel
theorem dX8_laysTracks_1 : decode cX8_laysTracks 1 = .ok (.invokevirtual 139, 3) := by decide +kernel
theorem dX8_laysTracks_4 : decode cX8_laysTracks 4 = .ok (.iconst 0, 1) := by decide +kernel
theorem dX8_laysTracks_5 : decode cX8_laysTracks 5 = .ok (.istore_n 2, 1) := by decide +kernel
theorem dX8_laysTracks_6 : decode cX8_laysTracks 6 = .ok (.iload_n 2, 1) := by decide +kernel
theorem dX8_laysTracks_7 : decode cX8_laysTracks 7 = .ok (.bipush 48, 2) := by decide +kernel
theorem dX8_laysTracks_9 : decode cX8_laysTracks 9 = .ok (.if_icmp .ge 25, 3) := by decide +kernel
theorem dX8_laysTracks_12 : decode cX8_laysTracks 12 = .ok (.aload_n 0, 1) := by decide +kernel
theorem dX8_laysTracks_13 : decode cX8_laysTracks 13 = .ok (.getfield 39, 3) := by decide +kernel
theorem dX8_laysTracks_16 : decode cX8_laysTracks 16 = .ok (.iload_n 2, 1) := by decide +kernel
theorem dX8_laysTracks_17 : decode cX8_laysTracks 17 = .ok (.bipush (-9), 2) := by decide +kernel
theorem dX8_laysTracks_19 : decode cX8_laysTracks 19 = .ok (.iastore, 1) := by decide +kernel
theorem dX8_laysTracks_20 : decode cX8_laysTracks 20 = .ok (.aload_n 0, 1) := by decide +kernel
theorem dX8_laysTracks_21 : decode cX8_laysTracks 21 = .ok (.getfield 42, 3) := by decide +kernel
theorem dX8_laysTracks_24 : decode cX8_laysTracks 24 = .ok (.iload_n 2, 1) := by decide +kernel
theorem dX8_laysTracks_25 : decode cX8_laysTracks 25 = .ok (.bipush (-9), 2) := by decide +kernel
theorem dX8_laysTracks_27 : decode cX8_laysTracks 27 = .ok (.iastore, 1) := by decide +kernel
theorem dX8_laysTracks_28 : decode cX8_laysTracks 28 = .ok (.iinc 2 1, 3) := by decide +kernel
theorem dX8_laysTracks_31 : decode cX8_laysTracks 31 = .ok (.goto (-25), 3) := by decide +kernel
theorem dX8_laysTracks_34 : decode cX8_laysTracks 34 = .ok (.iconst 0, 1) := by decide +kernel
theorem dX8_laysTracks_35 : decode cX8_laysTracks 35 = .ok (.istore_n 2, 1) := by decide +kernel
theorem dX8_laysTracks_36 : decode cX8_laysTracks 36 = .ok (.iload_n 2, 1) := by decide +kernel
theorem dX8_laysTracks_37 : decode cX8_laysTracks 37 = .ok (.iconst 1, 1) := by decide +kernel
theorem dX8_laysTracks_38 : decode cX8_laysTracks 38 = .ok (.iadd, 1) := by decide +kernel
theorem dX8_laysTracks_39 : decode cX8_laysTracks 39 = .ok (.aload_n 0, 1) := by decide +kernel
theorem dX8_laysTracks_40 : decode cX8_laysTracks 40 = .ok (.getfield 7, 3) := by decide +kernel
theorem dX8_laysTracks_43 : decode cX8_laysTracks 43 = .ok (.iconst 0, 1) := by decide +kernel
theorem dX8_laysTracks_44 : decode cX8_laysTracks 44 = .ok (.iaload, 1) := by decide +kernel
theorem dX8_laysTracks_45 : decode cX8_laysTracks 45 = .ok (.if_icmp .ge 15, 3) := by decide +kernel
theorem dX8_laysTracks_48 : decode cX8_laysTracks 48 = .ok (.aload_n 0, 1) := by decide +kernel
theorem dX8_laysTracks_49 : decode cX8_laysTracks 49 = .ok (.iload_n 2, 1) := by decide +kernel
theorem dX8_laysTracks_50 : decode cX8_laysTracks 50 = .ok (.iload_n 1, 1) := by decide +kernel
theorem dX8_laysTracks_51 : decode cX8_laysTracks 51 = .ok (.invokevirtual 142, 3) := by decide +kernel
theorem dX8_laysTracks_54 : decode cX8_laysTracks 54 = .ok (.iinc 2 1, 3) := by decide +kernel
theorem dX8_laysTracks_57 : decode cX8_laysTracks 57 = .ok (.goto (-21), 3) := by decide +kernel
theorem dX8_laysTracks_60 : decode cX8_laysTracks 60 = .ok (.aload_n 0, 1) := by decide +kernel
theorem dX8_laysTracks_61 : decode cX8_laysTracks 61 = .ok (.iconst 0, 1) := by decide +kernel
theorem dX8_laysTracks_62 : decode cX8_laysTracks 62 = .ok (.putfield 145, 3) := by decide +kernel
theorem dX8_laysTracks_65 : decode cX8_laysTracks 65 = .ok (.iconst 0, 1) := by decide +kernel
theorem dX8_laysTracks_66 : decode cX8_laysTracks 66 = .ok (.istore_n 2, 1) := by decide +kernel
theorem dX8_laysTracks_67 : decode cX8_laysTracks 67 = .ok (.iload_n 2, 1) := by decide +kernel
theorem dX8_laysTracks_68 : decode cX8_laysTracks 68 = .ok (.aload_n 0, 1) := by decide +kernel
theorem dX8_laysTracks_69 : decode cX8_laysTracks 69 = .ok (.getfield 7, 3) := by decide +kernel
theorem dX8_laysTracks_72 : decode cX8_laysTracks 72 = .ok (.iconst 0, 1) := by decide +kernel
theorem dX8_laysTracks_73 : decode cX8_laysTracks 73 = .ok (.iaload, 1) := by decide +kernel
theorem dX8_laysTracks_74 : decode cX8_laysTracks 74 = .ok (.if_icmp .ge 59, 3) := by decide +kernel
theorem dX8_laysTracks_77 : decode cX8_laysTracks 77 = .ok (.iconst 0, 1) := by decide +kernel
theorem dX8_laysTracks_78 : decode cX8_laysTracks 78 = .ok (.istore_n 3, 1) := by decide +kernel
theorem dX8_laysTracks_79 : decode cX8_laysTracks 79 = .ok (.iload_n 3, 1) := by decide +kernel
theorem dX8_laysTracks_80 : decode cX8_laysTracks 80 = .ok (.aload_n 0, 1) := by decide +kernel
theorem dX8_laysTracks_81 : decode cX8_laysTracks 81 = .ok (.getfield 33, 3) := by decide +kernel
theorem dX8_laysTracks_84 : decode cX8_laysTracks 84 = .ok (.iload_n 2, 1) := by decide +kernel
theorem dX8_laysTracks_85 : decode cX8_laysTracks 85 = .ok (.iaload, 1) := by decide +kernel
theorem dX8_laysTracks_86 : decode cX8_laysTracks 86 = .ok (.if_icmp .ge 41, 3) := by decide +kernel
theorem dX8_laysTracks_89 : decode cX8_laysTracks 89 = .ok (.aload_n 0, 1) := by decide +kernel
theorem dX8_laysTracks_90 : decode cX8_laysTracks 90 = .ok (.getfield 42, 3) := by decide +kernel
theorem dX8_laysTracks_93 : decode cX8_laysTracks 93 = .ok (.bipush 6, 2) := by decide +kernel
theorem dX8_laysTracks_95 : decode cX8_laysTracks 95 = .ok (.iload_n 2, 1) := by decide +kernel
theorem dX8_laysTracks_96 : decode cX8_laysTracks 96 = .ok (.imul, 1) := by decide +kernel
theorem dX8_laysTracks_97 : decode cX8_laysTracks 97 = .ok (.iload_n 3, 1) := by decide +kernel
theorem dX8_laysTracks_98 : decode cX8_laysTracks 98 = .ok (.iadd, 1) := by decide +kernel
theorem dX8_laysTracks_99 : decode cX8_laysTracks 99 = .ok (.iaload, 1) := by decide +kernel
theorem dX8_laysTracks_100 : decode cX8_laysTracks 100 = .ok (.bipush (-9), 2) := by decide +kernel
theorem dX8_laysTracks_102 : decode cX8_laysTracks 102 = .ok (.if_icmp .ne 19, 3) := by decide +kernel
theorem dX8_laysTracks_105 : decode cX8_laysTracks 105 = .ok (.aload_n 0, 1) := by decide +kernel
theorem dX8_laysTracks_106 : decode cX8_laysTracks 106 = .ok (.iload_n 2, 1) := by decide +kernel
theorem dX8_laysTracks_107 : decode cX8_laysTracks 107 = .ok (.iload_n 3, 1) := by decide +kernel
theorem dX8_laysTracks_108 : decode cX8_laysTracks 108 = .ok (.invokevirtual 148, 3) := by decide +kernel
theorem dX8_laysTracks_111 : decode cX8_laysTracks 111 = .ok (.aload_n 0, 1) := by decide +kernel
theorem dX8_laysTracks_112 : decode cX8_laysTracks 112 = .ok (.dup, 1) := by decide +kernel
theorem dX8_laysTracks_113 : decode cX8_laysTracks 113 = .ok (.getfield 145, 3) := by decide +kernel
theorem dX8_laysTracks_116 : decode cX8_laysTracks 116 = .ok (.iconst 1, 1) := by decide +kernel
theorem dX8_laysTracks_117 : decode cX8_laysTracks 117 = .ok (.iadd, 1) := by decide +kernel
theorem dX8_laysTracks_118 : decode cX8_laysTracks 118 = .ok (.putfield 145, 3) := by decide +kernel
theorem dX8_laysTracks_121 : decode cX8_laysTracks 121 = .ok (.iinc 3 1, 3) := by decide +kernel
theorem dX8_laysTracks_124 : decode cX8_laysTracks 124 = .ok (.goto (-45), 3) := by decide +kernel
theorem dX8_laysTracks_127 : decode cX8_laysTracks 127 = .ok (.iinc 2 1, 3) := by decide +kernel
theorem dX8_laysTracks_130 : decode cX8_laysTracks 130 = .ok (.goto (-63), 3) := by decide +kernel
theorem dX8_laysTracks_133 : decode cX8_laysTracks 133 = .ok (.return_, 1) := by decide +kernel
theorem dX8_follows_0 : decode cX8_follows 0 = .ok (.iload_n 1, 1) := by decide +kernel
theorem dX8_follows_1 : decode cX8_follows 1 = .ok (.istore_n 3, 1) := by decide +kernel
theorem dX8_follows_2 : decode cX8_follows 2 = .ok (.iload_n 2, 1) := by decide +kernel
theorem dX8_follows_3 : decode cX8_follows 3 = .ok (.istore 4, 2) := by decide +kernel
theorem dX8_follows_5 : decode cX8_follows 5 = .ok (.iload 4, 2) := by decide +kernel
theorem dX8_follows_7 : decode cX8_follows 7 = .ok (.bipush (-9), 2) := by decide +kernel
theorem dX8_follows_9 : decode cX8_follows 9 = .ok (.if_icmp .eq 39, 3) := by decide +kernel
theorem dX8_follows_12 : decode cX8_follows 12 = .ok (.aload_n 0, 1) := by decide +kernel
theorem dX8_follows_13 : decode cX8_follows 13 = .ok (.getfield 42, 3) := by decide +kernel
theorem dX8_follows_16 : decode cX8_follows 16 = .ok (.bipush 6, 2) := by decide +kernel
theorem dX8_follows_18 : decode cX8_follows 18 = .ok (.iload_n 3, 1) := by decide +kernel
theorem dX8_follows_19 : decode cX8_follows 19 = .ok (.imul, 1) := by decide +kernel
theorem dX8_follows_20 : decode cX8_follows 20 = .ok (.iload 4, 2) := by decide +kernel
theorem dX8_follows_22 : decode cX8_follows 22 = .ok (.iadd, 1) := by decide +kernel
theorem dX8_follows_23 : decode cX8_follows 23 = .ok (.aload_n 0, 1) := by decide +kernel
theorem dX8_follows_24 : decode cX8_follows 24 = .ok (.getfield 145, 3) := by decide +kernel
theorem dX8_follows_27 : decode cX8_follows 27 = .ok (.iastore, 1) := by decide +kernel
theorem dX8_follows_28 : decode cX8_follows 28 = .ok (.aload_n 0, 1) := by decide +kernel
theorem dX8_follows_29 : decode cX8_follows 29 = .ok (.getfield 39, 3) := by decide +kernel
theorem dX8_follows_32 : decode cX8_follows 32 = .ok (.bipush 6, 2) := by decide +kernel
theorem dX8_follows_34 : decode cX8_follows 34 = .ok (.iload_n 3, 1) := by decide +kernel
theorem dX8_follows_35 : decode cX8_follows 35 = .ok (.imul, 1) := by decide +kernel
theorem dX8_follows_36 : decode cX8_follows 36 = .ok (.iload 4, 2) := by decide +kernel
theorem dX8_follows_38 : decode cX8_follows 38 = .ok (.iadd, 1) := by decide +kernel
theorem dX8_follows_39 : decode cX8_follows 39 = .ok (.iaload, 1) := by decide +kernel
theorem dX8_follows_40 : decode cX8_follows 40 = .ok (.istore 4, 2) := by decide +kernel
theorem dX8_follows_42 : decode cX8_follows 42 = .ok (.iinc 3 1, 3) := by decide +kernel
theorem dX8_follows_45 : decode cX8_follows 45 = .ok (.goto (-40), 3) := by decide +kernel
theorem dX8_follows_48 : decode cX8_follows 48 = .ok (.return_, 1) := by decide +kernel
theorem dX8_lays_0 : decode cX8_lays 0 = .ok (.aload_n 0, 1) := by decide +kernel
theorem dX8_lays_1 : decode cX8_lays 1 = .ok (.aload_n 0, 1) := by decide +kernel
theorem dX8_lays_2 : decode cX8_lays 2 = .ok (.getfield 7, 3) := by decide +kernel
theorem dX8_lays_5 : decode cX8_lays 5 = .ok (.iconst 3, 1) := by decide +kernel
theorem dX8_lays_6 : decode cX8_lays 6 = .ok (.iaload, 1) := by decide +kernel
theorem dX8_lays_7 : decode cX8_lays 7 = .ok (.invokevirtual 151, 3) := by decide +kernel
theorem dX8_lays_10 : decode cX8_lays 10 = .ok (.return_, 1) := by decide +kernel
theorem dX8_peakOf_0 : decode cX8_peakOf 0 = .ok (.bipush (-9), 2) := by decide +kernel
theorem dX8_peakOf_2 : decode cX8_peakOf 2 = .ok (.istore_n 3, 1) := by decide +kernel
theorem dX8_peakOf_3 : decode cX8_peakOf 3 = .ok (.iconst 0, 1) := by decide +kernel
theorem dX8_peakOf_4 : decode cX8_peakOf 4 = .ok (.istore 4, 2) := by decide +kernel
theorem dX8_peakOf_6 : decode cX8_peakOf 6 = .ok (.iload 4, 2) := by decide +kernel
theorem dX8_peakOf_8 : decode cX8_peakOf 8 = .ok (.aload_n 0, 1) := by decide +kernel
theorem dX8_peakOf_9 : decode cX8_peakOf 9 = .ok (.getfield 33, 3) := by decide +kernel
theorem dX8_peakOf_12 : decode cX8_peakOf 12 = .ok (.iload_n 2, 1) := by decide +kernel
theorem dX8_peakOf_13 : decode cX8_peakOf 13 = .ok (.iaload, 1) := by decide +kernel
theorem dX8_peakOf_14 : decode cX8_peakOf 14 = .ok (.if_icmp .ge 32, 3) := by decide +kernel
theorem dX8_peakOf_17 : decode cX8_peakOf 17 = .ok (.aload_n 0, 1) := by decide +kernel
theorem dX8_peakOf_18 : decode cX8_peakOf 18 = .ok (.getfield 42, 3) := by decide +kernel
theorem dX8_peakOf_21 : decode cX8_peakOf 21 = .ok (.bipush 6, 2) := by decide +kernel
theorem dX8_peakOf_23 : decode cX8_peakOf 23 = .ok (.iload_n 2, 1) := by decide +kernel
theorem dX8_peakOf_24 : decode cX8_peakOf 24 = .ok (.imul, 1) := by decide +kernel
theorem dX8_peakOf_25 : decode cX8_peakOf 25 = .ok (.iload 4, 2) := by decide +kernel
theorem dX8_peakOf_27 : decode cX8_peakOf 27 = .ok (.iadd, 1) := by decide +kernel
theorem dX8_peakOf_28 : decode cX8_peakOf 28 = .ok (.iaload, 1) := by decide +kernel
theorem dX8_peakOf_29 : decode cX8_peakOf 29 = .ok (.iload_n 1, 1) := by decide +kernel
theorem dX8_peakOf_30 : decode cX8_peakOf 30 = .ok (.if_icmp .ne 8, 3) := by decide +kernel
theorem dX8_peakOf_33 : decode cX8_peakOf 33 = .ok (.iload 4, 2) := by decide +kernel
theorem dX8_peakOf_35 : decode cX8_peakOf 35 = .ok (.goto 4, 3) := by decide +kernel
theorem dX8_peakOf_38 : decode cX8_peakOf 38 = .ok (.iload_n 3, 1) := by decide +kernel
theorem dX8_peakOf_39 : decode cX8_peakOf 39 = .ok (.istore_n 3, 1) := by decide +kernel
theorem dX8_peakOf_40 : decode cX8_peakOf 40 = .ok (.iinc 4 1, 3) := by decide +kernel
theorem dX8_peakOf_43 : decode cX8_peakOf 43 = .ok (.goto (-37), 3) := by decide +kernel
theorem dX8_peakOf_46 : decode cX8_peakOf 46 = .ok (.iload_n 3, 1) := by decide +kernel
theorem dX8_peakOf_47 : decode cX8_peakOf 47 = .ok (.ireturn, 1) := by decide +kernel
theorem dX8_bornOf_0 : decode cX8_bornOf 0 = .ok (.iconst 0, 1) := by decide +kernel
theorem dX8_bornOf_1 : decode cX8_bornOf 1 = .ok (.istore_n 2, 1) := by decide +kernel
theorem dX8_bornOf_2 : decode cX8_bornOf 2 = .ok (.aload_n 0, 1) := by decide +kernel
theorem dX8_bornOf_3 : decode cX8_bornOf 3 = .ok (.iload_n 1, 1) := by decide +kernel
theorem dX8_bornOf_4 : decode cX8_bornOf 4 = .ok (.iload_n 2, 1) := by decide +kernel
theorem dX8_bornOf_5 : decode cX8_bornOf 5 = .ok (.invokevirtual 155, 3) := by decide +kernel
theorem dX8_bornOf_8 : decode cX8_bornOf 8 = .ok (.bipush (-9), 2) := by decide +kernel
theorem dX8_bornOf_10 : decode cX8_bornOf 10 = .ok (.if_icmp .ne 9, 3) := by decide +kernel
theorem dX8_bornOf_13 : decode cX8_bornOf 13 = .ok (.iinc 2 1, 3) := by decide +kernel
theorem dX8_bornOf_16 : decode cX8_bornOf 16 = .ok (.goto (-14), 3) := by decide +kernel
theorem dX8_bornOf_19 : decode cX8_bornOf 19 = .ok (.iload_n 2, 1) := by decide +kernel
theorem dX8_bornOf_20 : decode cX8_bornOf 20 = .ok (.ireturn, 1) := by decide +kernel
theorem dX8_longOf_0 : decode cX8_longOf 0 = .ok (.iconst 0, 1) := by decide +kernel
theorem dX8_longOf_1 : decode cX8_longOf 1 = .ok (.istore_n 2, 1) := by decide +kernel
theorem dX8_longOf_2 : decode cX8_longOf 2 = .ok (.iconst 0, 1) := by decide +kernel
theorem dX8_longOf_3 : decode cX8_longOf 3 = .ok (.istore_n 3, 1) := by decide +kernel
theorem dX8_longOf_4 : decode cX8_longOf 4 = .ok (.iload_n 3, 1) := by decide +kernel
theorem dX8_longOf_5 : decode cX8_longOf 5 = .ok (.aload_n 0, 1) := by decide +kernel
theorem dX8_longOf_6 : decode cX8_longOf 6 = .ok (.getfield 7, 3) := by decide +kernel
theorem dX8_longOf_9 : decode cX8_longOf 9 = .ok (.iconst 0, 1) := by decide +kernel
theorem dX8_longOf_10 : decode cX8_longOf 10 = .ok (.iaload, 1) := by decide +kernel
theorem dX8_longOf_11 : decode cX8_longOf 11 = .ok (.if_icmp .ge 28, 3) := by decide +kernel
theorem dX8_longOf_14 : decode cX8_longOf 14 = .ok (.iload_n 2, 1) := by decide +kernel
theorem dX8_longOf_15 : decode cX8_longOf 15 = .ok (.aload_n 0, 1) := by decide +kernel
theorem dX8_longOf_16 : decode cX8_longOf 16 = .ok (.iload_n 1, 1) := by decide +kernel
theorem dX8_longOf_17 : decode cX8_longOf 17 = .ok (.iload_n 3, 1) := by decide +kernel
theorem dX8_longOf_18 : decode cX8_longOf 18 = .ok (.invokevirtual 155, 3) := by decide +kernel
theorem dX8_longOf_21 : decode cX8_longOf 21 = .ok (.bipush (-9), 2) := by decide +kernel
theorem dX8_longOf_23 : decode cX8_longOf 23 = .ok (.if_icmp .ne 7, 3) := by decide +kernel
theorem dX8_longOf_26 : decode cX8_longOf 26 = .ok (.iconst 0, 1) := by decide +kernel
theorem dX8_longOf_27 : decode cX8_longOf 27 = .ok (.goto 4, 3) := by decide +kernel
theorem dX8_longOf_30 : decode cX8_longOf 30 = .ok (.iconst 1, 1) := by decide +kernel
theorem dX8_longOf_31 : decode cX8_longOf 31 = .ok (.iadd, 1) := by decide +kernel
theorem dX8_longOf_32 : decode cX8_longOf 32 = .ok (.istore_n 2, 1) := by decide +kernel
theorem dX8_longOf_33 : decode cX8_longOf 33 = .ok (.iinc 3 1, 3) := by decide +kernel
theorem dX8_longOf_36 : decode cX8_longOf 36 = .ok (.goto (-32), 3) := by decide +kernel
theorem dX8_longOf_39 : decode cX8_longOf 39 = .ok (.iload_n 2, 1) := by decide +kernel
theorem dX8_longOf_40 : decode cX8_longOf 40 = .ok (.ireturn, 1) := by decide +kernel
theorem dX8_depthOf_0 : decode cX8_depthOf 0 = .ok (.sipush 1000, 3) := by decide +kernel
theorem dX8_depthOf_3 : decode cX8_depthOf 3 = .ok (.istore_n 2, 1) := by decide +kernel
theorem dX8_depthOf_4 : decode cX8_depthOf 4 = .ok (.sipush (-1000), 3) := by decide +kernel
theorem dX8_depthOf_7 : decode cX8_depthOf 7 = .ok (.istore_n 3, 1) := by decide +kernel
theorem dX8_depthOf_8 : decode cX8_depthOf 8 = .ok (.iconst 0, 1) := by decide +kernel
theorem dX8_depthOf_9 : decode cX8_depthOf 9 = .ok (.istore 4, 2) := by decide +kernel
theorem dX8_depthOf_11 : decode cX8_depthOf 11 = .ok (.iload 4, 2) := by decide +kernel
theorem dX8_depthOf_13 : decode cX8_depthOf 13 = .ok (.aload_n 0, 1) := by decide +kernel
theorem dX8_depthOf_14 : decode cX8_depthOf 14 = .ok (.getfield 7, 3) := by decide +kernel
theorem dX8_depthOf_17 : decode cX8_depthOf 17 = .ok (.iconst 0, 1) := by decide +kernel
theorem dX8_depthOf_18 : decode cX8_depthOf 18 = .ok (.iaload, 1) := by decide +kernel
theorem dX8_depthOf_19 : decode cX8_depthOf 19 = .ok (.if_icmp .ge 61, 3) := by decide +kernel
theorem dX8_depthOf_22 : decode cX8_depthOf 22 = .ok (.aload_n 0, 1) := by decide +kernel
theorem dX8_depthOf_23 : decode cX8_depthOf 23 = .ok (.iload_n 1, 1) := by decide +kernel
theorem dX8_depthOf_24 : decode cX8_depthOf 24 = .ok (.iload 4, 2) := by decide +kernel
theorem dX8_depthOf_26 : decode cX8_depthOf 26 = .ok (.invokevirtual 155, 3) := by decide +kernel
theorem dX8_depthOf_29 : decode cX8_depthOf 29 = .ok (.istore 5, 2) := by decide +kernel
theorem dX8_depthOf_31 : decode cX8_depthOf 31 = .ok (.iload 5, 2) := by decide +kernel
theorem dX8_depthOf_33 : decode cX8_depthOf 33 = .ok (.bipush (-9), 2) := by decide +kernel
theorem dX8_depthOf_35 : decode cX8_depthOf 35 = .ok (.if_icmp .eq 39, 3) := by decide +kernel
theorem dX8_depthOf_38 : decode cX8_depthOf 38 = .ok (.aload_n 0, 1) := by decide +kernel
theorem dX8_depthOf_39 : decode cX8_depthOf 39 = .ok (.iload 4, 2) := by decide +kernel
theorem dX8_depthOf_41 : decode cX8_depthOf 41 = .ok (.iload 5, 2) := by decide +kernel
theorem dX8_depthOf_43 : decode cX8_depthOf 43 = .ok (.invokevirtual 121, 3) := by decide +kernel
theorem dX8_depthOf_46 : decode cX8_depthOf 46 = .ok (.istore 6, 2) := by decide +kernel
theorem dX8_depthOf_48 : decode cX8_depthOf 48 = .ok (.iload 6, 2) := by decide +kernel
theorem dX8_depthOf_50 : decode cX8_depthOf 50 = .ok (.iload_n 2, 1) := by decide +kernel
theorem dX8_depthOf_51 : decode cX8_depthOf 51 = .ok (.if_icmp .ge 8, 3) := by decide +kernel
theorem dX8_depthOf_54 : decode cX8_depthOf 54 = .ok (.iload 6, 2) := by decide +kernel
theorem dX8_depthOf_56 : decode cX8_depthOf 56 = .ok (.goto 4, 3) := by decide +kernel
theorem dX8_depthOf_59 : decode cX8_depthOf 59 = .ok (.iload_n 2, 1) := by decide +kernel
theorem dX8_depthOf_60 : decode cX8_depthOf 60 = .ok (.istore_n 2, 1) := by decide +kernel
theorem dX8_depthOf_61 : decode cX8_depthOf 61 = .ok (.iload 6, 2) := by decide +kernel
theorem dX8_depthOf_63 : decode cX8_depthOf 63 = .ok (.iload_n 3, 1) := by decide +kernel
theorem dX8_depthOf_64 : decode cX8_depthOf 64 = .ok (.if_icmp .le 8, 3) := by decide +kernel
theorem dX8_depthOf_67 : decode cX8_depthOf 67 = .ok (.iload 6, 2) := by decide +kernel
theorem dX8_depthOf_69 : decode cX8_depthOf 69 = .ok (.goto 4, 3) := by decide +kernel
theorem dX8_depthOf_72 : decode cX8_depthOf 72 = .ok (.iload_n 3, 1) := by decide +kernel
theorem dX8_depthOf_73 : decode cX8_depthOf 73 = .ok (.istore_n 3, 1) := by decide +kernel
theorem dX8_depthOf_74 : decode cX8_depthOf 74 = .ok (.iinc 4 1, 3) := by decide +kernel
theorem dX8_depthOf_77 : decode cX8_depthOf 77 = .ok (.goto (-66), 3) := by decide +kernel
theorem dX8_depthOf_80 : decode cX8_depthOf 80 = .ok (.iload_n 3, 1) := by decide +kernel
theorem dX8_depthOf_81 : decode cX8_depthOf 81 = .ok (.iload_n 2, 1) := by decide +kernel
theorem dX8_depthOf_82 : decode cX8_depthOf 82 = .ok (.isub, 1) := by decide +kernel
theorem dX8_depthOf_83 : decode cX8_depthOf 83 = .ok (.ireturn, 1) := by decide +kernel
theorem dX8_laysSteps_0 : decode cX8_laysSteps 0 = .ok (.aload_n 0, 1) := by decide +kernel
theorem dX8_laysSteps_1 : decode cX8_laysSteps 1 = .ok (.iload_n 1, 1) := by decide +kernel
theorem dX8_laysSteps_2 : decode cX8_laysSteps 2 = .ok (.invokevirtual 158, 3) := by decide +kernel
theorem dX8_laysSteps_5 : decode cX8_laysSteps 5 = .ok (.istore_n 2, 1) := by decide +kernel
theorem dX8_laysSteps_6 : decode cX8_laysSteps 6 = .ok (.iload_n 2, 1) := by decide +kernel
theorem dX8_laysSteps_7 : decode cX8_laysSteps 7 = .ok (.aload_n 0, 1) := by decide +kernel
theorem dX8_laysSteps_8 : decode cX8_laysSteps 8 = .ok (.iload_n 1, 1) := by decide +kernel
theorem dX8_laysSteps_9 : decode cX8_laysSteps 9 = .ok (.invokevirtual 161, 3) := by decide +kernel
theorem dX8_laysSteps_12 : decode cX8_laysSteps 12 = .ok (.iadd, 1) := by decide +kernel
theorem dX8_laysSteps_13 : decode cX8_laysSteps 13 = .ok (.iconst 1, 1) := by decide +kernel
theorem dX8_laysSteps_14 : decode cX8_laysSteps 14 = .ok (.isub, 1) := by decide +kernel
theorem dX8_laysSteps_15 : decode cX8_laysSteps 15 = .ok (.istore_n 3, 1) := by decide +kernel
theorem dX8_laysSteps_16 : decode cX8_laysSteps 16 = .ok (.iconst 0, 1) := by decide +kernel
theorem dX8_laysSteps_17 : decode cX8_laysSteps 17 = .ok (.istore 4, 2) := by decide +kernel
theorem dX8_laysSteps_19 : decode cX8_laysSteps 19 = .ok (.aload_n 0, 1) := by decide +kernel
theorem dX8_laysSteps_20 : decode cX8_laysSteps 20 = .ok (.iconst 0, 1) := by decide +kernel
theorem dX8_laysSteps_21 : decode cX8_laysSteps 21 = .ok (.putfield 164, 3) := by decide +kernel
theorem dX8_laysSteps_24 : decode cX8_laysSteps 24 = .ok (.aload_n 0, 1) := by decide +kernel
theorem dX8_laysSteps_25 : decode cX8_laysSteps 25 = .ok (.iconst 0, 1) := by decide +kernel
theorem dX8_laysSteps_26 : decode cX8_laysSteps 26 = .ok (.putfield 167, 3) := by decide +kernel
theorem dX8_laysSteps_29 : decode cX8_laysSteps 29 = .ok (.iload_n 2, 1) := by decide +kernel
theorem dX8_laysSteps_30 : decode cX8_laysSteps 30 = .ok (.istore 5, 2) := by decide +kernel
theorem dX8_laysSteps_32 : decode cX8_laysSteps 32 = .ok (.iload 5, 2) := by decide +kernel
theorem dX8_laysSteps_34 : decode cX8_laysSteps 34 = .ok (.iload_n 3, 1) := by decide +kernel
theorem dX8_laysSteps_35 : decode cX8_laysSteps 35 = .ok (.if_icmp .ge 95, 3) := by decide +kernel
theorem dX8_laysSteps_38 : decode cX8_laysSteps 38 = .ok (.aload_n 0, 1) := by decide +kernel
theorem dX8_laysSteps_39 : decode cX8_laysSteps 39 = .ok (.iload 5, 2) := by decide +kernel
theorem dX8_laysSteps_41 : decode cX8_laysSteps 41 = .ok (.iconst 1, 1) := by decide +kernel
theorem dX8_laysSteps_42 : decode cX8_laysSteps 42 = .ok (.iadd, 1) := by decide +kernel
theorem dX8_laysSteps_43 : decode cX8_laysSteps 43 = .ok (.aload_n 0, 1) := by decide +kernel
theorem dX8_laysSteps_44 : decode cX8_laysSteps 44 = .ok (.iload_n 1, 1) := by decide +kernel
theorem dX8_laysSteps_45 : decode cX8_laysSteps 45 = .ok (.iload 5, 2) := by decide +kernel
theorem dX8_laysSteps_47 : decode cX8_laysSteps 47 = .ok (.iconst 1, 1) := by decide +kernel
theorem dX8_laysSteps_48 : decode cX8_laysSteps 48 = .ok (.iadd, 1) := by decide +kernel
theorem dX8_laysSteps_49 : decode cX8_laysSteps 49 = .ok (.invokevirtual 155, 3) := by decide +kernel
theorem dX8_laysSteps_52 : decode cX8_laysSteps 52 = .ok (.invokevirtual 121, 3) := by decide +kernel
theorem dX8_laysSteps_55 : decode cX8_laysSteps 55 = .ok (.aload_n 0, 1) := by decide +kernel
theorem dX8_laysSteps_56 : decode cX8_laysSteps 56 = .ok (.iload 5, 2) := by decide +kernel
theorem dX8_laysSteps_58 : decode cX8_laysSteps 58 = .ok (.aload_n 0, 1) := by decide +kernel
theorem dX8_laysSteps_59 : decode cX8_laysSteps 59 = .ok (.iload_n 1, 1) := by decide +kernel
theorem dX8_laysSteps_60 : decode cX8_laysSteps 60 = .ok (.iload 5, 2) := by decide +kernel
theorem dX8_laysSteps_62 : decode cX8_laysSteps 62 = .ok (.invokevirtual 155, 3) := by decide +kernel
theorem dX8_laysSteps_65 : decode cX8_laysSteps 65 = .ok (.invokevirtual 121, 3) := by decide +kernel
theorem dX8_laysSteps_68 : decode cX8_laysSteps 68 = .ok (.isub, 1) := by decide +kernel
theorem dX8_laysSteps_69 : decode cX8_laysSteps 69 = .ok (.istore 6, 2) := by decide +kernel
theorem dX8_laysSteps_71 : decode cX8_laysSteps 71 = .ok (.iload 6, 2) := by decide +kernel
theorem dX8_laysSteps_73 : decode cX8_laysSteps 73 = .ok (.ifCond .eq 51, 3) := by decide +kernel
theorem dX8_laysSteps_76 : decode cX8_laysSteps 76 = .ok (.iload 6, 2) := by decide +kernel
theorem dX8_laysSteps_78 : decode cX8_laysSteps 78 = .ok (.ifCond .le 7, 3) := by decide +kernel
theorem dX8_laysSteps_81 : decode cX8_laysSteps 81 = .ok (.iconst 1, 1) := by decide +kernel
theorem dX8_laysSteps_82 : decode cX8_laysSteps 82 = .ok (.goto 4, 3) := by decide +kernel
theorem dX8_laysSteps_85 : decode cX8_laysSteps 85 = .ok (.iconst (-1), 1) := by decide +kernel
theorem dX8_laysSteps_86 : decode cX8_laysSteps 86 = .ok (.istore 7, 2) := by decide +kernel
theorem dX8_laysSteps_88 : decode cX8_laysSteps 88 = .ok (.aload_n 0, 1) := by decide +kernel
theorem dX8_laysSteps_89 : decode cX8_laysSteps 89 = .ok (.dup, 1) := by decide +kernel
theorem dX8_laysSteps_90 : decode cX8_laysSteps 90 = .ok (.getfield 167, 3) := by decide +kernel
theorem dX8_laysSteps_93 : decode cX8_laysSteps 93 = .ok (.iload 7, 2) := by decide +kernel
theorem dX8_laysSteps_95 : decode cX8_laysSteps 95 = .ok (.iload 4, 2) := by decide +kernel
theorem dX8_laysSteps_97 : decode cX8_laysSteps 97 = .ok (.iadd, 1) := by decide +kernel
theorem dX8_laysSteps_98 : decode cX8_laysSteps 98 = .ok (.ifCond .ne 7, 3) := by decide +kernel
theorem dX8_laysSteps_101 : decode cX8_laysSteps 101 = .ok (.iconst 1, 1) := by decide +kernel
theorem dX8_laysSteps_102 : decode cX8_laysSteps 102 = .ok (.goto 4, 3) := by decide +kernel
theorem dX8_laysSteps_105 : decode cX8_laysSteps 105 = .ok (.iconst 0, 1) := by decide +kernel
theorem dX8_laysSteps_106 : decode cX8_laysSteps 106 = .ok (.iadd, 1) := by decide +kernel
theorem dX8_laysSteps_107 : decode cX8_laysSteps 107 = .ok (.putfield 167, 3) := by decide +kernel
theorem dX8_laysSteps_110 : decode cX8_laysSteps 110 = .ok (.aload_n 0, 1) := by decide +kernel
theorem dX8_laysSteps_111 : decode cX8_laysSteps 111 = .ok (.dup, 1) := by decide +kernel
theorem dX8_laysSteps_112 : decode cX8_laysSteps 112 = .ok (.getfield 164, 3) := by decide +kernel
theorem dX8_laysSteps_115 : decode cX8_laysSteps 115 = .ok (.iconst 1, 1) := by decide +kernel
theorem dX8_laysSteps_116 : decode cX8_laysSteps 116 = .ok (.iadd, 1) := by decide +kernel
theorem dX8_laysSteps_117 : decode cX8_laysSteps 117 = .ok (.putfield 164, 3) := by decide +kernel
theorem dX8_laysSteps_120 : decode cX8_laysSteps 120 = .ok (.iload 7, 2) := by decide +kernel
theorem dX8_laysSteps_122 : decode cX8_laysSteps 122 = .ok (.istore 4, 2) := by decide +kernel
theorem dX8_laysSteps_124 : decode cX8_laysSteps 124 = .ok (.iinc 5 1, 3) := by decide +kernel
theorem dX8_laysSteps_127 : decode cX8_laysSteps 127 = .ok (.goto (-95), 3) := by decide +kernel
theorem dX8_laysSteps_130 : decode cX8_laysSteps 130 = .ok (.return_, 1) := by decide +kernel
theorem dX8_turnsOf_0 : decode cX8_turnsOf 0 = .ok (.aload_n 0, 1) := by decide +kernel
theorem dX8_turnsOf_1 : decode cX8_turnsOf 1 = .ok (.iload_n 1, 1) := by decide +kernel
theorem dX8_turnsOf_2 : decode cX8_turnsOf 2 = .ok (.invokevirtual 170, 3) := by decide +kernel
theorem dX8_turnsOf_5 : decode cX8_turnsOf 5 = .ok (.aload_n 0, 1) := by decide +kernel
theorem dX8_turnsOf_6 : decode cX8_turnsOf 6 = .ok (.getfield 167, 3) := by decide +kernel
theorem dX8_turnsOf_9 : decode cX8_turnsOf 9 = .ok (.ireturn, 1) := by decide +kernel
theorem dX8_kindOf_0 : decode cX8_kindOf 0 = .ok (.aload_n 0, 1) := by decide +kernel
theorem dX8_kindOf_1 : decode cX8_kindOf 1 = .ok (.iload_n 1, 1) := by decide +kernel
theorem dX8_kindOf_2 : decode cX8_kindOf 2 = .ok (.invokevirtual 173, 3) := by decide +kernel
theorem dX8_kindOf_5 : decode cX8_kindOf 5 = .ok (.iconst 1, 1) := by decide +kernel
theorem dX8_kindOf_6 : decode cX8_kindOf 6 = .ok (.if_icmp .gt 5, 3) := by decide +kernel
theorem dX8_kindOf_9 : decode cX8_kindOf 9 = .ok (.iconst 0, 1) := by decide +kernel
theorem dX8_kindOf_10 : decode cX8_kindOf 10 = .ok (.ireturn, 1) := by decide +kernel
theorem dX8_kindOf_11 : decode cX8_kindOf 11 = .ok (.aload_n 0, 1) := by decide +kernel
theorem dX8_kindOf_12 : decode cX8_kindOf 12 = .ok (.iload_n 1, 1) := by decide +kernel
theorem dX8_kindOf_13 : decode cX8_kindOf 13 = .ok (.invokevirtual 170, 3) := by decide +kernel
theorem dX8_kindOf_16 : decode cX8_kindOf 16 = .ok (.aload_n 0, 1) := by decide +kernel
theorem dX8_kindOf_17 : decode cX8_kindOf 17 = .ok (.getfield 167, 3) := by decide +kernel
theorem dX8_kindOf_20 : decode cX8_kindOf 20 = .ok (.ifCond .ne 7, 3) := by decide +kernel
theorem dX8_kindOf_23 : decode cX8_kindOf 23 = .ok (.iconst 1, 1) := by decide +kernel
theorem dX8_kindOf_24 : decode cX8_kindOf 24 = .ok (.goto 21, 3) := by decide +kernel
theorem dX8_kindOf_27 : decode cX8_kindOf 27 = .ok (.iconst 2, 1) := by decide +kernel
theorem dX8_kindOf_28 : decode cX8_kindOf 28 = .ok (.aload_n 0, 1) := by decide +kernel
theorem dX8_kindOf_29 : decode cX8_kindOf 29 = .ok (.getfield 167, 3) := by decide +kernel
theorem dX8_kindOf_32 : decode cX8_kindOf 32 = .ok (.imul, 1) := by decide +kernel
theorem dX8_kindOf_33 : decode cX8_kindOf 33 = .ok (.aload_n 0, 1) := by decide +kernel
theorem dX8_kindOf_34 : decode cX8_kindOf 34 = .ok (.getfield 164, 3) := by decide +kernel
theorem dX8_kindOf_37 : decode cX8_kindOf 37 = .ok (.if_icmp .lt 7, 3) := by decide +kernel
theorem dX8_kindOf_40 : decode cX8_kindOf 40 = .ok (.iconst 2, 1) := by decide +kernel
theorem dX8_kindOf_41 : decode cX8_kindOf 41 = .ok (.goto 4, 3) := by decide +kernel
theorem dX8_kindOf_44 : decode cX8_kindOf 44 = .ok (.iconst 3, 1) := by decide +kernel
theorem dX8_kindOf_45 : decode cX8_kindOf 45 = .ok (.ireturn, 1) := by decide +kernel
theorem dX8_worthOfTrack_0 : decode cX8_worthOfTrack 0 = .ok (.iconst 0, 1) := by decide +kernel
theorem dX8_worthOfTrack_1 : decode cX8_worthOfTrack 1 = .ok (.istore_n 2, 1) := by decide +kernel
theorem dX8_worthOfTrack_2 : decode cX8_worthOfTrack 2 = .ok (.iconst 0, 1) := by decide +kernel
theorem dX8_worthOfTrack_3 : decode cX8_worthOfTrack 3 = .ok (.istore_n 3, 1) := by decide +kernel
theorem dX8_worthOfTrack_4 : decode cX8_worthOfTrack 4 = .ok (.iload_n 3, 1) := by decide +kernel
theorem dX8_worthOfTrack_5 : decode cX8_worthOfTrack 5 = .ok (.aload_n 0, 1) := by decide +kernel
theorem dX8_worthOfTrack_6 : decode cX8_worthOfTrack 6 = .ok (.getfield 7, 3) := by decide +kernel
theorem dX8_worthOfTrack_9 : decode cX8_worthOfTrack 9 = .ok (.iconst 0, 1) := by decide +kernel
theorem dX8_worthOfTrack_10 : decode cX8_worthOfTrack 10 = .ok (.iaload, 1) := by decide +kernel
theorem dX8_worthOfTrack_11 : decode cX8_worthOfTrack 11 = .ok (.if_icmp .ge 38, 3) := by decide +kernel
theorem dX8_worthOfTrack_14 : decode cX8_worthOfTrack 14 = .ok (.aload_n 0, 1) := by decide +kernel
theorem dX8_worthOfTrack_15 : decode cX8_worthOfTrack 15 = .ok (.iload_n 1, 1) := by decide +kernel
theorem dX8_worthOfTrack_16 : decode cX8_worthOfTrack 16 = .ok (.iload_n 3, 1) := by decide +kernel
theorem dX8_worthOfTrack_17 : decode cX8_worthOfTrack 17 = .ok (.invokevirtual 155, 3) := by decide +kernel
theorem dX8_worthOfTrack_20 : decode cX8_worthOfTrack 20 = .ok (.istore 4, 2) := by decide +kernel
theorem dX8_worthOfTrack_22 : decode cX8_worthOfTrack 22 = .ok (.iload_n 2, 1) := by decide +kernel
theorem dX8_worthOfTrack_23 : decode cX8_worthOfTrack 23 = .ok (.iload 4, 2) := by decide +kernel
theorem dX8_worthOfTrack_25 : decode cX8_worthOfTrack 25 = .ok (.bipush (-9), 2) := by decide +kernel
theorem dX8_worthOfTrack_27 : decode cX8_worthOfTrack 27 = .ok (.if_icmp .ne 7, 3) := by decide +kernel
theorem dX8_worthOfTrack_30 : decode cX8_worthOfTrack 30 = .ok (.iconst 0, 1) := by decide +kernel
theorem dX8_worthOfTrack_31 : decode cX8_worthOfTrack 31 = .ok (.goto 10, 3) := by decide +kernel
theorem dX8_worthOfTrack_34 : decode cX8_worthOfTrack 34 = .ok (.aload_n 0, 1) := by decide +kernel
theorem dX8_worthOfTrack_35 : decode cX8_worthOfTrack 35 = .ok (.iload_n 3, 1) := by decide +kernel
theorem dX8_worthOfTrack_36 : decode cX8_worthOfTrack 36 = .ok (.iload 4, 2) := by decide +kernel
theorem dX8_worthOfTrack_38 : decode cX8_worthOfTrack 38 = .ok (.invokevirtual 176, 3) := by decide +kernel
theorem dX8_worthOfTrack_41 : decode cX8_worthOfTrack 41 = .ok (.iadd, 1) := by decide +kernel
theorem dX8_worthOfTrack_42 : decode cX8_worthOfTrack 42 = .ok (.istore_n 2, 1) := by decide +kernel
theorem dX8_worthOfTrack_43 : decode cX8_worthOfTrack 43 = .ok (.iinc 3 1, 3) := by decide +kernel
theorem dX8_worthOfTrack_46 : decode cX8_worthOfTrack 46 = .ok (.goto (-42), 3) := by decide +kernel
theorem dX8_worthOfTrack_49 : decode cX8_worthOfTrack 49 = .ok (.iload_n 2, 1) := by decide +kernel
theorem dX8_worthOfTrack_50 : decode cX8_worthOfTrack 50 = .ok (.aload_n 0, 1) := by decide +kernel
theorem dX8_worthOfTrack_51 : decode cX8_worthOfTrack 51 = .ok (.iload_n 1, 1) := by decide +kernel
theorem dX8_worthOfTrack_52 : decode cX8_worthOfTrack 52 = .ok (.invokevirtual 179, 3) := by decide +kernel
theorem dX8_worthOfTrack_55 : decode cX8_worthOfTrack 55 = .ok (.iconst 1, 1) := by decide +kernel
theorem dX8_worthOfTrack_56 : decode cX8_worthOfTrack 56 = .ok (.iadd, 1) := by decide +kernel
theorem dX8_worthOfTrack_57 : decode cX8_worthOfTrack 57 = .ok (.imul, 1) := by decide +kernel
theorem dX8_worthOfTrack_58 : decode cX8_worthOfTrack 58 = .ok (.aload_n 0, 1) := by decide +kernel
theorem dX8_worthOfTrack_59 : decode cX8_worthOfTrack 59 = .ok (.iload_n 1, 1) := by decide +kernel
theorem dX8_worthOfTrack_60 : decode cX8_worthOfTrack 60 = .ok (.invokevirtual 173, 3) := by decide +kernel
theorem dX8_worthOfTrack_63 : decode cX8_worthOfTrack 63 = .ok (.isub, 1) := by decide +kernel
theorem dX8_worthOfTrack_64 : decode cX8_worthOfTrack 64 = .ok (.ireturn, 1) := by decide +kernel
theorem dX8_level_0 : decode cX8_level 0 = .ok (.aload_n 0, 1) := by decide +kernel
theorem dX8_level_1 : decode cX8_level 1 = .ok (.iconst 0, 1) := by decide +kernel
theorem dX8_level_2 : decode cX8_level 2 = .ok (.putfield 52, 3) := by decide +kernel
theorem dX8_level_5 : decode cX8_level 5 = .ok (.aload_n 0, 1) := by decide +kernel
theorem dX8_level_6 : decode cX8_level 6 = .ok (.iload_n 1, 1) := by decide +kernel
theorem dX8_level_7 : decode cX8_level 7 = .ok (.iload_n 2, 1) := by decide +kernel
theorem dX8_level_8 : decode cX8_level 8 = .ok (.invokevirtual 110, 3) := by decide +kernel
theorem dX8_level_11 : decode cX8_level 11 = .ok (.ifCond .eq 12, 3) := by decide +kernel
theorem dX8_level_14 : decode cX8_level 14 = .ok (.aload_n 0, 1) := by decide +kernel
theorem dX8_level_15 : decode cX8_level 15 = .ok (.iload_n 1, 1) := by decide +kernel
theorem dX8_level_16 : decode cX8_level 16 = .ok (.iload_n 2, 1) := by decide +kernel
theorem dX8_level_17 : decode cX8_level 17 = .ok (.invokevirtual 118, 3) := by decide +kernel
theorem dX8_level_20 : decode cX8_level 20 = .ok (.goto 4, 3) := by decide +kernel
theorem dX8_level_23 : decode cX8_level 23 = .ok (.iconst (-1), 1) := by decide +kernel
theorem dX8_level_24 : decode cX8_level 24 = .ok (.ireturn, 1) := by decide +kernel
theorem dX8_peak_0 : decode cX8_peak 0 = .ok (.aload_n 0, 1) := by decide +kernel
theorem dX8_peak_1 : decode cX8_peak 1 = .ok (.iconst 0, 1) := by decide +kernel
theorem dX8_peak_2 : decode cX8_peak 2 = .ok (.putfield 52, 3) := by decide +kernel
theorem dX8_peak_5 : decode cX8_peak 5 = .ok (.iload_n 1, 1) := by decide +kernel
theorem dX8_peak_6 : decode cX8_peak 6 = .ok (.iconst 0, 1) := by decide +kernel
theorem dX8_peak_7 : decode cX8_peak 7 = .ok (.aload_n 0, 1) := by decide +kernel
theorem dX8_peak_8 : decode cX8_peak 8 = .ok (.getfield 7, 3) := by decide +kernel
theorem dX8_peak_11 : decode cX8_peak 11 = .ok (.iconst 0, 1) := by decide +kernel
theorem dX8_peak_12 : decode cX8_peak 12 = .ok (.iaload, 1) := by decide +kernel
theorem dX8_peak_13 : decode cX8_peak 13 = .ok (.iconst 1, 1) := by decide +kernel
theorem dX8_peak_14 : decode cX8_peak 14 = .ok (.isub, 1) := by decide +kernel
theorem dX8_peak_15 : decode cX8_peak 15 = .ok (.invokestatic 56, 3) := by decide +kernel
theorem dX8_peak_18 : decode cX8_peak 18 = .ok (.ifCond .eq 16, 3) := by decide +kernel
theorem dX8_peak_21 : decode cX8_peak 21 = .ok (.iload_n 2, 1) := by decide +kernel
theorem dX8_peak_22 : decode cX8_peak 22 = .ok (.ifCond .lt 12, 3) := by decide +kernel
theorem dX8_peak_25 : decode cX8_peak 25 = .ok (.iload_n 3, 1) := by decide +kernel
theorem dX8_peak_26 : decode cX8_peak 26 = .ok (.iconst 0, 1) := by decide +kernel
theorem dX8_peak_27 : decode cX8_peak 27 = .ok (.iconst 4, 1) := by decide +kernel
theorem dX8_peak_28 : decode cX8_peak 28 = .ok (.invokestatic 56, 3) := by decide +kernel
theorem dX8_peak_31 : decode cX8_peak 31 = .ok (.ifCond .ne 6, 3) := by decide +kernel
theorem dX8_peak_34 : decode cX8_peak 34 = .ok (.ldc 182, 2) := by decide +kernel
theorem dX8_peak_36 : decode cX8_peak 36 = .ok (.ireturn, 1) := by decide +kernel
theorem dX8_peak_37 : decode cX8_peak 37 = .ok (.aload_n 0, 1) := by decide +kernel
theorem dX8_peak_38 : decode cX8_peak 38 = .ok (.invokevirtual 183, 3) := by decide +kernel
theorem dX8_peak_41 : decode cX8_peak 41 = .ok (.iload_n 2, 1) := by decide +kernel
theorem dX8_peak_42 : decode cX8_peak 42 = .ok (.aload_n 0, 1) := by decide +kernel
theorem dX8_peak_43 : decode cX8_peak 43 = .ok (.getfield 33, 3) := by decide +kernel
theorem dX8_peak_46 : decode cX8_peak 46 = .ok (.iload_n 1, 1) := by decide +kernel
theorem dX8_peak_47 : decode cX8_peak 47 = .ok (.iaload, 1) := by decide +kernel
theorem dX8_peak_48 : decode cX8_peak 48 = .ok (.if_icmp .lt 6, 3) := by decide +kernel
theorem dX8_peak_51 : decode cX8_peak 51 = .ok (.bipush (-9), 2) := by decide +kernel
theorem dX8_peak_53 : decode cX8_peak 53 = .ok (.ireturn, 1) := by decide +kernel
theorem dX8_peak_54 : decode cX8_peak 54 = .ok (.iload_n 3, 1) := by decide +kernel
theorem dX8_peak_55 : decode cX8_peak 55 = .ok (.tableswitch 67 0 3 #[29, 41, 48, 55], 29) := by decide +kernel
theorem dX8_peak_84 : decode cX8_peak 84 = .ok (.aload_n 0, 1) := by decide +kernel
theorem dX8_peak_85 : decode cX8_peak 85 = .ok (.getfield 36, 3) := by decide +kernel
theorem dX8_peak_88 : decode cX8_peak 88 = .ok (.bipush 6, 2) := by decide +kernel
theorem dX8_peak_90 : decode cX8_peak 90 = .ok (.iload_n 1, 1) := by decide +kernel
theorem dX8_peak_91 : decode cX8_peak 91 = .ok (.imul, 1) := by decide +kernel
theorem dX8_peak_92 : decode cX8_peak 92 = .ok (.iload_n 2, 1) := by decide +kernel
theorem dX8_peak_93 : decode cX8_peak 93 = .ok (.iadd, 1) := by decide +kernel
theorem dX8_peak_94 : decode cX8_peak 94 = .ok (.iaload, 1) := by decide +kernel
theorem dX8_peak_95 : decode cX8_peak 95 = .ok (.ireturn, 1) := by decide +kernel
theorem dX8_peak_96 : decode cX8_peak 96 = .ok (.aload_n 0, 1) := by decide +kernel
theorem dX8_peak_97 : decode cX8_peak 97 = .ok (.iload_n 1, 1) := by decide +kernel
theorem dX8_peak_98 : decode cX8_peak 98 = .ok (.iload_n 2, 1) := by decide +kernel
theorem dX8_peak_99 : decode cX8_peak 99 = .ok (.invokevirtual 121, 3) := by decide +kernel
theorem dX8_peak_102 : decode cX8_peak 102 = .ok (.ireturn, 1) := by decide +kernel
theorem dX8_peak_103 : decode cX8_peak 103 = .ok (.aload_n 0, 1) := by decide +kernel
theorem dX8_peak_104 : decode cX8_peak 104 = .ok (.iload_n 1, 1) := by decide +kernel
theorem dX8_peak_105 : decode cX8_peak 105 = .ok (.iload_n 2, 1) := by decide +kernel
theorem dX8_peak_106 : decode cX8_peak 106 = .ok (.invokevirtual 176, 3) := by decide +kernel
theorem dX8_peak_109 : decode cX8_peak 109 = .ok (.ireturn, 1) := by decide +kernel
theorem dX8_peak_110 : decode cX8_peak 110 = .ok (.aload_n 0, 1) := by decide +kernel
theorem dX8_peak_111 : decode cX8_peak 111 = .ok (.getfield 42, 3) := by decide +kernel
theorem dX8_peak_114 : decode cX8_peak 114 = .ok (.bipush 6, 2) := by decide +kernel
theorem dX8_peak_116 : decode cX8_peak 116 = .ok (.iload_n 1, 1) := by decide +kernel
theorem dX8_peak_117 : decode cX8_peak 117 = .ok (.imul, 1) := by decide +kernel
theorem dX8_peak_118 : decode cX8_peak 118 = .ok (.iload_n 2, 1) := by decide +kernel
theorem dX8_peak_119 : decode cX8_peak 119 = .ok (.iadd, 1) := by decide +kernel
theorem dX8_peak_120 : decode cX8_peak 120 = .ok (.iaload, 1) := by decide +kernel
theorem dX8_peak_121 : decode cX8_peak 121 = .ok (.ireturn, 1) := by decide +kernel
theorem dX8_peak_122 : decode cX8_peak 122 = .ok (.aload_n 0, 1) := by decide +kernel
theorem dX8_peak_123 : decode cX8_peak 123 = .ok (.getfield 39, 3) := by decide +kernel
theorem dX8_peak_126 : decode cX8_peak 126 = .ok (.bipush 6, 2) := by decide +kernel
theorem dX8_peak_128 : decode cX8_peak 128 = .ok (.iload_n 1, 1) := by decide +kernel
theorem dX8_peak_129 : decode cX8_peak 129 = .ok (.imul, 1) := by decide +kernel
theorem dX8_peak_130 : decode cX8_peak 130 = .ok (.iload_n 2, 1) := by decide +kernel
theorem dX8_peak_131 : decode cX8_peak 131 = .ok (.iadd, 1) := by decide +kernel
theorem dX8_peak_132 : decode cX8_peak 132 = .ok (.iaload, 1) := by decide +kernel
theorem dX8_peak_133 : decode cX8_peak 133 = .ok (.ireturn, 1) := by decide +kernel
theorem dX8_sumOf_0 : decode cX8_sumOf 0 = .ok (.iconst 0, 1) := by decide +kernel
theorem dX8_sumOf_1 : decode cX8_sumOf 1 = .ok (.istore_n 3, 1) := by decide +kernel
theorem dX8_sumOf_2 : decode cX8_sumOf 2 = .ok (.iconst 0, 1) := by decide +kernel
theorem dX8_sumOf_3 : decode cX8_sumOf 3 = .ok (.istore 4, 2) := by decide +kernel
theorem dX8_sumOf_5 : decode cX8_sumOf 5 = .ok (.iload 4, 2) := by decide +kernel
theorem dX8_sumOf_7 : decode cX8_sumOf 7 = .ok (.aload_n 0, 1) := by decide +kernel
theorem dX8_sumOf_8 : decode cX8_sumOf 8 = .ok (.getfield 33, 3) := by decide +kernel
theorem dX8_sumOf_11 : decode cX8_sumOf 11 = .ok (.iload_n 1, 1) := by decide +kernel
theorem dX8_sumOf_12 : decode cX8_sumOf 12 = .ok (.iaload, 1) := by decide +kernel
theorem dX8_sumOf_13 : decode cX8_sumOf 13 = .ok (.if_icmp .ge 61, 3) := by decide +kernel
theorem dX8_sumOf_16 : decode cX8_sumOf 16 = .ok (.aload_n 0, 1) := by decide +kernel
theorem dX8_sumOf_17 : decode cX8_sumOf 17 = .ok (.aload_n 0, 1) := by decide +kernel
theorem dX8_sumOf_18 : decode cX8_sumOf 18 = .ok (.getfield 42, 3) := by decide +kernel
theorem dX8_sumOf_21 : decode cX8_sumOf 21 = .ok (.bipush 6, 2) := by decide +kernel
theorem dX8_sumOf_23 : decode cX8_sumOf 23 = .ok (.iload_n 1, 1) := by decide +kernel
theorem dX8_sumOf_24 : decode cX8_sumOf 24 = .ok (.imul, 1) := by decide +kernel
theorem dX8_sumOf_25 : decode cX8_sumOf 25 = .ok (.iload 4, 2) := by decide +kernel
theorem dX8_sumOf_27 : decode cX8_sumOf 27 = .ok (.iadd, 1) := by decide +kernel
theorem dX8_sumOf_28 : decode cX8_sumOf 28 = .ok (.iaload, 1) := by decide +kernel
theorem dX8_sumOf_29 : decode cX8_sumOf 29 = .ok (.invokevirtual 161, 3) := by decide +kernel
theorem dX8_sumOf_32 : decode cX8_sumOf 32 = .ok (.aload_n 0, 1) := by decide +kernel
theorem dX8_sumOf_33 : decode cX8_sumOf 33 = .ok (.getfield 7, 3) := by decide +kernel
theorem dX8_sumOf_36 : decode cX8_sumOf 36 = .ok (.iconst 4, 1) := by decide +kernel
theorem dX8_sumOf_37 : decode cX8_sumOf 37 = .ok (.iaload, 1) := by decide +kernel
theorem dX8_sumOf_38 : decode cX8_sumOf 38 = .ok (.if_icmp .lt 7, 3) := by decide +kernel
theorem dX8_sumOf_41 : decode cX8_sumOf 41 = .ok (.iconst 1, 1) := by decide +kernel
theorem dX8_sumOf_42 : decode cX8_sumOf 42 = .ok (.goto 4, 3) := by decide +kernel
theorem dX8_sumOf_45 : decode cX8_sumOf 45 = .ok (.iconst 0, 1) := by decide +kernel
theorem dX8_sumOf_46 : decode cX8_sumOf 46 = .ok (.istore 5, 2) := by decide +kernel
theorem dX8_sumOf_48 : decode cX8_sumOf 48 = .ok (.iload_n 3, 1) := by decide +kernel
theorem dX8_sumOf_49 : decode cX8_sumOf 49 = .ok (.iload 5, 2) := by decide +kernel
theorem dX8_sumOf_51 : decode cX8_sumOf 51 = .ok (.iload_n 2, 1) := by decide +kernel
theorem dX8_sumOf_52 : decode cX8_sumOf 52 = .ok (.if_icmp .ne 13, 3) := by decide +kernel
theorem dX8_sumOf_55 : decode cX8_sumOf 55 = .ok (.aload_n 0, 1) := by decide +kernel
theorem dX8_sumOf_56 : decode cX8_sumOf 56 = .ok (.iload_n 1, 1) := by decide +kernel
theorem dX8_sumOf_57 : decode cX8_sumOf 57 = .ok (.iload 4, 2) := by decide +kernel
theorem dX8_sumOf_59 : decode cX8_sumOf 59 = .ok (.invokevirtual 176, 3) := by decide +kernel
theorem dX8_sumOf_62 : decode cX8_sumOf 62 = .ok (.goto 4, 3) := by decide +kernel
theorem dX8_sumOf_65 : decode cX8_sumOf 65 = .ok (.iconst 0, 1) := by decide +kernel
theorem dX8_sumOf_66 : decode cX8_sumOf 66 = .ok (.iadd, 1) := by decide +kernel
theorem dX8_sumOf_67 : decode cX8_sumOf 67 = .ok (.istore_n 3, 1) := by decide +kernel
theorem dX8_sumOf_68 : decode cX8_sumOf 68 = .ok (.iinc 4 1, 3) := by decide +kernel
theorem dX8_sumOf_71 : decode cX8_sumOf 71 = .ok (.goto (-66), 3) := by decide +kernel
theorem dX8_sumOf_74 : decode cX8_sumOf 74 = .ok (.iload_n 3, 1) := by decide +kernel
theorem dX8_sumOf_75 : decode cX8_sumOf 75 = .ok (.ireturn, 1) := by decide +kernel
theorem dX8_bornIn_0 : decode cX8_bornIn 0 = .ok (.iconst 0, 1) := by decide +kernel
theorem dX8_bornIn_1 : decode cX8_bornIn 1 = .ok (.istore_n 3, 1) := by decide +kernel
theorem dX8_bornIn_2 : decode cX8_bornIn 2 = .ok (.iconst 0, 1) := by decide +kernel
theorem dX8_bornIn_3 : decode cX8_bornIn 3 = .ok (.istore 4, 2) := by decide +kernel
theorem dX8_bornIn_5 : decode cX8_bornIn 5 = .ok (.iload 4, 2) := by decide +kernel
theorem dX8_bornIn_7 : decode cX8_bornIn 7 = .ok (.aload_n 0, 1) := by decide +kernel
theorem dX8_bornIn_8 : decode cX8_bornIn 8 = .ok (.getfield 145, 3) := by decide +kernel
theorem dX8_bornIn_11 : decode cX8_bornIn 11 = .ok (.if_icmp .ge 48, 3) := by decide +kernel
theorem dX8_bornIn_14 : decode cX8_bornIn 14 = .ok (.aload_n 0, 1) := by decide +kernel
theorem dX8_bornIn_15 : decode cX8_bornIn 15 = .ok (.iload 4, 2) := by decide +kernel
theorem dX8_bornIn_17 : decode cX8_bornIn 17 = .ok (.invokevirtual 158, 3) := by decide +kernel
theorem dX8_bornIn_20 : decode cX8_bornIn 20 = .ok (.iload_n 2, 1) := by decide +kernel
theorem dX8_bornIn_21 : decode cX8_bornIn 21 = .ok (.ifCond .eq 14, 3) := by decide +kernel
theorem dX8_bornIn_24 : decode cX8_bornIn 24 = .ok (.aload_n 0, 1) := by decide +kernel
theorem dX8_bornIn_25 : decode cX8_bornIn 25 = .ok (.iload 4, 2) := by decide +kernel
theorem dX8_bornIn_27 : decode cX8_bornIn 27 = .ok (.invokevirtual 161, 3) := by decide +kernel
theorem dX8_bornIn_30 : decode cX8_bornIn 30 = .ok (.iconst 1, 1) := by decide +kernel
theorem dX8_bornIn_31 : decode cX8_bornIn 31 = .ok (.isub, 1) := by decide +kernel
theorem dX8_bornIn_32 : decode cX8_bornIn 32 = .ok (.goto 4, 3) := by decide +kernel
theorem dX8_bornIn_35 : decode cX8_bornIn 35 = .ok (.iconst 0, 1) := by decide +kernel
theorem dX8_bornIn_36 : decode cX8_bornIn 36 = .ok (.iadd, 1) := by decide +kernel
theorem dX8_bornIn_37 : decode cX8_bornIn 37 = .ok (.istore 5, 2) := by decide +kernel
theorem dX8_bornIn_39 : decode cX8_bornIn 39 = .ok (.iload_n 3, 1) := by decide +kernel
theorem dX8_bornIn_40 : decode cX8_bornIn 40 = .ok (.iload 5, 2) := by decide +kernel
theorem dX8_bornIn_42 : decode cX8_bornIn 42 = .ok (.iload_n 1, 1) := by decide +kernel
theorem dX8_bornIn_43 : decode cX8_bornIn 43 = .ok (.if_icmp .ne 7, 3) := by decide +kernel
theorem dX8_bornIn_46 : decode cX8_bornIn 46 = .ok (.iconst 1, 1) := by decide +kernel
theorem dX8_bornIn_47 : decode cX8_bornIn 47 = .ok (.goto 4, 3) := by decide +kernel
theorem dX8_bornIn_50 : decode cX8_bornIn 50 = .ok (.iconst 0, 1) := by decide +kernel
theorem dX8_bornIn_51 : decode cX8_bornIn 51 = .ok (.iadd, 1) := by decide +kernel
theorem dX8_bornIn_52 : decode cX8_bornIn 52 = .ok (.istore_n 3, 1) := by decide +kernel
theorem dX8_bornIn_53 : decode cX8_bornIn 53 = .ok (.iinc 4 1, 3) := by decide +kernel
theorem dX8_bornIn_56 : decode cX8_bornIn 56 = .ok (.goto (-51), 3) := by decide +kernel
theorem dX8_bornIn_59 : decode cX8_bornIn 59 = .ok (.iload_n 3, 1) := by decide +kernel
theorem dX8_bornIn_60 : decode cX8_bornIn 60 = .ok (.ireturn, 1) := by decide +kernel
theorem dX8_frame_0 : decode cX8_frame 0 = .ok (.aload_n 0, 1) := by decide +kernel
theorem dX8_frame_1 : decode cX8_frame 1 = .ok (.iconst 0, 1) := by decide +kernel
theorem dX8_frame_2 : decode cX8_frame 2 = .ok (.putfield 52, 3) := by decide +kernel
theorem dX8_frame_5 : decode cX8_frame 5 = .ok (.iload_n 1, 1) := by decide +kernel
theorem dX8_frame_6 : decode cX8_frame 6 = .ok (.iconst 0, 1) := by decide +kernel
theorem dX8_frame_7 : decode cX8_frame 7 = .ok (.aload_n 0, 1) := by decide +kernel
theorem dX8_frame_8 : decode cX8_frame 8 = .ok (.getfield 7, 3) := by decide +kernel
theorem dX8_frame_11 : decode cX8_frame 11 = .ok (.iconst 0, 1) := by decide +kernel
theorem dX8_frame_12 : decode cX8_frame 12 = .ok (.iaload, 1) := by decide +kernel
theorem dX8_frame_13 : decode cX8_frame 13 = .ok (.iconst 1, 1) := by decide +kernel
theorem dX8_frame_14 : decode cX8_frame 14 = .ok (.isub, 1) := by decide +kernel
theorem dX8_frame_15 : decode cX8_frame 15 = .ok (.invokestatic 56, 3) := by decide +kernel
theorem dX8_frame_18 : decode cX8_frame 18 = .ok (.ifCond .eq 12, 3) := by decide +kernel
theorem dX8_frame_21 : decode cX8_frame 21 = .ok (.iload_n 2, 1) := by decide +kernel
theorem dX8_frame_22 : decode cX8_frame 22 = .ok (.iconst 0, 1) := by decide +kernel
theorem dX8_frame_23 : decode cX8_frame 23 = .ok (.iconst 4, 1) := by decide +kernel
theorem dX8_frame_24 : decode cX8_frame 24 = .ok (.invokestatic 56, 3) := by decide +kernel
theorem dX8_frame_27 : decode cX8_frame 27 = .ok (.ifCond .ne 5, 3) := by decide +kernel
theorem dX8_frame_30 : decode cX8_frame 30 = .ok (.iconst (-1), 1) := by decide +kernel
theorem dX8_frame_31 : decode cX8_frame 31 = .ok (.ireturn, 1) := by decide +kernel
theorem dX8_frame_32 : decode cX8_frame 32 = .ok (.aload_n 0, 1) := by decide +kernel
theorem dX8_frame_33 : decode cX8_frame 33 = .ok (.invokevirtual 183, 3) := by decide +kernel
theorem dX8_frame_36 : decode cX8_frame 36 = .ok (.iload_n 2, 1) := by decide +kernel
theorem dX8_frame_37 : decode cX8_frame 37 = .ok (.ifCond .ne 12, 3) := by decide +kernel
theorem dX8_frame_40 : decode cX8_frame 40 = .ok (.aload_n 0, 1) := by decide +kernel
theorem dX8_frame_41 : decode cX8_frame 41 = .ok (.getfield 33, 3) := by decide +kernel
theorem dX8_frame_44 : decode cX8_frame 44 = .ok (.iload_n 1, 1) := by decide +kernel
theorem dX8_frame_45 : decode cX8_frame 45 = .ok (.iaload, 1) := by decide +kernel
theorem dX8_frame_46 : decode cX8_frame 46 = .ok (.goto 41, 3) := by decide +kernel
theorem dX8_frame_49 : decode cX8_frame 49 = .ok (.iload_n 2, 1) := by decide +kernel
theorem dX8_frame_50 : decode cX8_frame 50 = .ok (.iconst 3, 1) := by decide +kernel
theorem dX8_frame_51 : decode cX8_frame 51 = .ok (.if_icmp .ge 21, 3) := by decide +kernel
theorem dX8_frame_54 : decode cX8_frame 54 = .ok (.aload_n 0, 1) := by decide +kernel
theorem dX8_frame_55 : decode cX8_frame 55 = .ok (.iload_n 1, 1) := by decide +kernel
theorem dX8_frame_56 : decode cX8_frame 56 = .ok (.iload_n 2, 1) := by decide +kernel
theorem dX8_frame_57 : decode cX8_frame 57 = .ok (.iconst 1, 1) := by decide +kernel
theorem dX8_frame_58 : decode cX8_frame 58 = .ok (.if_icmp .ne 7, 3) := by decide +kernel
theorem dX8_frame_61 : decode cX8_frame 61 = .ok (.iconst 1, 1) := by decide +kernel
theorem dX8_frame_62 : decode cX8_frame 62 = .ok (.goto 4, 3) := by decide +kernel
theorem dX8_frame_65 : decode cX8_frame 65 = .ok (.iconst 0, 1) := by decide +kernel
theorem dX8_frame_66 : decode cX8_frame 66 = .ok (.invokevirtual 186, 3) := by decide +kernel
theorem dX8_frame_69 : decode cX8_frame 69 = .ok (.goto 18, 3) := by decide +kernel
theorem dX8_frame_72 : decode cX8_frame 72 = .ok (.aload_n 0, 1) := by decide +kernel
theorem dX8_frame_73 : decode cX8_frame 73 = .ok (.iload_n 1, 1) := by decide +kernel
theorem dX8_frame_74 : decode cX8_frame 74 = .ok (.iload_n 2, 1) := by decide +kernel
theorem dX8_frame_75 : decode cX8_frame 75 = .ok (.iconst 4, 1) := by decide +kernel
theorem dX8_frame_76 : decode cX8_frame 76 = .ok (.if_icmp .ne 7, 3) := by decide +kernel
theorem dX8_frame_79 : decode cX8_frame 79 = .ok (.iconst 1, 1) := by decide +kernel
theorem dX8_frame_80 : decode cX8_frame 80 = .ok (.goto 4, 3) := by decide +kernel
theorem dX8_frame_83 : decode cX8_frame 83 = .ok (.iconst 0, 1) := by decide +kernel
theorem dX8_frame_84 : decode cX8_frame 84 = .ok (.invokevirtual 190, 3) := by decide +kernel
theorem dX8_frame_87 : decode cX8_frame 87 = .ok (.ireturn, 1) := by decide +kernel
theorem dX8_track_0 : decode cX8_track 0 = .ok (.aload_n 0, 1) := by decide +kernel
theorem dX8_track_1 : decode cX8_track 1 = .ok (.iconst 0, 1) := by decide +kernel
theorem dX8_track_2 : decode cX8_track 2 = .ok (.putfield 52, 3) := by decide +kernel
theorem dX8_track_5 : decode cX8_track 5 = .ok (.aload_n 0, 1) := by decide +kernel
theorem dX8_track_6 : decode cX8_track 6 = .ok (.invokevirtual 183, 3) := by decide +kernel
theorem dX8_track_9 : decode cX8_track 9 = .ok (.iload_n 1, 1) := by decide +kernel
theorem dX8_track_10 : decode cX8_track 10 = .ok (.iconst 0, 1) := by decide +kernel
theorem dX8_track_11 : decode cX8_track 11 = .ok (.aload_n 0, 1) := by decide +kernel
theorem dX8_track_12 : decode cX8_track 12 = .ok (.getfield 145, 3) := by decide +kernel
theorem dX8_track_15 : decode cX8_track 15 = .ok (.iconst 1, 1) := by decide +kernel
theorem dX8_track_16 : decode cX8_track 16 = .ok (.isub, 1) := by decide +kernel
theorem dX8_track_17 : decode cX8_track 17 = .ok (.invokestatic 56, 3) := by decide +kernel
theorem dX8_track_20 : decode cX8_track 20 = .ok (.ifCond .eq 13, 3) := by decide +kernel
theorem dX8_track_23 : decode cX8_track 23 = .ok (.iload_n 2, 1) := by decide +kernel
theorem dX8_track_24 : decode cX8_track 24 = .ok (.iconst 0, 1) := by decide +kernel
theorem dX8_track_25 : decode cX8_track 25 = .ok (.bipush 7, 2) := by decide +kernel
theorem dX8_track_27 : decode cX8_track 27 = .ok (.invokestatic 56, 3) := by decide +kernel
theorem dX8_track_30 : decode cX8_track 30 = .ok (.ifCond .ne 6, 3) := by decide +kernel
theorem dX8_track_33 : decode cX8_track 33 = .ok (.ldc 182, 2) := by decide +kernel
theorem dX8_track_35 : decode cX8_track 35 = .ok (.ireturn, 1) := by decide +kernel
theorem dX8_track_36 : decode cX8_track 36 = .ok (.aload_n 0, 1) := by decide +kernel
theorem dX8_track_37 : decode cX8_track 37 = .ok (.iload_n 1, 1) := by decide +kernel
theorem dX8_track_38 : decode cX8_track 38 = .ok (.invokevirtual 158, 3) := by decide +kernel
theorem dX8_track_41 : decode cX8_track 41 = .ok (.istore_n 3, 1) := by decide +kernel
theorem dX8_track_42 : decode cX8_track 42 = .ok (.iload_n 2, 1) := by decide +kernel
theorem dX8_track_43 : decode cX8_track 43 = .ok (.tableswitch 93 0 6 #[41, 43, 49, 69, 75, 81, 87], 41) := by decide +kernel
theorem dX8_track_84 : decode cX8_track 84 = .ok (.iload_n 3, 1) := by decide +kernel
theorem dX8_track_85 : decode cX8_track 85 = .ok (.ireturn, 1) := by decide +kernel
theorem dX8_track_86 : decode cX8_track 86 = .ok (.aload_n 0, 1) := by decide +kernel
theorem dX8_track_87 : decode cX8_track 87 = .ok (.iload_n 1, 1) := by decide +kernel
theorem dX8_track_88 : decode cX8_track 88 = .ok (.invokevirtual 161, 3) := by decide +kernel
theorem dX8_track_91 : decode cX8_track 91 = .ok (.ireturn, 1) := by decide +kernel
theorem dX8_track_92 : decode cX8_track 92 = .ok (.aload_n 0, 1) := by decide +kernel
theorem dX8_track_93 : decode cX8_track 93 = .ok (.iload_n 1, 1) := by decide +kernel
theorem dX8_track_94 : decode cX8_track 94 = .ok (.invokevirtual 161, 3) := by decide +kernel
theorem dX8_track_97 : decode cX8_track 97 = .ok (.aload_n 0, 1) := by decide +kernel
theorem dX8_track_98 : decode cX8_track 98 = .ok (.getfield 7, 3) := by decide +kernel
theorem dX8_track_101 : decode cX8_track 101 = .ok (.iconst 4, 1) := by decide +kernel
theorem dX8_track_102 : decode cX8_track 102 = .ok (.iaload, 1) := by decide +kernel
theorem dX8_track_103 : decode cX8_track 103 = .ok (.if_icmp .lt 7, 3) := by decide +kernel
theorem dX8_track_106 : decode cX8_track 106 = .ok (.iconst 1, 1) := by decide +kernel
theorem dX8_track_107 : decode cX8_track 107 = .ok (.goto 4, 3) := by decide +kernel
theorem dX8_track_110 : decode cX8_track 110 = .ok (.iconst 0, 1) := by decide +kernel
theorem dX8_track_111 : decode cX8_track 111 = .ok (.ireturn, 1) := by decide +kernel
theorem dX8_track_112 : decode cX8_track 112 = .ok (.aload_n 0, 1) := by decide +kernel
theorem dX8_track_113 : decode cX8_track 113 = .ok (.iload_n 1, 1) := by decide +kernel
theorem dX8_track_114 : decode cX8_track 114 = .ok (.invokevirtual 173, 3) := by decide +kernel
theorem dX8_track_117 : decode cX8_track 117 = .ok (.ireturn, 1) := by decide +kernel
theorem dX8_track_118 : decode cX8_track 118 = .ok (.aload_n 0, 1) := by decide +kernel
theorem dX8_track_119 : decode cX8_track 119 = .ok (.iload_n 1, 1) := by decide +kernel
theorem dX8_track_120 : decode cX8_track 120 = .ok (.invokevirtual 193, 3) := by decide +kernel
theorem dX8_track_123 : decode cX8_track 123 = .ok (.ireturn, 1) := by decide +kernel
theorem dX8_track_124 : decode cX8_track 124 = .ok (.aload_n 0, 1) := by decide +kernel
theorem dX8_track_125 : decode cX8_track 125 = .ok (.iload_n 1, 1) := by decide +kernel
theorem dX8_track_126 : decode cX8_track 126 = .ok (.invokevirtual 179, 3) := by decide +kernel
theorem dX8_track_129 : decode cX8_track 129 = .ok (.ireturn, 1) := by decide +kernel
theorem dX8_track_130 : decode cX8_track 130 = .ok (.aload_n 0, 1) := by decide +kernel
theorem dX8_track_131 : decode cX8_track 131 = .ok (.iload_n 1, 1) := by decide +kernel
theorem dX8_track_132 : decode cX8_track 132 = .ok (.invokevirtual 196, 3) := by decide +kernel
theorem dX8_track_135 : decode cX8_track 135 = .ok (.ireturn, 1) := by decide +kernel
theorem dX8_track_136 : decode cX8_track 136 = .ok (.aload_n 0, 1) := by decide +kernel
theorem dX8_track_137 : decode cX8_track 137 = .ok (.iload_n 3, 1) := by decide +kernel
theorem dX8_track_138 : decode cX8_track 138 = .ok (.aload_n 0, 1) := by decide +kernel
theorem dX8_track_139 : decode cX8_track 139 = .ok (.iload_n 1, 1) := by decide +kernel
theorem dX8_track_140 : decode cX8_track 140 = .ok (.iload_n 3, 1) := by decide +kernel
theorem dX8_track_141 : decode cX8_track 141 = .ok (.invokevirtual 155, 3) := by decide +kernel
theorem dX8_track_144 : decode cX8_track 144 = .ok (.invokevirtual 121, 3) := by decide +kernel
theorem dX8_track_147 : decode cX8_track 147 = .ok (.ireturn, 1) := by decide +kernel
theorem dX8_pitchIn_0 : decode cX8_pitchIn 0 = .ok (.iload_n 2, 1) := by decide +kernel
theorem dX8_pitchIn_1 : decode cX8_pitchIn 1 = .ok (.aload_n 0, 1) := by decide +kernel
theorem dX8_pitchIn_2 : decode cX8_pitchIn 2 = .ok (.getfield 7, 3) := by decide +kernel
theorem dX8_pitchIn_5 : decode cX8_pitchIn 5 = .ok (.iconst 0, 1) := by decide +kernel
theorem dX8_pitchIn_6 : decode cX8_pitchIn 6 = .ok (.iaload, 1) := by decide +kernel
theorem dX8_pitchIn_7 : decode cX8_pitchIn 7 = .ok (.if_icmp .ge 12, 3) := by decide +kernel
theorem dX8_pitchIn_10 : decode cX8_pitchIn 10 = .ok (.aload_n 0, 1) := by decide +kernel
theorem dX8_pitchIn_11 : decode cX8_pitchIn 11 = .ok (.iload_n 1, 1) := by decide +kernel
theorem dX8_pitchIn_12 : decode cX8_pitchIn 12 = .ok (.iload_n 2, 1) := by decide +kernel
theorem dX8_pitchIn_13 : decode cX8_pitchIn 13 = .ok (.invokevirtual 155, 3) := by decide +kernel
theorem dX8_pitchIn_16 : decode cX8_pitchIn 16 = .ok (.goto 5, 3) := by decide +kernel
theorem dX8_pitchIn_19 : decode cX8_pitchIn 19 = .ok (.bipush (-9), 2) := by decide +kernel
theorem dX8_pitchIn_21 : decode cX8_pitchIn 21 = .ok (.istore_n 3, 1) := by decide +kernel
theorem dX8_pitchIn_22 : decode cX8_pitchIn 22 = .ok (.iload_n 3, 1) := by decide +kernel
theorem dX8_pitchIn_23 : decode cX8_pitchIn 23 = .ok (.bipush (-9), 2) := by decide +kernel
theorem dX8_pitchIn_25 : decode cX8_pitchIn 25 = .ok (.if_icmp .ne 8, 3) := by decide +kernel
theorem dX8_pitchIn_28 : decode cX8_pitchIn 28 = .ok (.bipush (-9), 2) := by decide +kernel
theorem dX8_pitchIn_30 : decode cX8_pitchIn 30 = .ok (.goto 9, 3) := by decide +kernel
theorem dX8_pitchIn_33 : decode cX8_pitchIn 33 = .ok (.aload_n 0, 1) := by decide +kernel
theorem dX8_pitchIn_34 : decode cX8_pitchIn 34 = .ok (.iload_n 2, 1) := by decide +kernel
theorem dX8_pitchIn_35 : decode cX8_pitchIn 35 = .ok (.iload_n 3, 1) := by decide +kernel
theorem dX8_pitchIn_36 : decode cX8_pitchIn 36 = .ok (.invokevirtual 121, 3) := by decide +kernel
theorem dX8_pitchIn_39 : decode cX8_pitchIn 39 = .ok (.ireturn, 1) := by decide +kernel
theorem dX8_pitch_0 : decode cX8_pitch 0 = .ok (.aload_n 0, 1) := by decide +kernel
theorem dX8_pitch_1 : decode cX8_pitch 1 = .ok (.iconst 0, 1) := by decide +kernel
theorem dX8_pitch_2 : decode cX8_pitch 2 = .ok (.putfield 52, 3) := by decide +kernel
theorem dX8_pitch_5 : decode cX8_pitch 5 = .ok (.aload_n 0, 1) := by decide +kernel
theorem dX8_pitch_6 : decode cX8_pitch 6 = .ok (.invokevirtual 183, 3) := by decide +kernel
theorem dX8_pitch_9 : decode cX8_pitch 9 = .ok (.iload_n 1, 1) := by decide +kernel
theorem dX8_pitch_10 : decode cX8_pitch 10 = .ok (.iconst 0, 1) := by decide +kernel
theorem dX8_pitch_11 : decode cX8_pitch 11 = .ok (.aload_n 0, 1) := by decide +kernel
theorem dX8_pitch_12 : decode cX8_pitch 12 = .ok (.getfield 145, 3) := by decide +kernel
theorem dX8_pitch_15 : decode cX8_pitch 15 = .ok (.iconst 1, 1) := by decide +kernel
theorem dX8_pitch_16 : decode cX8_pitch 16 = .ok (.isub, 1) := by decide +kernel
theorem dX8_pitch_17 : decode cX8_pitch 17 = .ok (.invokestatic 56, 3) := by decide +kernel
theorem dX8_pitch_20 : decode cX8_pitch 20 = .ok (.ifCond .eq 28, 3) := by decide +kernel
theorem dX8_pitch_23 : decode cX8_pitch 23 = .ok (.iload_n 2, 1) := by decide +kernel
theorem dX8_pitch_24 : decode cX8_pitch 24 = .ok (.iconst 0, 1) := by decide +kernel
theorem dX8_pitch_25 : decode cX8_pitch 25 = .ok (.aload_n 0, 1) := by decide +kernel
theorem dX8_pitch_26 : decode cX8_pitch 26 = .ok (.getfield 7, 3) := by decide +kernel
theorem dX8_pitch_29 : decode cX8_pitch 29 = .ok (.iconst 0, 1) := by decide +kernel
theorem dX8_pitch_30 : decode cX8_pitch 30 = .ok (.iaload, 1) := by decide +kernel
theorem dX8_pitch_31 : decode cX8_pitch 31 = .ok (.iconst 1, 1) := by decide +kernel
theorem dX8_pitch_32 : decode cX8_pitch 32 = .ok (.isub, 1) := by decide +kernel
theorem dX8_pitch_33 : decode cX8_pitch 33 = .ok (.invokestatic 56, 3) := by decide +kernel
theorem dX8_pitch_36 : decode cX8_pitch 36 = .ok (.ifCond .eq 12, 3) := by decide +kernel
theorem dX8_pitch_39 : decode cX8_pitch 39 = .ok (.aload_n 0, 1) := by decide +kernel
theorem dX8_pitch_40 : decode cX8_pitch 40 = .ok (.iload_n 1, 1) := by decide +kernel
theorem dX8_pitch_41 : decode cX8_pitch 41 = .ok (.iload_n 2, 1) := by decide +kernel
theorem dX8_pitch_42 : decode cX8_pitch 42 = .ok (.invokevirtual 199, 3) := by decide +kernel
theorem dX8_pitch_45 : decode cX8_pitch 45 = .ok (.goto 5, 3) := by decide +kernel
theorem dX8_pitch_48 : decode cX8_pitch 48 = .ok (.ldc 182, 2) := by decide +kernel
theorem dX8_pitch_50 : decode cX8_pitch 50 = .ok (.ireturn, 1) := by decide +kernel
theorem dX8_best_0 : decode cX8_best 0 = .ok (.aload_n 0, 1) := by decide +kernel
theorem dX8_best_1 : decode cX8_best 1 = .ok (.iconst 0, 1) := by decide +kernel
theorem dX8_best_2 : decode cX8_best 2 = .ok (.putfield 52, 3) := by decide +kernel
theorem dX8_best_5 : decode cX8_best 5 = .ok (.iload_n 1, 1) := by decide +kernel
theorem dX8_best_6 : decode cX8_best 6 = .ok (.iconst 0, 1) := by decide +kernel
theorem dX8_best_7 : decode cX8_best 7 = .ok (.iconst 1, 1) := by decide +kernel
theorem dX8_best_8 : decode cX8_best 8 = .ok (.invokestatic 56, 3) := by decide +kernel
theorem dX8_best_11 : decode cX8_best 11 = .ok (.ifCond .ne 5, 3) := by decide +kernel
theorem dX8_best_14 : decode cX8_best 14 = .ok (.iconst (-1), 1) := by decide +kernel
theorem dX8_best_15 : decode cX8_best 15 = .ok (.ireturn, 1) := by decide +kernel
theorem dX8_best_16 : decode cX8_best 16 = .ok (.iconst 0, 1) := by decide +kernel
theorem dX8_best_17 : decode cX8_best 17 = .ok (.istore_n 2, 1) := by decide +kernel
theorem dX8_best_18 : decode cX8_best 18 = .ok (.sipush 1000, 3) := by decide +kernel
theorem dX8_best_21 : decode cX8_best 21 = .ok (.istore_n 3, 1) := by decide +kernel
theorem dX8_best_22 : decode cX8_best 22 = .ok (.iconst 0, 1) := by decide +kernel
theorem dX8_best_23 : decode cX8_best 23 = .ok (.istore 4, 2) := by decide +kernel
theorem dX8_best_25 : decode cX8_best 25 = .ok (.iload 4, 2) := by decide +kernel
theorem dX8_best_27 : decode cX8_best 27 = .ok (.bipush 20, 2) := by decide +kernel
theorem dX8_best_29 : decode cX8_best 29 = .ok (.if_icmp .gt 47, 3) := by decide +kernel
theorem dX8_best_32 : decode cX8_best 32 = .ok (.aload_n 0, 1) := by decide +kernel
theorem dX8_best_33 : decode cX8_best 33 = .ok (.iload 4, 2) := by decide +kernel
theorem dX8_best_35 : decode cX8_best 35 = .ok (.invokevirtual 151, 3) := by decide +kernel
theorem dX8_best_38 : decode cX8_best 38 = .ok (.aload_n 0, 1) := by decide +kernel
theorem dX8_best_39 : decode cX8_best 39 = .ok (.getfield 145, 3) := by decide +kernel
theorem dX8_best_42 : decode cX8_best 42 = .ok (.iload_n 3, 1) := by decide +kernel
theorem dX8_best_43 : decode cX8_best 43 = .ok (.if_icmp .ge 8, 3) := by decide +kernel
theorem dX8_best_46 : decode cX8_best 46 = .ok (.iload 4, 2) := by decide +kernel
theorem dX8_best_48 : decode cX8_best 48 = .ok (.goto 4, 3) := by decide +kernel
theorem dX8_best_51 : decode cX8_best 51 = .ok (.iload_n 2, 1) := by decide +kernel
theorem dX8_best_52 : decode cX8_best 52 = .ok (.istore_n 2, 1) := by decide +kernel
theorem dX8_best_53 : decode cX8_best 53 = .ok (.aload_n 0, 1) := by decide +kernel
theorem dX8_best_54 : decode cX8_best 54 = .ok (.getfield 145, 3) := by decide +kernel
theorem dX8_best_57 : decode cX8_best 57 = .ok (.iload_n 3, 1) := by decide +kernel
theorem dX8_best_58 : decode cX8_best 58 = .ok (.if_icmp .ge 10, 3) := by decide +kernel
theorem dX8_best_61 : decode cX8_best 61 = .ok (.aload_n 0, 1) := by decide +kernel
theorem dX8_best_62 : decode cX8_best 62 = .ok (.getfield 145, 3) := by decide +kernel
theorem dX8_best_65 : decode cX8_best 65 = .ok (.goto 4, 3) := by decide +kernel
theorem dX8_best_68 : decode cX8_best 68 = .ok (.iload_n 3, 1) := by decide +kernel
theorem dX8_best_69 : decode cX8_best 69 = .ok (.istore_n 3, 1) := by decide +kernel
theorem dX8_best_70 : decode cX8_best 70 = .ok (.iinc 4 1, 3) := by decide +kernel
theorem dX8_best_73 : decode cX8_best 73 = .ok (.goto (-48), 3) := by decide +kernel
theorem dX8_best_76 : decode cX8_best 76 = .ok (.iload_n 1, 1) := by decide +kernel
theorem dX8_best_77 : decode cX8_best 77 = .ok (.ifCond .ne 7, 3) := by decide +kernel
theorem dX8_best_80 : decode cX8_best 80 = .ok (.iload_n 2, 1) := by decide +kernel
theorem dX8_best_81 : decode cX8_best 81 = .ok (.goto 4, 3) := by decide +kernel
theorem dX8_best_84 : decode cX8_best 84 = .ok (.iload_n 3, 1) := by decide +kernel
theorem dX8_best_85 : decode cX8_best 85 = .ok (.ireturn, 1) := by decide +kernel
theorem dX8_sees_0 : decode cX8_sees 0 = .ok (.aload_n 0, 1) := by decide +kernel
theorem dX8_sees_1 : decode cX8_sees 1 = .ok (.iconst 0, 1) := by decide +kernel
theorem dX8_sees_2 : decode cX8_sees 2 = .ok (.putfield 52, 3) := by decide +kernel
theorem dX8_sees_5 : decode cX8_sees 5 = .ok (.iload_n 1, 1) := by decide +kernel
theorem dX8_sees_6 : decode cX8_sees 6 = .ok (.iconst 0, 1) := by decide +kernel
theorem dX8_sees_7 : decode cX8_sees 7 = .ok (.bipush 7, 2) := by decide +kernel
theorem dX8_sees_9 : decode cX8_sees 9 = .ok (.invokestatic 56, 3) := by decide +kernel
theorem dX8_sees_12 : decode cX8_sees 12 = .ok (.ifCond .eq 19, 3) := by decide +kernel
theorem dX8_sees_15 : decode cX8_sees 15 = .ok (.iload_n 2, 1) := by decide +kernel
theorem dX8_sees_16 : decode cX8_sees 16 = .ok (.iconst (-1), 1) := by decide +kernel
theorem dX8_sees_17 : decode cX8_sees 17 = .ok (.bipush 45, 2) := by decide +kernel
theorem dX8_sees_19 : decode cX8_sees 19 = .ok (.invokestatic 56, 3) := by decide +kernel
theorem dX8_sees_22 : decode cX8_sees 22 = .ok (.ifCond .ne 11, 3) := by decide +kernel
theorem dX8_sees_25 : decode cX8_sees 25 = .ok (.iload_n 2, 1) := by decide +kernel
theorem dX8_sees_26 : decode cX8_sees 26 = .ok (.bipush (-9), 2) := by decide +kernel
theorem dX8_sees_28 : decode cX8_sees 28 = .ok (.if_icmp .eq 5, 3) := by decide +kernel
theorem dX8_sees_31 : decode cX8_sees 31 = .ok (.iconst (-1), 1) := by decide +kernel
theorem dX8_sees_32 : decode cX8_sees 32 = .ok (.ireturn, 1) := by decide +kernel
theorem dX8_sees_33 : decode cX8_sees 33 = .ok (.aload_n 0, 1) := by decide +kernel
theorem dX8_sees_34 : decode cX8_sees 34 = .ok (.getfield 202, 3) := by decide +kernel
theorem dX8_sees_37 : decode cX8_sees 37 = .ok (.bipush 6, 2) := by decide +kernel
theorem dX8_sees_39 : decode cX8_sees 39 = .ok (.if_icmp .ne 6, 3) := by decide +kernel
theorem dX8_sees_42 : decode cX8_sees 42 = .ok (.bipush (-3), 2) := by decide +kernel
theorem dX8_sees_44 : decode cX8_sees 44 = .ok (.ireturn, 1) := by decide +kernel
theorem dX8_sees_45 : decode cX8_sees 45 = .ok (.aload_n 0, 1) := by decide +kernel
theorem dX8_sees_46 : decode cX8_sees 46 = .ok (.getfield 26, 3) := by decide +kernel
theorem dX8_sees_49 : decode cX8_sees 49 = .ok (.iconst 2, 1) := by decide +kernel
theorem dX8_sees_50 : decode cX8_sees 50 = .ok (.aload_n 0, 1) := by decide +kernel
theorem dX8_sees_51 : decode cX8_sees 51 = .ok (.getfield 202, 3) := by decide +kernel
theorem dX8_sees_54 : decode cX8_sees 54 = .ok (.imul, 1) := by decide +kernel
theorem dX8_sees_55 : decode cX8_sees 55 = .ok (.iload_n 1, 1) := by decide +kernel
theorem dX8_sees_56 : decode cX8_sees 56 = .ok (.iastore, 1) := by decide +kernel
theorem dX8_sees_57 : decode cX8_sees 57 = .ok (.aload_n 0, 1) := by decide +kernel
theorem dX8_sees_58 : decode cX8_sees 58 = .ok (.getfield 26, 3) := by decide +kernel
theorem dX8_sees_61 : decode cX8_sees 61 = .ok (.iconst 2, 1) := by decide +kernel
theorem dX8_sees_62 : decode cX8_sees 62 = .ok (.aload_n 0, 1) := by decide +kernel
theorem dX8_sees_63 : decode cX8_sees 63 = .ok (.getfield 202, 3) := by decide +kernel
theorem dX8_sees_66 : decode cX8_sees 66 = .ok (.imul, 1) := by decide +kernel
theorem dX8_sees_67 : decode cX8_sees 67 = .ok (.iconst 1, 1) := by decide +kernel
theorem dX8_sees_68 : decode cX8_sees 68 = .ok (.iadd, 1) := by decide +kernel
theorem dX8_sees_69 : decode cX8_sees 69 = .ok (.iload_n 2, 1) := by decide +kernel
theorem dX8_sees_70 : decode cX8_sees 70 = .ok (.iastore, 1) := by decide +kernel
theorem dX8_sees_71 : decode cX8_sees 71 = .ok (.aload_n 0, 1) := by decide +kernel
theorem dX8_sees_72 : decode cX8_sees 72 = .ok (.dup, 1) := by decide +kernel
theorem dX8_sees_73 : decode cX8_sees 73 = .ok (.getfield 202, 3) := by decide +kernel
theorem dX8_sees_76 : decode cX8_sees 76 = .ok (.iconst 1, 1) := by decide +kernel
theorem dX8_sees_77 : decode cX8_sees 77 = .ok (.iadd, 1) := by decide +kernel
theorem dX8_sees_78 : decode cX8_sees 78 = .ok (.putfield 202, 3) := by decide +kernel
theorem dX8_sees_81 : decode cX8_sees 81 = .ok (.aload_n 0, 1) := by decide +kernel
theorem dX8_sees_82 : decode cX8_sees 82 = .ok (.getfield 202, 3) := by decide +kernel
theorem dX8_sees_85 : decode cX8_sees 85 = .ok (.ireturn, 1) := by decide +kernel
theorem dX8_forget_0 : decode cX8_forget 0 = .ok (.aload_n 0, 1) := by decide +kernel
theorem dX8_forget_1 : decode cX8_forget 1 = .ok (.iconst 0, 1) := by decide +kernel
theorem dX8_forget_2 : decode cX8_forget 2 = .ok (.putfield 52, 3) := by decide +kernel
theorem dX8_forget_5 : decode cX8_forget 5 = .ok (.aload_n 0, 1) := by decide +kernel
theorem dX8_forget_6 : decode cX8_forget 6 = .ok (.getfield 202, 3) := by decide +kernel
theorem dX8_forget_9 : decode cX8_forget 9 = .ok (.istore_n 1, 1) := by decide +kernel
theorem dX8_forget_10 : decode cX8_forget 10 = .ok (.aload_n 0, 1) := by decide +kernel
theorem dX8_forget_11 : decode cX8_forget 11 = .ok (.iconst 0, 1) := by decide +kernel
theorem dX8_forget_12 : decode cX8_forget 12 = .ok (.putfield 202, 3) := by decide +kernel
theorem dX8_forget_15 : decode cX8_forget 15 = .ok (.iload_n 1, 1) := by decide +kernel
theorem dX8_forget_16 : decode cX8_forget 16 = .ok (.ireturn, 1) := by decide +kernel
theorem dX8_isSo_0 : decode cX8_isSo 0 = .ok (.iconst 1, 1) := by decide +kernel
theorem dX8_isSo_1 : decode cX8_isSo 1 = .ok (.istore_n 2, 1) := by decide +kernel
theorem dX8_isSo_2 : decode cX8_isSo 2 = .ok (.iconst 0, 1) := by decide +kernel
theorem dX8_isSo_3 : decode cX8_isSo 3 = .ok (.istore_n 3, 1) := by decide +kernel
theorem dX8_isSo_4 : decode cX8_isSo 4 = .ok (.iload_n 3, 1) := by decide +kernel
theorem dX8_isSo_5 : decode cX8_isSo 5 = .ok (.aload_n 0, 1) := by decide +kernel
theorem dX8_isSo_6 : decode cX8_isSo 6 = .ok (.getfield 202, 3) := by decide +kernel
theorem dX8_isSo_9 : decode cX8_isSo 9 = .ok (.if_icmp .ge 45, 3) := by decide +kernel
theorem dX8_isSo_12 : decode cX8_isSo 12 = .ok (.iload_n 2, 1) := by decide +kernel
theorem dX8_isSo_13 : decode cX8_isSo 13 = .ok (.ifCond .eq 33, 3) := by decide +kernel
theorem dX8_isSo_16 : decode cX8_isSo 16 = .ok (.aload_n 0, 1) := by decide +kernel
theorem dX8_isSo_17 : decode cX8_isSo 17 = .ok (.iload_n 1, 1) := by decide +kernel
theorem dX8_isSo_18 : decode cX8_isSo 18 = .ok (.aload_n 0, 1) := by decide +kernel
theorem dX8_isSo_19 : decode cX8_isSo 19 = .ok (.getfield 26, 3) := by decide +kernel
theorem dX8_isSo_22 : decode cX8_isSo 22 = .ok (.iconst 2, 1) := by decide +kernel
theorem dX8_isSo_23 : decode cX8_isSo 23 = .ok (.iload_n 3, 1) := by decide +kernel
theorem dX8_isSo_24 : decode cX8_isSo 24 = .ok (.imul, 1) := by decide +kernel
theorem dX8_isSo_25 : decode cX8_isSo 25 = .ok (.iaload, 1) := by decide +kernel
theorem dX8_isSo_26 : decode cX8_isSo 26 = .ok (.invokevirtual 199, 3) := by decide +kernel
theorem dX8_isSo_29 : decode cX8_isSo 29 = .ok (.aload_n 0, 1) := by decide +kernel
theorem dX8_isSo_30 : decode cX8_isSo 30 = .ok (.getfield 26, 3) := by decide +kernel
theorem dX8_isSo_33 : decode cX8_isSo 33 = .ok (.iconst 2, 1) := by decide +kernel
theorem dX8_isSo_34 : decode cX8_isSo 34 = .ok (.iload_n 3, 1) := by decide +kernel
theorem dX8_isSo_35 : decode cX8_isSo 35 = .ok (.imul, 1) := by decide +kernel
theorem dX8_isSo_36 : decode cX8_isSo 36 = .ok (.iconst 1, 1) := by decide +kernel
theorem dX8_isSo_37 : decode cX8_isSo 37 = .ok (.iadd, 1) := by decide +kernel
theorem dX8_isSo_38 : decode cX8_isSo 38 = .ok (.iaload, 1) := by decide +kernel
theorem dX8_isSo_39 : decode cX8_isSo 39 = .ok (.if_icmp .ne 7, 3) := by decide +kernel
theorem dX8_isSo_42 : decode cX8_isSo 42 = .ok (.iconst 1, 1) := by decide +kernel
theorem dX8_isSo_43 : decode cX8_isSo 43 = .ok (.goto 4, 3) := by decide +kernel
theorem dX8_isSo_46 : decode cX8_isSo 46 = .ok (.iconst 0, 1) := by decide +kernel
theorem dX8_isSo_47 : decode cX8_isSo 47 = .ok (.istore_n 2, 1) := by decide +kernel
theorem dX8_isSo_48 : decode cX8_isSo 48 = .ok (.iinc 3 1, 3) := by decide +kernel
theorem dX8_isSo_51 : decode cX8_isSo 51 = .ok (.goto (-47), 3) := by decide +kernel
theorem dX8_isSo_54 : decode cX8_isSo 54 = .ok (.iload_n 2, 1) := by decide +kernel
theorem dX8_isSo_55 : decode cX8_isSo 55 = .ok (.ireturn, 1) := by decide +kernel
theorem dX8_which_0 : decode cX8_which 0 = .ok (.aload_n 0, 1) := by decide +kernel
theorem dX8_which_1 : decode cX8_which 1 = .ok (.iconst 0, 1) := by decide +kernel
theorem dX8_which_2 : decode cX8_which 2 = .ok (.putfield 52, 3) := by decide +kernel
theorem dX8_which_5 : decode cX8_which 5 = .ok (.iload_n 1, 1) := by decide +kernel
theorem dX8_which_6 : decode cX8_which 6 = .ok (.iconst 0, 1) := by decide +kernel
theorem dX8_which_7 : decode cX8_which 7 = .ok (.iconst 1, 1) := by decide +kernel
theorem dX8_which_8 : decode cX8_which 8 = .ok (.invokestatic 56, 3) := by decide +kernel
theorem dX8_which_11 : decode cX8_which 11 = .ok (.ifCond .ne 5, 3) := by decide +kernel
theorem dX8_which_14 : decode cX8_which 14 = .ok (.iconst (-1), 1) := by decide +kernel
theorem dX8_which_15 : decode cX8_which 15 = .ok (.ireturn, 1) := by decide +kernel
theorem dX8_which_16 : decode cX8_which 16 = .ok (.aload_n 0, 1) := by decide +kernel
theorem dX8_which_17 : decode cX8_which 17 = .ok (.invokevirtual 183, 3) := by decide +kernel
theorem dX8_which_20 : decode cX8_which 20 = .ok (.iconst 0, 1) := by decide +kernel
theorem dX8_which_21 : decode cX8_which 21 = .ok (.istore_n 2, 1) := by decide +kernel
theorem dX8_which_22 : decode cX8_which 22 = .ok (.bipush (-9), 2) := by decide +kernel
theorem dX8_which_24 : decode cX8_which 24 = .ok (.istore_n 3, 1) := by decide +kernel
theorem dX8_which_25 : decode cX8_which 25 = .ok (.iconst 0, 1) := by decide +kernel
theorem dX8_which_26 : decode cX8_which 26 = .ok (.istore 4, 2) := by decide +kernel
theorem dX8_which_28 : decode cX8_which 28 = .ok (.iload 4, 2) := by decide +kernel
theorem dX8_which_30 : decode cX8_which 30 = .ok (.aload_n 0, 1) := by decide +kernel
theorem dX8_which_31 : decode cX8_which 31 = .ok (.getfield 145, 3) := by decide +kernel
theorem dX8_which_34 : decode cX8_which 34 = .ok (.if_icmp .ge 32, 3) := by decide +kernel
theorem dX8_which_37 : decode cX8_which 37 = .ok (.aload_n 0, 1) := by decide +kernel
theorem dX8_which_38 : decode cX8_which 38 = .ok (.iload 4, 2) := by decide +kernel
theorem dX8_which_40 : decode cX8_which 40 = .ok (.invokevirtual 205, 3) := by decide +kernel
theorem dX8_which_43 : decode cX8_which 43 = .ok (.ifCond .eq 17, 3) := by decide +kernel
theorem dX8_which_46 : decode cX8_which 46 = .ok (.iload_n 2, 1) := by decide +kernel
theorem dX8_which_47 : decode cX8_which 47 = .ok (.ifCond .ne 8, 3) := by decide +kernel
theorem dX8_which_50 : decode cX8_which 50 = .ok (.iload 4, 2) := by decide +kernel
theorem dX8_which_52 : decode cX8_which 52 = .ok (.goto 4, 3) := by decide +kernel
theorem dX8_which_55 : decode cX8_which 55 = .ok (.iload_n 3, 1) := by decide +kernel
theorem dX8_which_56 : decode cX8_which 56 = .ok (.istore_n 3, 1) := by decide +kernel
theorem dX8_which_57 : decode cX8_which 57 = .ok (.iinc 2 1, 3) := by decide +kernel
theorem dX8_which_60 : decode cX8_which 60 = .ok (.iinc 4 1, 3) := by decide +kernel
theorem dX8_which_63 : decode cX8_which 63 = .ok (.goto (-35), 3) := by decide +kernel
theorem dX8_which_66 : decode cX8_which 66 = .ok (.iload_n 1, 1) := by decide +kernel
theorem dX8_which_67 : decode cX8_which 67 = .ok (.ifCond .ne 7, 3) := by decide +kernel
theorem dX8_which_70 : decode cX8_which 70 = .ok (.iload_n 2, 1) := by decide +kernel
theorem dX8_which_71 : decode cX8_which 71 = .ok (.goto 4, 3) := by decide +kernel
theorem dX8_which_74 : decode cX8_which 74 = .ok (.iload_n 3, 1) := by decide +kernel
theorem dX8_which_75 : decode cX8_which 75 = .ok (.ireturn, 1) := by decide +kernel
theorem dX8_mostAlike_0 : decode cX8_mostAlike 0 = .ok (.iconst 0, 1) := by decide +kernel
theorem dX8_mostAlike_1 : decode cX8_mostAlike 1 = .ok (.istore_n 2, 1) := by decide +kernel
theorem dX8_mostAlike_2 : decode cX8_mostAlike 2 = .ok (.iconst 0, 1) := by decide +kernel
theorem dX8_mostAlike_3 : decode cX8_mostAlike 3 = .ok (.istore_n 3, 1) := by decide +kernel
theorem dX8_mostAlike_4 : decode cX8_mostAlike 4 = .ok (.iload_n 3, 1) := by decide +kernel
theorem dX8_mostAlike_5 : decode cX8_mostAlike 5 = .ok (.aload_n 0, 1) := by decide +kernel
theorem dX8_mostAlike_6 : decode cX8_mostAlike 6 = .ok (.getfield 145, 3) := by decide +kernel
theorem dX8_mostAlike_9 : decode cX8_mostAlike 9 = .ok (.if_icmp .ge 86, 3) := by decide +kernel
theorem dX8_mostAlike_12 : decode cX8_mostAlike 12 = .ok (.iconst 0, 1) := by decide +kernel
theorem dX8_mostAlike_13 : decode cX8_mostAlike 13 = .ok (.istore 4, 2) := by decide +kernel
theorem dX8_mostAlike_15 : decode cX8_mostAlike 15 = .ok (.iconst 0, 1) := by decide +kernel
theorem dX8_mostAlike_16 : decode cX8_mostAlike 16 = .ok (.istore 5, 2) := by decide +kernel
theorem dX8_mostAlike_18 : decode cX8_mostAlike 18 = .ok (.iload 5, 2) := by decide +kernel
theorem dX8_mostAlike_20 : decode cX8_mostAlike 20 = .ok (.aload_n 0, 1) := by decide +kernel
theorem dX8_mostAlike_21 : decode cX8_mostAlike 21 = .ok (.getfield 145, 3) := by decide +kernel
theorem dX8_mostAlike_24 : decode cX8_mostAlike 24 = .ok (.if_icmp .ge 52, 3) := by decide +kernel
theorem dX8_mostAlike_27 : decode cX8_mostAlike 27 = .ok (.iload 4, 2) := by decide +kernel
theorem dX8_mostAlike_29 : decode cX8_mostAlike 29 = .ok (.aload_n 0, 1) := by decide +kernel
theorem dX8_mostAlike_30 : decode cX8_mostAlike 30 = .ok (.iload_n 3, 1) := by decide +kernel
theorem dX8_mostAlike_31 : decode cX8_mostAlike 31 = .ok (.invokevirtual 205, 3) := by decide +kernel
theorem dX8_mostAlike_34 : decode cX8_mostAlike 34 = .ok (.ifCond .eq 32, 3) := by decide +kernel
theorem dX8_mostAlike_37 : decode cX8_mostAlike 37 = .ok (.aload_n 0, 1) := by decide +kernel
theorem dX8_mostAlike_38 : decode cX8_mostAlike 38 = .ok (.iload 5, 2) := by decide +kernel
theorem dX8_mostAlike_40 : decode cX8_mostAlike 40 = .ok (.invokevirtual 205, 3) := by decide +kernel
theorem dX8_mostAlike_43 : decode cX8_mostAlike 43 = .ok (.ifCond .eq 23, 3) := by decide +kernel
theorem dX8_mostAlike_46 : decode cX8_mostAlike 46 = .ok (.aload_n 0, 1) := by decide +kernel
theorem dX8_mostAlike_47 : decode cX8_mostAlike 47 = .ok (.iload_n 3, 1) := by decide +kernel
theorem dX8_mostAlike_48 : decode cX8_mostAlike 48 = .ok (.iload_n 1, 1) := by decide +kernel
theorem dX8_mostAlike_49 : decode cX8_mostAlike 49 = .ok (.invokevirtual 199, 3) := by decide +kernel
theorem dX8_mostAlike_52 : decode cX8_mostAlike 52 = .ok (.aload_n 0, 1) := by decide +kernel
theorem dX8_mostAlike_53 : decode cX8_mostAlike 53 = .ok (.iload 5, 2) := by decide +kernel
theorem dX8_mostAlike_55 : decode cX8_mostAlike 55 = .ok (.iload_n 1, 1) := by decide +kernel
theorem dX8_mostAlike_56 : decode cX8_mostAlike 56 = .ok (.invokevirtual 199, 3) := by decide +kernel
theorem dX8_mostAlike_59 : decode cX8_mostAlike 59 = .ok (.if_icmp .ne 7, 3) := by decide +kernel
theorem dX8_mostAlike_62 : decode cX8_mostAlike 62 = .ok (.iconst 1, 1) := by decide +kernel
theorem dX8_mostAlike_63 : decode cX8_mostAlike 63 = .ok (.goto 4, 3) := by decide +kernel
theorem dX8_mostAlike_66 : decode cX8_mostAlike 66 = .ok (.iconst 0, 1) := by decide +kernel
theorem dX8_mostAlike_67 : decode cX8_mostAlike 67 = .ok (.iadd, 1) := by decide +kernel
theorem dX8_mostAlike_68 : decode cX8_mostAlike 68 = .ok (.istore 4, 2) := by decide +kernel
theorem dX8_mostAlike_70 : decode cX8_mostAlike 70 = .ok (.iinc 5 1, 3) := by decide +kernel
theorem dX8_mostAlike_73 : decode cX8_mostAlike 73 = .ok (.goto (-55), 3) := by decide +kernel
theorem dX8_mostAlike_76 : decode cX8_mostAlike 76 = .ok (.iload 4, 2) := by decide +kernel
theorem dX8_mostAlike_78 : decode cX8_mostAlike 78 = .ok (.iload_n 2, 1) := by decide +kernel
theorem dX8_mostAlike_79 : decode cX8_mostAlike 79 = .ok (.if_icmp .le 8, 3) := by decide +kernel
theorem dX8_mostAlike_82 : decode cX8_mostAlike 82 = .ok (.iload 4, 2) := by decide +kernel
theorem dX8_mostAlike_84 : decode cX8_mostAlike 84 = .ok (.goto 4, 3) := by decide +kernel
theorem dX8_mostAlike_87 : decode cX8_mostAlike 87 = .ok (.iload_n 2, 1) := by decide +kernel
theorem dX8_mostAlike_88 : decode cX8_mostAlike 88 = .ok (.istore_n 2, 1) := by decide +kernel
theorem dX8_mostAlike_89 : decode cX8_mostAlike 89 = .ok (.iinc 3 1, 3) := by decide +kernel
theorem dX8_mostAlike_92 : decode cX8_mostAlike 92 = .ok (.goto (-88), 3) := by decide +kernel
theorem dX8_mostAlike_95 : decode cX8_mostAlike 95 = .ok (.iload_n 2, 1) := by decide +kernel
theorem dX8_mostAlike_96 : decode cX8_mostAlike 96 = .ok (.ireturn, 1) := by decide +kernel
theorem dX8_listen_0 : decode cX8_listen 0 = .ok (.aload_n 0, 1) := by decide +kernel
theorem dX8_listen_1 : decode cX8_listen 1 = .ok (.iconst 0, 1) := by decide +kernel
theorem dX8_listen_2 : decode cX8_listen 2 = .ok (.putfield 52, 3) := by decide +kernel
end
section
theorem dX8_listen_5 : decode cX8_listen 5 = .ok (.aload_n 0, 1) := by decide +kernel
theorem dX8_listen_6 : decode cX8_listen 6 = .ok (.invokevirtual 183, 3) := by decide +kernel
theorem dX8_listen_9 : decode cX8_listen 9 = .ok (.iconst 0, 1) := by decide +kernel
theorem dX8_listen_10 : decode cX8_listen 10 = .ok (.istore_n 1, 1) := by decide +kernel
theorem dX8_listen_11 : decode cX8_listen 11 = .ok (.iconst 0, 1) := by decide +kernel
theorem dX8_listen_12 : decode cX8_listen 12 = .ok (.istore_n 2, 1) := by decide +kernel
theorem dX8_listen_13 : decode cX8_listen 13 = .ok (.iload_n 2, 1) := by decide +kernel
theorem dX8_listen_14 : decode cX8_listen 14 = .ok (.aload_n 0, 1) := by decide +kernel
theorem dX8_listen_15 : decode cX8_listen 15 = .ok (.getfield 145, 3) := by decide +kernel
theorem dX8_listen_18 : decode cX8_listen 18 = .ok (.if_icmp .ge 25, 3) := by decide +kernel
theorem dX8_listen_21 : decode cX8_listen 21 = .ok (.iload_n 1, 1) := by decide +kernel
theorem dX8_listen_22 : decode cX8_listen 22 = .ok (.aload_n 0, 1) := by decide +kernel
theorem dX8_listen_23 : decode cX8_listen 23 = .ok (.iload_n 2, 1) := by decide +kernel
theorem dX8_listen_24 : decode cX8_listen 24 = .ok (.invokevirtual 205, 3) := by decide +kernel
theorem dX8_listen_27 : decode cX8_listen 27 = .ok (.ifCond .eq 7, 3) := by decide +kernel
theorem dX8_listen_30 : decode cX8_listen 30 = .ok (.iconst 1, 1) := by decide +kernel
theorem dX8_listen_31 : decode cX8_listen 31 = .ok (.goto 4, 3) := by decide +kernel
theorem dX8_listen_34 : decode cX8_listen 34 = .ok (.iconst 0, 1) := by decide +kernel
theorem dX8_listen_35 : decode cX8_listen 35 = .ok (.iadd, 1) := by decide +kernel
theorem dX8_listen_36 : decode cX8_listen 36 = .ok (.istore_n 1, 1) := by decide +kernel
theorem dX8_listen_37 : decode cX8_listen 37 = .ok (.iinc 2 1, 3) := by decide +kernel
theorem dX8_listen_40 : decode cX8_listen 40 = .ok (.goto (-27), 3) := by decide +kernel
theorem dX8_listen_43 : decode cX8_listen 43 = .ok (.bipush (-9), 2) := by decide +kernel
theorem dX8_listen_45 : decode cX8_listen 45 = .ok (.istore_n 2, 1) := by decide +kernel
theorem dX8_listen_46 : decode cX8_listen 46 = .ok (.sipush 1000, 3) := by decide +kernel
theorem dX8_listen_49 : decode cX8_listen 49 = .ok (.istore_n 3, 1) := by decide +kernel
theorem dX8_listen_50 : decode cX8_listen 50 = .ok (.iconst 0, 1) := by decide +kernel
theorem dX8_listen_51 : decode cX8_listen 51 = .ok (.istore 4, 2) := by decide +kernel
theorem dX8_listen_53 : decode cX8_listen 53 = .ok (.iload 4, 2) := by decide +kernel
theorem dX8_listen_55 : decode cX8_listen 55 = .ok (.aload_n 0, 1) := by decide +kernel
theorem dX8_listen_56 : decode cX8_listen 56 = .ok (.getfield 7, 3) := by decide +kernel
theorem dX8_listen_59 : decode cX8_listen 59 = .ok (.iconst 0, 1) := by decide +kernel
theorem dX8_listen_60 : decode cX8_listen 60 = .ok (.iaload, 1) := by decide +kernel
theorem dX8_listen_61 : decode cX8_listen 61 = .ok (.if_icmp .ge 48, 3) := by decide +kernel
theorem dX8_listen_64 : decode cX8_listen 64 = .ok (.iload_n 1, 1) := by decide +kernel
theorem dX8_listen_65 : decode cX8_listen 65 = .ok (.iconst 1, 1) := by decide +kernel
theorem dX8_listen_66 : decode cX8_listen 66 = .ok (.if_icmp .le 43, 3) := by decide +kernel
theorem dX8_listen_69 : decode cX8_listen 69 = .ok (.aload_n 0, 1) := by decide +kernel
theorem dX8_listen_70 : decode cX8_listen 70 = .ok (.iload 4, 2) := by decide +kernel
theorem dX8_listen_72 : decode cX8_listen 72 = .ok (.invokevirtual 209, 3) := by decide +kernel
theorem dX8_listen_75 : decode cX8_listen 75 = .ok (.istore 5, 2) := by decide +kernel
theorem dX8_listen_77 : decode cX8_listen 77 = .ok (.iload 5, 2) := by decide +kernel
theorem dX8_listen_79 : decode cX8_listen 79 = .ok (.iload_n 3, 1) := by decide +kernel
theorem dX8_listen_80 : decode cX8_listen 80 = .ok (.if_icmp .ge 8, 3) := by decide +kernel
theorem dX8_listen_83 : decode cX8_listen 83 = .ok (.iload 4, 2) := by decide +kernel
theorem dX8_listen_85 : decode cX8_listen 85 = .ok (.goto 4, 3) := by decide +kernel
theorem dX8_listen_88 : decode cX8_listen 88 = .ok (.iload_n 2, 1) := by decide +kernel
theorem dX8_listen_89 : decode cX8_listen 89 = .ok (.istore_n 2, 1) := by decide +kernel
theorem dX8_listen_90 : decode cX8_listen 90 = .ok (.iload 5, 2) := by decide +kernel
theorem dX8_listen_92 : decode cX8_listen 92 = .ok (.iload_n 3, 1) := by decide +kernel
theorem dX8_listen_93 : decode cX8_listen 93 = .ok (.if_icmp .ge 8, 3) := by decide +kernel
theorem dX8_listen_96 : decode cX8_listen 96 = .ok (.iload 5, 2) := by decide +kernel
theorem dX8_listen_98 : decode cX8_listen 98 = .ok (.goto 4, 3) := by decide +kernel
theorem dX8_listen_101 : decode cX8_listen 101 = .ok (.iload_n 3, 1) := by decide +kernel
theorem dX8_listen_102 : decode cX8_listen 102 = .ok (.istore_n 3, 1) := by decide +kernel
theorem dX8_listen_103 : decode cX8_listen 103 = .ok (.iinc 4 1, 3) := by decide +kernel
theorem dX8_listen_106 : decode cX8_listen 106 = .ok (.goto (-53), 3) := by decide +kernel
theorem dX8_listen_109 : decode cX8_listen 109 = .ok (.iload_n 2, 1) := by decide +kernel
theorem dX8_listen_110 : decode cX8_listen 110 = .ok (.ireturn, 1) := by decide +kernel
theorem dX8_keep_0 : decode cX8_keep 0 = .ok (.aload_n 0, 1) := by decide +kernel
theorem dX8_keep_1 : decode cX8_keep 1 = .ok (.iconst 0, 1) := by decide +kernel
theorem dX8_keep_2 : decode cX8_keep 2 = .ok (.putfield 52, 3) := by decide +kernel
theorem dX8_keep_5 : decode cX8_keep 5 = .ok (.iload_n 1, 1) := by decide +kernel
theorem dX8_keep_6 : decode cX8_keep 6 = .ok (.iconst 0, 1) := by decide +kernel
theorem dX8_keep_7 : decode cX8_keep 7 = .ok (.iconst 1, 1) := by decide +kernel
theorem dX8_keep_8 : decode cX8_keep 8 = .ok (.invokestatic 56, 3) := by decide +kernel
theorem dX8_keep_11 : decode cX8_keep 11 = .ok (.ifCond .ne 5, 3) := by decide +kernel
theorem dX8_keep_14 : decode cX8_keep 14 = .ok (.iconst (-1), 1) := by decide +kernel
theorem dX8_keep_15 : decode cX8_keep 15 = .ok (.ireturn, 1) := by decide +kernel
theorem dX8_keep_16 : decode cX8_keep 16 = .ok (.iconst 0, 1) := by decide +kernel
theorem dX8_keep_17 : decode cX8_keep 17 = .ok (.istore_n 2, 1) := by decide +kernel
theorem dX8_keep_18 : decode cX8_keep 18 = .ok (.iload_n 2, 1) := by decide +kernel
theorem dX8_keep_19 : decode cX8_keep 19 = .ok (.bipush 101, 2) := by decide +kernel
theorem dX8_keep_21 : decode cX8_keep 21 = .ok (.if_icmp .ge 26, 3) := by decide +kernel
theorem dX8_keep_24 : decode cX8_keep 24 = .ok (.aload_n 0, 1) := by decide +kernel
theorem dX8_keep_25 : decode cX8_keep 25 = .ok (.getfield 19, 3) := by decide +kernel
theorem dX8_keep_28 : decode cX8_keep 28 = .ok (.bipush 101, 2) := by decide +kernel
theorem dX8_keep_30 : decode cX8_keep 30 = .ok (.iload_n 1, 1) := by decide +kernel
theorem dX8_keep_31 : decode cX8_keep 31 = .ok (.imul, 1) := by decide +kernel
theorem dX8_keep_32 : decode cX8_keep 32 = .ok (.iload_n 2, 1) := by decide +kernel
theorem dX8_keep_33 : decode cX8_keep 33 = .ok (.iadd, 1) := by decide +kernel
theorem dX8_keep_34 : decode cX8_keep 34 = .ok (.aload_n 0, 1) := by decide +kernel
theorem dX8_keep_35 : decode cX8_keep 35 = .ok (.getfield 7, 3) := by decide +kernel
theorem dX8_keep_38 : decode cX8_keep 38 = .ok (.iload_n 2, 1) := by decide +kernel
theorem dX8_keep_39 : decode cX8_keep 39 = .ok (.iaload, 1) := by decide +kernel
theorem dX8_keep_40 : decode cX8_keep 40 = .ok (.iastore, 1) := by decide +kernel
theorem dX8_keep_41 : decode cX8_keep 41 = .ok (.iinc 2 1, 3) := by decide +kernel
theorem dX8_keep_44 : decode cX8_keep 44 = .ok (.goto (-26), 3) := by decide +kernel
theorem dX8_keep_47 : decode cX8_keep 47 = .ok (.aload_n 0, 1) := by decide +kernel
theorem dX8_keep_48 : decode cX8_keep 48 = .ok (.getfield 22, 3) := by decide +kernel
theorem dX8_keep_51 : decode cX8_keep 51 = .ok (.iload_n 1, 1) := by decide +kernel
theorem dX8_keep_52 : decode cX8_keep 52 = .ok (.iconst 1, 1) := by decide +kernel
theorem dX8_keep_53 : decode cX8_keep 53 = .ok (.bastore, 1) := by decide +kernel
theorem dX8_keep_54 : decode cX8_keep 54 = .ok (.aload_n 0, 1) := by decide +kernel
theorem dX8_keep_55 : decode cX8_keep 55 = .ok (.getfield 7, 3) := by decide +kernel
theorem dX8_keep_58 : decode cX8_keep 58 = .ok (.iconst 0, 1) := by decide +kernel
theorem dX8_keep_59 : decode cX8_keep 59 = .ok (.iaload, 1) := by decide +kernel
theorem dX8_keep_60 : decode cX8_keep 60 = .ok (.ireturn, 1) := by decide +kernel
theorem dX8_back_0 : decode cX8_back 0 = .ok (.aload_n 0, 1) := by decide +kernel
theorem dX8_back_1 : decode cX8_back 1 = .ok (.iconst 0, 1) := by decide +kernel
theorem dX8_back_2 : decode cX8_back 2 = .ok (.putfield 52, 3) := by decide +kernel
theorem dX8_back_5 : decode cX8_back 5 = .ok (.iload_n 1, 1) := by decide +kernel
theorem dX8_back_6 : decode cX8_back 6 = .ok (.iconst 0, 1) := by decide +kernel
theorem dX8_back_7 : decode cX8_back 7 = .ok (.iconst 1, 1) := by decide +kernel
theorem dX8_back_8 : decode cX8_back 8 = .ok (.invokestatic 56, 3) := by decide +kernel
theorem dX8_back_11 : decode cX8_back 11 = .ok (.ifCond .ne 5, 3) := by decide +kernel
theorem dX8_back_14 : decode cX8_back 14 = .ok (.iconst (-1), 1) := by decide +kernel
theorem dX8_back_15 : decode cX8_back 15 = .ok (.ireturn, 1) := by decide +kernel
theorem dX8_back_16 : decode cX8_back 16 = .ok (.aload_n 0, 1) := by decide +kernel
theorem dX8_back_17 : decode cX8_back 17 = .ok (.getfield 22, 3) := by decide +kernel
theorem dX8_back_20 : decode cX8_back 20 = .ok (.iload_n 1, 1) := by decide +kernel
theorem dX8_back_21 : decode cX8_back 21 = .ok (.baload, 1) := by decide +kernel
theorem dX8_back_22 : decode cX8_back 22 = .ok (.ifCond .ne 6, 3) := by decide +kernel
theorem dX8_back_25 : decode cX8_back 25 = .ok (.bipush (-2), 2) := by decide +kernel
theorem dX8_back_27 : decode cX8_back 27 = .ok (.ireturn, 1) := by decide +kernel
theorem dX8_back_28 : decode cX8_back 28 = .ok (.iconst 0, 1) := by decide +kernel
theorem dX8_back_29 : decode cX8_back 29 = .ok (.istore_n 2, 1) := by decide +kernel
theorem dX8_back_30 : decode cX8_back 30 = .ok (.iload_n 2, 1) := by decide +kernel
theorem dX8_back_31 : decode cX8_back 31 = .ok (.bipush 101, 2) := by decide +kernel
theorem dX8_back_33 : decode cX8_back 33 = .ok (.if_icmp .ge 26, 3) := by decide +kernel
theorem dX8_back_36 : decode cX8_back 36 = .ok (.aload_n 0, 1) := by decide +kernel
theorem dX8_back_37 : decode cX8_back 37 = .ok (.getfield 7, 3) := by decide +kernel
theorem dX8_back_40 : decode cX8_back 40 = .ok (.iload_n 2, 1) := by decide +kernel
theorem dX8_back_41 : decode cX8_back 41 = .ok (.aload_n 0, 1) := by decide +kernel
theorem dX8_back_42 : decode cX8_back 42 = .ok (.getfield 19, 3) := by decide +kernel
theorem dX8_back_45 : decode cX8_back 45 = .ok (.bipush 101, 2) := by decide +kernel
theorem dX8_back_47 : decode cX8_back 47 = .ok (.iload_n 1, 1) := by decide +kernel
theorem dX8_back_48 : decode cX8_back 48 = .ok (.imul, 1) := by decide +kernel
theorem dX8_back_49 : decode cX8_back 49 = .ok (.iload_n 2, 1) := by decide +kernel
theorem dX8_back_50 : decode cX8_back 50 = .ok (.iadd, 1) := by decide +kernel
theorem dX8_back_51 : decode cX8_back 51 = .ok (.iaload, 1) := by decide +kernel
theorem dX8_back_52 : decode cX8_back 52 = .ok (.iastore, 1) := by decide +kernel
theorem dX8_back_53 : decode cX8_back 53 = .ok (.iinc 2 1, 3) := by decide +kernel
theorem dX8_back_56 : decode cX8_back 56 = .ok (.goto (-26), 3) := by decide +kernel
theorem dX8_back_59 : decode cX8_back 59 = .ok (.aload_n 0, 1) := by decide +kernel
theorem dX8_back_60 : decode cX8_back 60 = .ok (.iconst 0, 1) := by decide +kernel
theorem dX8_back_61 : decode cX8_back 61 = .ok (.putfield 107, 3) := by decide +kernel
theorem dX8_back_64 : decode cX8_back 64 = .ok (.aload_n 0, 1) := by decide +kernel
theorem dX8_back_65 : decode cX8_back 65 = .ok (.getfield 7, 3) := by decide +kernel
theorem dX8_back_68 : decode cX8_back 68 = .ok (.iconst 0, 1) := by decide +kernel
theorem dX8_back_69 : decode cX8_back 69 = .ok (.iaload, 1) := by decide +kernel
theorem dX8_back_70 : decode cX8_back 70 = .ok (.ireturn, 1) := by decide +kernel
theorem dX8_tracksNow_0 : decode cX8_tracksNow 0 = .ok (.aload_n 0, 1) := by decide +kernel
theorem dX8_tracksNow_1 : decode cX8_tracksNow 1 = .ok (.invokevirtual 183, 3) := by decide +kernel
theorem dX8_tracksNow_4 : decode cX8_tracksNow 4 = .ok (.aload_n 0, 1) := by decide +kernel
theorem dX8_tracksNow_5 : decode cX8_tracksNow 5 = .ok (.getfield 145, 3) := by decide +kernel
theorem dX8_tracksNow_8 : decode cX8_tracksNow 8 = .ok (.ireturn, 1) := by decide +kernel
theorem dX8_keptMany_0 : decode cX8_keptMany 0 = .ok (.aload_n 0, 1) := by decide +kernel
theorem dX8_keptMany_1 : decode cX8_keptMany 1 = .ok (.invokevirtual 183, 3) := by decide +kernel
theorem dX8_keptMany_4 : decode cX8_keptMany 4 = .ok (.iconst 0, 1) := by decide +kernel
theorem dX8_keptMany_5 : decode cX8_keptMany 5 = .ok (.istore_n 1, 1) := by decide +kernel
theorem dX8_keptMany_6 : decode cX8_keptMany 6 = .ok (.iconst 0, 1) := by decide +kernel
theorem dX8_keptMany_7 : decode cX8_keptMany 7 = .ok (.istore_n 2, 1) := by decide +kernel
theorem dX8_keptMany_8 : decode cX8_keptMany 8 = .ok (.iload_n 2, 1) := by decide +kernel
theorem dX8_keptMany_9 : decode cX8_keptMany 9 = .ok (.aload_n 0, 1) := by decide +kernel
theorem dX8_keptMany_10 : decode cX8_keptMany 10 = .ok (.getfield 145, 3) := by decide +kernel
theorem dX8_keptMany_13 : decode cX8_keptMany 13 = .ok (.if_icmp .ge 31, 3) := by decide +kernel
theorem dX8_keptMany_16 : decode cX8_keptMany 16 = .ok (.iload_n 1, 1) := by decide +kernel
theorem dX8_keptMany_17 : decode cX8_keptMany 17 = .ok (.aload_n 0, 1) := by decide +kernel
theorem dX8_keptMany_18 : decode cX8_keptMany 18 = .ok (.iload_n 2, 1) := by decide +kernel
theorem dX8_keptMany_19 : decode cX8_keptMany 19 = .ok (.invokevirtual 161, 3) := by decide +kernel
theorem dX8_keptMany_22 : decode cX8_keptMany 22 = .ok (.aload_n 0, 1) := by decide +kernel
theorem dX8_keptMany_23 : decode cX8_keptMany 23 = .ok (.getfield 7, 3) := by decide +kernel
theorem dX8_keptMany_26 : decode cX8_keptMany 26 = .ok (.iconst 4, 1) := by decide +kernel
theorem dX8_keptMany_27 : decode cX8_keptMany 27 = .ok (.iaload, 1) := by decide +kernel
theorem dX8_keptMany_28 : decode cX8_keptMany 28 = .ok (.if_icmp .lt 7, 3) := by decide +kernel
theorem dX8_keptMany_31 : decode cX8_keptMany 31 = .ok (.iconst 1, 1) := by decide +kernel
theorem dX8_keptMany_32 : decode cX8_keptMany 32 = .ok (.goto 4, 3) := by decide +kernel
theorem dX8_keptMany_35 : decode cX8_keptMany 35 = .ok (.iconst 0, 1) := by decide +kernel
theorem dX8_keptMany_36 : decode cX8_keptMany 36 = .ok (.iadd, 1) := by decide +kernel
theorem dX8_keptMany_37 : decode cX8_keptMany 37 = .ok (.istore_n 1, 1) := by decide +kernel
theorem dX8_keptMany_38 : decode cX8_keptMany 38 = .ok (.iinc 2 1, 3) := by decide +kernel
theorem dX8_keptMany_41 : decode cX8_keptMany 41 = .ok (.goto (-33), 3) := by decide +kernel
theorem dX8_keptMany_44 : decode cX8_keptMany 44 = .ok (.iload_n 1, 1) := by decide +kernel
theorem dX8_keptMany_45 : decode cX8_keptMany 45 = .ok (.ireturn, 1) := by decide +kernel
theorem dX8_longest_0 : decode cX8_longest 0 = .ok (.aload_n 0, 1) := by decide +kernel
theorem dX8_longest_1 : decode cX8_longest 1 = .ok (.invokevirtual 183, 3) := by decide +kernel
theorem dX8_longest_4 : decode cX8_longest 4 = .ok (.bipush (-9), 2) := by decide +kernel
theorem dX8_longest_6 : decode cX8_longest 6 = .ok (.istore_n 1, 1) := by decide +kernel
theorem dX8_longest_7 : decode cX8_longest 7 = .ok (.aload_n 0, 1) := by decide +kernel
theorem dX8_longest_8 : decode cX8_longest 8 = .ok (.getfield 145, 3) := by decide +kernel
theorem dX8_longest_11 : decode cX8_longest 11 = .ok (.iconst 1, 1) := by decide +kernel
theorem dX8_longest_12 : decode cX8_longest 12 = .ok (.isub, 1) := by decide +kernel
theorem dX8_longest_13 : decode cX8_longest 13 = .ok (.istore_n 2, 1) := by decide +kernel
theorem dX8_longest_14 : decode cX8_longest 14 = .ok (.iload_n 2, 1) := by decide +kernel
theorem dX8_longest_15 : decode cX8_longest 15 = .ok (.ifCond .lt 34, 3) := by decide +kernel
theorem dX8_longest_18 : decode cX8_longest 18 = .ok (.iload_n 1, 1) := by decide +kernel
theorem dX8_longest_19 : decode cX8_longest 19 = .ok (.bipush (-9), 2) := by decide +kernel
theorem dX8_longest_21 : decode cX8_longest 21 = .ok (.if_icmp .eq 16, 3) := by decide +kernel
theorem dX8_longest_24 : decode cX8_longest 24 = .ok (.aload_n 0, 1) := by decide +kernel
theorem dX8_longest_25 : decode cX8_longest 25 = .ok (.iload_n 2, 1) := by decide +kernel
theorem dX8_longest_26 : decode cX8_longest 26 = .ok (.invokevirtual 161, 3) := by decide +kernel
theorem dX8_longest_29 : decode cX8_longest 29 = .ok (.aload_n 0, 1) := by decide +kernel
theorem dX8_longest_30 : decode cX8_longest 30 = .ok (.iload_n 1, 1) := by decide +kernel
theorem dX8_longest_31 : decode cX8_longest 31 = .ok (.invokevirtual 161, 3) := by decide +kernel
theorem dX8_longest_34 : decode cX8_longest 34 = .ok (.if_icmp .lt 7, 3) := by decide +kernel
theorem dX8_longest_37 : decode cX8_longest 37 = .ok (.iload_n 2, 1) := by decide +kernel
theorem dX8_longest_38 : decode cX8_longest 38 = .ok (.goto 4, 3) := by decide +kernel
theorem dX8_longest_41 : decode cX8_longest 41 = .ok (.iload_n 1, 1) := by decide +kernel
theorem dX8_longest_42 : decode cX8_longest 42 = .ok (.istore_n 1, 1) := by decide +kernel
theorem dX8_longest_43 : decode cX8_longest 43 = .ok (.iinc 2 (-1), 3) := by decide +kernel
theorem dX8_longest_46 : decode cX8_longest 46 = .ok (.goto (-32), 3) := by decide +kernel
theorem dX8_longest_49 : decode cX8_longest 49 = .ok (.iload_n 1, 1) := by decide +kernel
theorem dX8_longest_50 : decode cX8_longest 50 = .ok (.ireturn, 1) := by decide +kernel
theorem dX8_count_0 : decode cX8_count 0 = .ok (.aload_n 0, 1) := by decide +kernel
theorem dX8_count_1 : decode cX8_count 1 = .ok (.iconst 0, 1) := by decide +kernel
theorem dX8_count_2 : decode cX8_count 2 = .ok (.putfield 52, 3) := by decide +kernel
theorem dX8_count_5 : decode cX8_count 5 = .ok (.iload_n 1, 1) := by decide +kernel
theorem dX8_count_6 : decode cX8_count 6 = .ok (.tableswitch 68 5 10 #[38, 43, 48, 53, 58, 63], 38) := by decide +kernel
theorem dX8_count_44 : decode cX8_count 44 = .ok (.aload_n 0, 1) := by decide +kernel
theorem dX8_count_45 : decode cX8_count 45 = .ok (.invokevirtual 212, 3) := by decide +kernel
theorem dX8_count_48 : decode cX8_count 48 = .ok (.ireturn, 1) := by decide +kernel
theorem dX8_count_49 : decode cX8_count 49 = .ok (.aload_n 0, 1) := by decide +kernel
theorem dX8_count_50 : decode cX8_count 50 = .ok (.invokevirtual 215, 3) := by decide +kernel
theorem dX8_count_53 : decode cX8_count 53 = .ok (.ireturn, 1) := by decide +kernel
theorem dX8_count_54 : decode cX8_count 54 = .ok (.aload_n 0, 1) := by decide +kernel
theorem dX8_count_55 : decode cX8_count 55 = .ok (.invokevirtual 218, 3) := by decide +kernel
theorem dX8_count_58 : decode cX8_count 58 = .ok (.ireturn, 1) := by decide +kernel
theorem dX8_count_59 : decode cX8_count 59 = .ok (.aload_n 0, 1) := by decide +kernel
theorem dX8_count_60 : decode cX8_count 60 = .ok (.getfield 202, 3) := by decide +kernel
theorem dX8_count_63 : decode cX8_count 63 = .ok (.ireturn, 1) := by decide +kernel
theorem dX8_count_64 : decode cX8_count 64 = .ok (.aload_n 0, 1) := by decide +kernel
theorem dX8_count_65 : decode cX8_count 65 = .ok (.getfield 60, 3) := by decide +kernel
theorem dX8_count_68 : decode cX8_count 68 = .ok (.ireturn, 1) := by decide +kernel
theorem dX8_count_69 : decode cX8_count 69 = .ok (.aload_n 0, 1) := by decide +kernel
theorem dX8_count_70 : decode cX8_count 70 = .ok (.getfield 107, 3) := by decide +kernel
theorem dX8_count_73 : decode cX8_count 73 = .ok (.ireturn, 1) := by decide +kernel
theorem dX8_count_74 : decode cX8_count 74 = .ok (.iload_n 1, 1) := by decide +kernel
theorem dX8_count_75 : decode cX8_count 75 = .ok (.iconst 0, 1) := by decide +kernel
theorem dX8_count_76 : decode cX8_count 76 = .ok (.iconst 4, 1) := by decide +kernel
theorem dX8_count_77 : decode cX8_count 77 = .ok (.invokestatic 56, 3) := by decide +kernel
theorem dX8_count_80 : decode cX8_count 80 = .ok (.ifCond .eq 12, 3) := by decide +kernel
theorem dX8_count_83 : decode cX8_count 83 = .ok (.aload_n 0, 1) := by decide +kernel
theorem dX8_count_84 : decode cX8_count 84 = .ok (.getfield 7, 3) := by decide +kernel
theorem dX8_count_87 : decode cX8_count 87 = .ok (.iload_n 1, 1) := by decide +kernel
theorem dX8_count_88 : decode cX8_count 88 = .ok (.iaload, 1) := by decide +kernel
theorem dX8_count_89 : decode cX8_count 89 = .ok (.goto 4, 3) := by decide +kernel
theorem dX8_count_92 : decode cX8_count 92 = .ok (.iconst (-1), 1) := by decide +kernel
theorem dX8_count_93 : decode cX8_count 93 = .ok (.ireturn, 1) := by decide +kernel
theorem dJ6_compare_7cf53_0 : decode cJ6_compare_7cf53 0 = .ok (.iload_n 0, 1) := by decide +kernel
theorem dJ6_compare_7cf53_1 : decode cJ6_compare_7cf53 1 = .ok (.iload_n 1, 1) := by decide +kernel
theorem dJ6_compare_7cf53_2 : decode cJ6_compare_7cf53 2 = .ok (.if_icmp .ge 7, 3) := by decide +kernel
theorem dJ6_compare_7cf53_5 : decode cJ6_compare_7cf53 5 = .ok (.iconst (-1), 1) := by decide +kernel
theorem dJ6_compare_7cf53_6 : decode cJ6_compare_7cf53 6 = .ok (.goto 13, 3) := by decide +kernel
theorem dJ6_compare_7cf53_9 : decode cJ6_compare_7cf53 9 = .ok (.iload_n 0, 1) := by decide +kernel
theorem dJ6_compare_7cf53_10 : decode cJ6_compare_7cf53 10 = .ok (.iload_n 1, 1) := by decide +kernel
theorem dJ6_compare_7cf53_11 : decode cJ6_compare_7cf53 11 = .ok (.if_icmp .ne 7, 3) := by decide +kernel
theorem dJ6_compare_7cf53_14 : decode cJ6_compare_7cf53 14 = .ok (.iconst 0, 1) := by decide +kernel
theorem dJ6_compare_7cf53_15 : decode cJ6_compare_7cf53 15 = .ok (.goto 4, 3) := by decide +kernel
theorem dJ6_compare_7cf53_18 : decode cJ6_compare_7cf53 18 = .ok (.iconst 1, 1) := by decide +kernel
theorem dJ6_compare_7cf53_19 : decode cJ6_compare_7cf53 19 = .ok (.ireturn, 1) := by decide +kernel
theorem dJ9_abs_0f7a4_0 : decode cJ9_abs_0f7a4 0 = .ok (.iload_n 0, 1) := by decide +kernel
theorem dJ9_abs_0f7a4_1 : decode cJ9_abs_0f7a4 1 = .ok (.ifCond .ge 8, 3) := by decide +kernel
theorem dJ9_abs_0f7a4_4 : decode cJ9_abs_0f7a4 4 = .ok (.iload_n 0, 1) := by decide +kernel
theorem dJ9_abs_0f7a4_5 : decode cJ9_abs_0f7a4 5 = .ok (.ineg, 1) := by decide +kernel
theorem dJ9_abs_0f7a4_6 : decode cJ9_abs_0f7a4 6 = .ok (.goto 4, 3) := by decide +kernel
theorem dJ9_abs_0f7a4_9 : decode cJ9_abs_0f7a4 9 = .ok (.iload_n 0, 1) := by decide +kernel
theorem dJ9_abs_0f7a4_10 : decode cJ9_abs_0f7a4 10 = .ok (.ireturn, 1) := by decide +kernel
theorem dJ9_max_7cf53_0 : decode cJ9_max_7cf53 0 = .ok (.iload_n 0, 1) := by decide +kernel
theorem dJ9_max_7cf53_1 : decode cJ9_max_7cf53 1 = .ok (.iload_n 1, 1) := by decide +kernel
theorem dJ9_max_7cf53_2 : decode cJ9_max_7cf53 2 = .ok (.if_icmp .lt 7, 3) := by decide +kernel
theorem dJ9_max_7cf53_5 : decode cJ9_max_7cf53 5 = .ok (.iload_n 0, 1) := by decide +kernel
theorem dJ9_max_7cf53_6 : decode cJ9_max_7cf53 6 = .ok (.goto 4, 3) := by decide +kernel
theorem dJ9_max_7cf53_9 : decode cJ9_max_7cf53 9 = .ok (.iload_n 1, 1) := by decide +kernel
theorem dJ9_max_7cf53_10 : decode cJ9_max_7cf53 10 = .ok (.ireturn, 1) := by decide +kernel
theorem dJ9_min_7cf53_0 : decode cJ9_min_7cf53 0 = .ok (.iload_n 0, 1) := by decide +kernel
theorem dJ9_min_7cf53_1 : decode cJ9_min_7cf53 1 = .ok (.iload_n 1, 1) := by decide +kernel
theorem dJ9_min_7cf53_2 : decode cJ9_min_7cf53 2 = .ok (.if_icmp .gt 7, 3) := by decide +kernel
theorem dJ9_min_7cf53_5 : decode cJ9_min_7cf53 5 = .ok (.iload_n 0, 1) := by decide +kernel
theorem dJ9_min_7cf53_6 : decode cJ9_min_7cf53 6 = .ok (.goto 4, 3) := by decide +kernel
theorem dJ9_min_7cf53_9 : decode cJ9_min_7cf53 9 = .ok (.iload_n 1, 1) := by decide +kernel
theorem dJ9_min_7cf53_10 : decode cJ9_min_7cf53 10 = .ok (.ireturn, 1) := by decide +kernel
theorem dJ0_length_8abf5_0 : decode cJ0_length_8abf5 0 = .ok (.aload_n 0, 1) := by decide +kernel
theorem dJ0_length_8abf5_1 : decode cJ0_length_8abf5 1 = .ok (.getfield 9, 3) := by decide +kernel
theorem dJ0_length_8abf5_4 : decode cJ0_length_8abf5 4 = .ok (.arraylength, 1) := by decide +kernel
theorem dJ0_length_8abf5_5 : decode cJ0_length_8abf5 5 = .ok (.aload_n 0, 1) := by decide +kernel
theorem dJ0_length_8abf5_6 : decode cJ0_length_8abf5 6 = .ok (.invokevirtual 335, 3) := by decide +kernel
theorem dJ0_length_8abf5_9 : decode cJ0_length_8abf5 9 = .ok (.ishr, 1) := by decide +kernel
theorem dJ0_length_8abf5_10 : decode cJ0_length_8abf5 10 = .ok (.ireturn, 1) := by decide +kernel
theorem dJ0_charAt_5068e_0 : decode cJ0_charAt_5068e 0 = .ok (.aload_n 0, 1) := by decide +kernel
theorem dJ0_charAt_5068e_1 : decode cJ0_charAt_5068e 1 = .ok (.invokevirtual 492, 3) := by decide +kernel
theorem dJ0_charAt_5068e_4 : decode cJ0_charAt_5068e 4 = .ok (.ifCond .eq 12, 3) := by decide +kernel
theorem dJ0_charAt_5068e_7 : decode cJ0_charAt_5068e 7 = .ok (.aload_n 0, 1) := by decide +kernel
theorem dJ0_charAt_5068e_8 : decode cJ0_charAt_5068e 8 = .ok (.getfield 9, 3) := by decide +kernel
theorem dJ0_charAt_5068e_11 : decode cJ0_charAt_5068e 11 = .ok (.iload_n 1, 1) := by decide +kernel
theorem dJ0_charAt_5068e_12 : decode cJ0_charAt_5068e 12 = .ok (.invokestatic 495, 3) := by decide +kernel
theorem dJ0_charAt_5068e_15 : decode cJ0_charAt_5068e 15 = .ok (.ireturn, 1) := by decide +kernel
theorem dJ0_charAt_5068e_16 : decode cJ0_charAt_5068e 16 = .ok (.aload_n 0, 1) := by decide +kernel
theorem dJ0_charAt_5068e_17 : decode cJ0_charAt_5068e 17 = .ok (.getfield 9, 3) := by decide +kernel
theorem dJ0_charAt_5068e_20 : decode cJ0_charAt_5068e 20 = .ok (.iload_n 1, 1) := by decide +kernel
theorem dJ0_charAt_5068e_21 : decode cJ0_charAt_5068e 21 = .ok (.invokestatic 498, 3) := by decide +kernel
theorem dJ0_charAt_5068e_24 : decode cJ0_charAt_5068e 24 = .ok (.ireturn, 1) := by decide +kernel
theorem dJ0_coder_7d493_0 : decode cJ0_coder_7d493 0 = .ok (.getstatic 38, 3) := by decide +kernel
theorem dJ0_coder_7d493_3 : decode cJ0_coder_7d493 3 = .ok (.ifCond .eq 10, 3) := by decide +kernel
theorem dJ0_coder_7d493_6 : decode cJ0_coder_7d493 6 = .ok (.aload_n 0, 1) := by decide +kernel
theorem dJ0_coder_7d493_7 : decode cJ0_coder_7d493 7 = .ok (.getfield 15, 3) := by decide +kernel
theorem dJ0_coder_7d493_10 : decode cJ0_coder_7d493 10 = .ok (.goto 4, 3) := by decide +kernel
theorem dJ0_coder_7d493_13 : decode cJ0_coder_7d493 13 = .ok (.iconst 1, 1) := by decide +kernel
theorem dJ0_coder_7d493_14 : decode cJ0_coder_7d493 14 = .ok (.ireturn, 1) := by decide +kernel
theorem dJ0_isLatin1_aae02_0 : decode cJ0_isLatin1_aae02 0 = .ok (.getstatic 38, 3) := by decide +kernel
theorem dJ0_isLatin1_aae02_3 : decode cJ0_isLatin1_aae02 3 = .ok (.ifCond .eq 14, 3) := by decide +kernel
theorem dJ0_isLatin1_aae02_6 : decode cJ0_isLatin1_aae02 6 = .ok (.aload_n 0, 1) := by decide +kernel
theorem dJ0_isLatin1_aae02_7 : decode cJ0_isLatin1_aae02 7 = .ok (.getfield 15, 3) := by decide +kernel
theorem dJ0_isLatin1_aae02_10 : decode cJ0_isLatin1_aae02 10 = .ok (.ifCond .ne 7, 3) := by decide +kernel
theorem dJ0_isLatin1_aae02_13 : decode cJ0_isLatin1_aae02 13 = .ok (.iconst 1, 1) := by decide +kernel
theorem dJ0_isLatin1_aae02_14 : decode cJ0_isLatin1_aae02 14 = .ok (.goto 4, 3) := by decide +kernel
theorem dJ0_isLatin1_aae02_17 : decode cJ0_isLatin1_aae02 17 = .ok (.iconst 0, 1) := by decide +kernel
theorem dJ0_isLatin1_aae02_18 : decode cJ0_isLatin1_aae02 18 = .ok (.ireturn, 1) := by decide +kernel
theorem dJ0_checkIndex_df160_0 : decode cJ0_checkIndex_df160 0 = .ok (.iload_n 0, 1) := by decide +kernel
theorem dJ0_checkIndex_df160_1 : decode cJ0_checkIndex_df160 1 = .ok (.iload_n 1, 1) := by decide +kernel
theorem dJ0_checkIndex_df160_2 : decode cJ0_checkIndex_df160 2 = .ok (.getstatic 1053, 3) := by decide +kernel
theorem dJ0_checkIndex_df160_5 : decode cJ0_checkIndex_df160 5 = .ok (.invokestatic 1059, 3) := by decide +kernel
theorem dJ0_checkIndex_df160_8 : decode cJ0_checkIndex_df160 8 = .ok (.pop, 1) := by decide +kernel
theorem dJ0_checkIndex_df160_9 : decode cJ0_checkIndex_df160 9 = .ok (.return_, 1) := by decide +kernel
theorem dJ1_charAt_3b067_0 : decode cJ1_charAt_3b067 0 = .ok (.iload_n 1, 1) := by decide +kernel
theorem dJ1_charAt_3b067_1 : decode cJ1_charAt_3b067 1 = .ok (.aload_n 0, 1) := by decide +kernel
theorem dJ1_charAt_3b067_2 : decode cJ1_charAt_3b067 2 = .ok (.arraylength, 1) := by decide +kernel
theorem dJ1_charAt_3b067_3 : decode cJ1_charAt_3b067 3 = .ok (.invokestatic 9, 3) := by decide +kernel
theorem dJ1_charAt_3b067_6 : decode cJ1_charAt_3b067 6 = .ok (.aload_n 0, 1) := by decide +kernel
theorem dJ1_charAt_3b067_7 : decode cJ1_charAt_3b067 7 = .ok (.iload_n 1, 1) := by decide +kernel
theorem dJ1_charAt_3b067_8 : decode cJ1_charAt_3b067 8 = .ok (.baload, 1) := by decide +kernel
theorem dJ1_charAt_3b067_9 : decode cJ1_charAt_3b067 9 = .ok (.sipush 255, 3) := by decide +kernel
theorem dJ1_charAt_3b067_12 : decode cJ1_charAt_3b067 12 = .ok (.iand, 1) := by decide +kernel
theorem dJ1_charAt_3b067_13 : decode cJ1_charAt_3b067 13 = .ok (.i2c, 1) := by decide +kernel
theorem dJ1_charAt_3b067_14 : decode cJ1_charAt_3b067 14 = .ok (.ireturn, 1) := by decide +kernel
theorem dJ2_getChar_3b067_0 : decode cJ2_getChar_3b067 0 = .ok (.getstatic 44, 3) := by decide +kernel
theorem dJ2_getChar_3b067_3 : decode cJ2_getChar_3b067 3 = .ok (.ifCond .ne 25, 3) := by decide +kernel
theorem dJ2_getChar_3b067_6 : decode cJ2_getChar_3b067 6 = .ok (.iload_n 1, 1) := by decide +kernel
theorem dJ2_getChar_3b067_7 : decode cJ2_getChar_3b067 7 = .ok (.ifCond .lt 11, 3) := by decide +kernel
theorem dJ2_getChar_3b067_10 : decode cJ2_getChar_3b067 10 = .ok (.iload_n 1, 1) := by decide +kernel
theorem dJ2_getChar_3b067_11 : decode cJ2_getChar_3b067 11 = .ok (.aload_n 0, 1) := by decide +kernel
theorem dJ2_getChar_3b067_12 : decode cJ2_getChar_3b067 12 = .ok (.invokestatic 48, 3) := by decide +kernel
theorem dJ2_getChar_3b067_15 : decode cJ2_getChar_3b067 15 = .ok (.if_icmp .lt 13, 3) := by decide +kernel
theorem dJ2_getChar_3b067_18 : decode cJ2_getChar_3b067 18 = .ok (.new 52, 3) := by decide +kernel
theorem dJ2_getChar_3b067_21 : decode cJ2_getChar_3b067 21 = .ok (.dup, 1) := by decide +kernel
theorem dJ2_getChar_3b067_22 : decode cJ2_getChar_3b067 22 = .ok (.ldc 54, 2) := by decide +kernel
theorem dJ2_getChar_3b067_24 : decode cJ2_getChar_3b067 24 = .ok (.invokespecial 56, 3) := by decide +kernel
theorem dJ2_getChar_3b067_27 : decode cJ2_getChar_3b067 27 = .ok (.athrow, 1) := by decide +kernel
theorem dJ2_getChar_3b067_28 : decode cJ2_getChar_3b067 28 = .ok (.iload_n 1, 1) := by decide +kernel
theorem dJ2_getChar_3b067_29 : decode cJ2_getChar_3b067 29 = .ok (.iconst 1, 1) := by decide +kernel
theorem dJ2_getChar_3b067_30 : decode cJ2_getChar_3b067 30 = .ok (.ishl, 1) := by decide +kernel
theorem dJ2_getChar_3b067_31 : decode cJ2_getChar_3b067 31 = .ok (.istore_n 1, 1) := by decide +kernel
theorem dJ2_getChar_3b067_32 : decode cJ2_getChar_3b067 32 = .ok (.aload_n 0, 1) := by decide +kernel
theorem dJ2_getChar_3b067_33 : decode cJ2_getChar_3b067 33 = .ok (.iload_n 1, 1) := by decide +kernel
theorem dJ2_getChar_3b067_34 : decode cJ2_getChar_3b067 34 = .ok (.iinc 1 1, 3) := by decide +kernel
theorem dJ2_getChar_3b067_37 : decode cJ2_getChar_3b067 37 = .ok (.baload, 1) := by decide +kernel
theorem dJ2_getChar_3b067_38 : decode cJ2_getChar_3b067 38 = .ok (.sipush 255, 3) := by decide +kernel
theorem dJ2_getChar_3b067_41 : decode cJ2_getChar_3b067 41 = .ok (.iand, 1) := by decide +kernel
theorem dJ2_getChar_3b067_42 : decode cJ2_getChar_3b067 42 = .ok (.getstatic 59, 3) := by decide +kernel
theorem dJ2_getChar_3b067_45 : decode cJ2_getChar_3b067 45 = .ok (.ishl, 1) := by decide +kernel
theorem dJ2_getChar_3b067_46 : decode cJ2_getChar_3b067 46 = .ok (.aload_n 0, 1) := by decide +kernel
theorem dJ2_getChar_3b067_47 : decode cJ2_getChar_3b067 47 = .ok (.iload_n 1, 1) := by decide +kernel
theorem dJ2_getChar_3b067_48 : decode cJ2_getChar_3b067 48 = .ok (.baload, 1) := by decide +kernel
theorem dJ2_getChar_3b067_49 : decode cJ2_getChar_3b067 49 = .ok (.sipush 255, 3) := by decide +kernel
theorem dJ2_getChar_3b067_52 : decode cJ2_getChar_3b067 52 = .ok (.iand, 1) := by decide +kernel
theorem dJ2_getChar_3b067_53 : decode cJ2_getChar_3b067 53 = .ok (.getstatic 63, 3) := by decide +kernel
theorem dJ2_getChar_3b067_56 : decode cJ2_getChar_3b067 56 = .ok (.ishl, 1) := by decide +kernel
theorem dJ2_getChar_3b067_57 : decode cJ2_getChar_3b067 57 = .ok (.ior, 1) := by decide +kernel
theorem dJ2_getChar_3b067_58 : decode cJ2_getChar_3b067 58 = .ok (.i2c, 1) := by decide +kernel
theorem dJ2_getChar_3b067_59 : decode cJ2_getChar_3b067 59 = .ok (.ireturn, 1) := by decide +kernel
theorem dJ2_length_9d52b_0 : decode cJ2_length_9d52b 0 = .ok (.aload_n 0, 1) := by decide +kernel
theorem dJ2_length_9d52b_1 : decode cJ2_length_9d52b 1 = .ok (.arraylength, 1) := by decide +kernel
theorem dJ2_length_9d52b_2 : decode cJ2_length_9d52b 2 = .ok (.iconst 1, 1) := by decide +kernel
theorem dJ2_length_9d52b_3 : decode cJ2_length_9d52b 3 = .ok (.ishr, 1) := by decide +kernel
theorem dJ2_length_9d52b_4 : decode cJ2_length_9d52b 4 = .ok (.ireturn, 1) := by decide +kernel
theorem dJ2_charAt_3b067_0 : decode cJ2_charAt_3b067 0 = .ok (.iload_n 1, 1) := by decide +kernel
theorem dJ2_charAt_3b067_1 : decode cJ2_charAt_3b067 1 = .ok (.aload_n 0, 1) := by decide +kernel
theorem dJ2_charAt_3b067_2 : decode cJ2_charAt_3b067 2 = .ok (.invokestatic 67, 3) := by decide +kernel
theorem dJ2_charAt_3b067_5 : decode cJ2_charAt_3b067 5 = .ok (.aload_n 0, 1) := by decide +kernel
theorem dJ2_charAt_3b067_6 : decode cJ2_charAt_3b067 6 = .ok (.iload_n 1, 1) := by decide +kernel
theorem dJ2_charAt_3b067_7 : decode cJ2_charAt_3b067 7 = .ok (.invokestatic 71, 3) := by decide +kernel
theorem dJ2_charAt_3b067_10 : decode cJ2_charAt_3b067 10 = .ok (.ireturn, 1) := by decide +kernel
theorem dJ2_checkIndex_2214a_0 : decode cJ2_checkIndex_2214a 0 = .ok (.iload_n 0, 1) := by decide +kernel
theorem dJ2_checkIndex_2214a_1 : decode cJ2_checkIndex_2214a 1 = .ok (.aload_n 1, 1) := by decide +kernel
theorem dJ2_checkIndex_2214a_2 : decode cJ2_checkIndex_2214a 2 = .ok (.invokestatic 48, 3) := by decide +kernel
theorem dJ2_checkIndex_2214a_5 : decode cJ2_checkIndex_2214a 5 = .ok (.invokestatic 414, 3) := by decide +kernel
theorem dJ2_checkIndex_2214a_8 : decode cJ2_checkIndex_2214a 8 = .ok (.return_, 1) := by decide +kernel
theorem dJ7_fill_53178_0 : decode cJ7_fill_53178 0 = .ok (.iconst 0, 1) := by decide +kernel
theorem dJ7_fill_53178_1 : decode cJ7_fill_53178 1 = .ok (.istore_n 2, 1) := by decide +kernel
theorem dJ7_fill_53178_2 : decode cJ7_fill_53178 2 = .ok (.aload_n 0, 1) := by decide +kernel
theorem dJ7_fill_53178_3 : decode cJ7_fill_53178 3 = .ok (.arraylength, 1) := by decide +kernel
theorem dJ7_fill_53178_4 : decode cJ7_fill_53178 4 = .ok (.istore_n 3, 1) := by decide +kernel
theorem dJ7_fill_53178_5 : decode cJ7_fill_53178 5 = .ok (.iload_n 2, 1) := by decide +kernel
theorem dJ7_fill_53178_6 : decode cJ7_fill_53178 6 = .ok (.iload_n 3, 1) := by decide +kernel
theorem dJ7_fill_53178_7 : decode cJ7_fill_53178 7 = .ok (.if_icmp .ge 13, 3) := by decide +kernel
theorem dJ7_fill_53178_10 : decode cJ7_fill_53178 10 = .ok (.aload_n 0, 1) := by decide +kernel
theorem dJ7_fill_53178_11 : decode cJ7_fill_53178 11 = .ok (.iload_n 2, 1) := by decide +kernel
theorem dJ7_fill_53178_12 : decode cJ7_fill_53178 12 = .ok (.iload_n 1, 1) := by decide +kernel
theorem dJ7_fill_53178_13 : decode cJ7_fill_53178 13 = .ok (.iastore, 1) := by decide +kernel
theorem dJ7_fill_53178_14 : decode cJ7_fill_53178 14 = .ok (.iinc 2 1, 3) := by decide +kernel
theorem dJ7_fill_53178_17 : decode cJ7_fill_53178 17 = .ok (.goto (-12), 3) := by decide +kernel
theorem dJ7_fill_53178_20 : decode cJ7_fill_53178 20 = .ok (.return_, 1) := by decide +kernel
theorem dJ3_checkIndex_8e157_0 : decode cJ3_checkIndex_8e157 0 = .ok (.iload_n 0, 1) := by decide +kernel
theorem dJ3_checkIndex_8e157_1 : decode cJ3_checkIndex_8e157 1 = .ok (.ifCond .lt 8, 3) := by decide +kernel
theorem dJ3_checkIndex_8e157_4 : decode cJ3_checkIndex_8e157 4 = .ok (.iload_n 0, 1) := by decide +kernel
theorem dJ3_checkIndex_8e157_5 : decode cJ3_checkIndex_8e157 5 = .ok (.iload_n 1, 1) := by decide +kernel
theorem dJ3_checkIndex_8e157_6 : decode cJ3_checkIndex_8e157 6 = .ok (.if_icmp .lt 10, 3) := by decide +kernel
theorem dJ3_checkIndex_8e157_9 : decode cJ3_checkIndex_8e157 9 = .ok (.aload_n 2, 1) := by decide +kernel
theorem dJ3_checkIndex_8e157_10 : decode cJ3_checkIndex_8e157 10 = .ok (.iload_n 0, 1) := by decide +kernel
theorem dJ3_checkIndex_8e157_11 : decode cJ3_checkIndex_8e157 11 = .ok (.iload_n 1, 1) := by decide +kernel
theorem dJ3_checkIndex_8e157_12 : decode cJ3_checkIndex_8e157 12 = .ok (.invokestatic 95, 3) := by decide +kernel
theorem dJ3_checkIndex_8e157_15 : decode cJ3_checkIndex_8e157 15 = .ok (.athrow, 1) := by decide +kernel
theorem dJ3_checkIndex_8e157_16 : decode cJ3_checkIndex_8e157 16 = .ok (.iload_n 0, 1) := by decide +kernel
theorem dJ3_checkIndex_8e157_17 : decode cJ3_checkIndex_8e157 17 = .ok (.ireturn, 1) := by decide +kernel
theorem dL_law_0 : decode cL_law 0 = .ok (.new 7, 3) := by decide +kernel
theorem dL_law_3 : decode cL_law 3 = .ok (.dup, 1) := by decide +kernel
theorem dL_law_4 : decode cL_law 4 = .ok (.invokespecial 9, 3) := by decide +kernel
theorem dL_law_7 : decode cL_law 7 = .ok (.astore_n 1, 1) := by decide +kernel
theorem dL_law_8 : decode cL_law 8 = .ok (.new 10, 3) := by decide +kernel
theorem dL_law_11 : decode cL_law 11 = .ok (.dup, 1) := by decide +kernel
theorem dL_law_12 : decode cL_law 12 = .ok (.invokespecial 12, 3) := by decide +kernel
theorem dL_law_15 : decode cL_law 15 = .ok (.astore_n 2, 1) := by decide +kernel
theorem dL_law_16 : decode cL_law 16 = .ok (.iconst 0, 1) := by decide +kernel
theorem dL_law_17 : decode cL_law 17 = .ok (.istore_n 3, 1) := by decide +kernel
theorem dL_law_18 : decode cL_law 18 = .ok (.iload_n 3, 1) := by decide +kernel
theorem dL_law_19 : decode cL_law 19 = .ok (.aload_n 0, 1) := by decide +kernel
theorem dL_law_20 : decode cL_law 20 = .ok (.arraylength, 1) := by decide +kernel
theorem dL_law_21 : decode cL_law 21 = .ok (.iconst 4, 1) := by decide +kernel
theorem dL_law_22 : decode cL_law 22 = .ok (.isub, 1) := by decide +kernel
theorem dL_law_23 : decode cL_law 23 = .ok (.if_icmp .gt 594, 3) := by decide +kernel
theorem dL_law_26 : decode cL_law 26 = .ok (.aload_n 0, 1) := by decide +kernel
theorem dL_law_27 : decode cL_law 27 = .ok (.iload_n 3, 1) := by decide +kernel
theorem dL_law_28 : decode cL_law 28 = .ok (.iaload, 1) := by decide +kernel
theorem dL_law_29 : decode cL_law 29 = .ok (.bipush 31, 2) := by decide +kernel
theorem dL_law_31 : decode cL_law 31 = .ok (.iand, 1) := by decide +kernel
theorem dL_law_32 : decode cL_law 32 = .ok (.tableswitch 579 0 18 #[92, 115, 128, 141, 184, 217, 230, 263, 306, 339, 372, 405, 428, 461, 474, 497, 510, 533, 556], 92) := by decide +kernel
theorem dL_law_124 : decode cL_law 124 = .ok (.aload_n 1, 1) := by decide +kernel
theorem dL_law_125 : decode cL_law 125 = .ok (.aload_n 0, 1) := by decide +kernel
theorem dL_law_126 : decode cL_law 126 = .ok (.iload_n 3, 1) := by decide +kernel
theorem dL_law_127 : decode cL_law 127 = .ok (.iconst 1, 1) := by decide +kernel
theorem dL_law_128 : decode cL_law 128 = .ok (.iadd, 1) := by decide +kernel
theorem dL_law_129 : decode cL_law 129 = .ok (.iaload, 1) := by decide +kernel
theorem dL_law_130 : decode cL_law 130 = .ok (.invokevirtual 13, 3) := by decide +kernel
theorem dL_law_133 : decode cL_law 133 = .ok (.aload_n 2, 1) := by decide +kernel
theorem dL_law_134 : decode cL_law 134 = .ok (.aload_n 0, 1) := by decide +kernel
theorem dL_law_135 : decode cL_law 135 = .ok (.iload_n 3, 1) := by decide +kernel
theorem dL_law_136 : decode cL_law 136 = .ok (.iconst 1, 1) := by decide +kernel
theorem dL_law_137 : decode cL_law 137 = .ok (.iadd, 1) := by decide +kernel
theorem dL_law_138 : decode cL_law 138 = .ok (.iaload, 1) := by decide +kernel
theorem dL_law_139 : decode cL_law 139 = .ok (.invokevirtual 17, 3) := by decide +kernel
theorem dL_law_142 : decode cL_law 142 = .ok (.if_icmp .eq 469, 3) := by decide +kernel
theorem dL_law_145 : decode cL_law 145 = .ok (.iconst 0, 1) := by decide +kernel
theorem dL_law_146 : decode cL_law 146 = .ok (.ireturn, 1) := by decide +kernel
theorem dL_law_147 : decode cL_law 147 = .ok (.aload_n 1, 1) := by decide +kernel
theorem dL_law_148 : decode cL_law 148 = .ok (.invokevirtual 18, 3) := by decide +kernel
theorem dL_law_151 : decode cL_law 151 = .ok (.aload_n 2, 1) := by decide +kernel
theorem dL_law_152 : decode cL_law 152 = .ok (.invokevirtual 22, 3) := by decide +kernel
theorem dL_law_155 : decode cL_law 155 = .ok (.if_icmp .eq 456, 3) := by decide +kernel
theorem dL_law_158 : decode cL_law 158 = .ok (.iconst 0, 1) := by decide +kernel
theorem dL_law_159 : decode cL_law 159 = .ok (.ireturn, 1) := by decide +kernel
theorem dL_law_160 : decode cL_law 160 = .ok (.aload_n 1, 1) := by decide +kernel
theorem dL_law_161 : decode cL_law 161 = .ok (.invokevirtual 23, 3) := by decide +kernel
theorem dL_law_164 : decode cL_law 164 = .ok (.aload_n 2, 1) := by decide +kernel
theorem dL_law_165 : decode cL_law 165 = .ok (.invokevirtual 26, 3) := by decide +kernel
theorem dL_law_168 : decode cL_law 168 = .ok (.if_icmp .eq 443, 3) := by decide +kernel
theorem dL_law_171 : decode cL_law 171 = .ok (.iconst 0, 1) := by decide +kernel
theorem dL_law_172 : decode cL_law 172 = .ok (.ireturn, 1) := by decide +kernel
theorem dL_law_173 : decode cL_law 173 = .ok (.aload_n 1, 1) := by decide +kernel
theorem dL_law_174 : decode cL_law 174 = .ok (.aload_n 0, 1) := by decide +kernel
theorem dL_law_175 : decode cL_law 175 = .ok (.iload_n 3, 1) := by decide +kernel
theorem dL_law_176 : decode cL_law 176 = .ok (.iconst 1, 1) := by decide +kernel
theorem dL_law_177 : decode cL_law 177 = .ok (.iadd, 1) := by decide +kernel
theorem dL_law_178 : decode cL_law 178 = .ok (.iaload, 1) := by decide +kernel
theorem dL_law_179 : decode cL_law 179 = .ok (.aload_n 0, 1) := by decide +kernel
theorem dL_law_180 : decode cL_law 180 = .ok (.iload_n 3, 1) := by decide +kernel
theorem dL_law_181 : decode cL_law 181 = .ok (.iconst 2, 1) := by decide +kernel
theorem dL_law_182 : decode cL_law 182 = .ok (.iadd, 1) := by decide +kernel
theorem dL_law_183 : decode cL_law 183 = .ok (.iaload, 1) := by decide +kernel
theorem dL_law_184 : decode cL_law 184 = .ok (.aload_n 0, 1) := by decide +kernel
theorem dL_law_185 : decode cL_law 185 = .ok (.iload_n 3, 1) := by decide +kernel
theorem dL_law_186 : decode cL_law 186 = .ok (.iconst 3, 1) := by decide +kernel
theorem dL_law_187 : decode cL_law 187 = .ok (.iadd, 1) := by decide +kernel
theorem dL_law_188 : decode cL_law 188 = .ok (.iaload, 1) := by decide +kernel
theorem dL_law_189 : decode cL_law 189 = .ok (.invokevirtual 27, 3) := by decide +kernel
theorem dL_law_192 : decode cL_law 192 = .ok (.aload_n 2, 1) := by decide +kernel
theorem dL_law_193 : decode cL_law 193 = .ok (.aload_n 0, 1) := by decide +kernel
theorem dL_law_194 : decode cL_law 194 = .ok (.iload_n 3, 1) := by decide +kernel
theorem dL_law_195 : decode cL_law 195 = .ok (.iconst 1, 1) := by decide +kernel
theorem dL_law_196 : decode cL_law 196 = .ok (.iadd, 1) := by decide +kernel
theorem dL_law_197 : decode cL_law 197 = .ok (.iaload, 1) := by decide +kernel
theorem dL_law_198 : decode cL_law 198 = .ok (.aload_n 0, 1) := by decide +kernel
theorem dL_law_199 : decode cL_law 199 = .ok (.iload_n 3, 1) := by decide +kernel
theorem dL_law_200 : decode cL_law 200 = .ok (.iconst 2, 1) := by decide +kernel
theorem dL_law_201 : decode cL_law 201 = .ok (.iadd, 1) := by decide +kernel
theorem dL_law_202 : decode cL_law 202 = .ok (.iaload, 1) := by decide +kernel
theorem dL_law_203 : decode cL_law 203 = .ok (.aload_n 0, 1) := by decide +kernel
theorem dL_law_204 : decode cL_law 204 = .ok (.iload_n 3, 1) := by decide +kernel
theorem dL_law_205 : decode cL_law 205 = .ok (.iconst 3, 1) := by decide +kernel
theorem dL_law_206 : decode cL_law 206 = .ok (.iadd, 1) := by decide +kernel
theorem dL_law_207 : decode cL_law 207 = .ok (.iaload, 1) := by decide +kernel
theorem dL_law_208 : decode cL_law 208 = .ok (.invokevirtual 31, 3) := by decide +kernel
theorem dL_law_211 : decode cL_law 211 = .ok (.if_icmp .eq 400, 3) := by decide +kernel
theorem dL_law_214 : decode cL_law 214 = .ok (.iconst 0, 1) := by decide +kernel
theorem dL_law_215 : decode cL_law 215 = .ok (.ireturn, 1) := by decide +kernel
theorem dL_law_216 : decode cL_law 216 = .ok (.aload_n 1, 1) := by decide +kernel
theorem dL_law_217 : decode cL_law 217 = .ok (.aload_n 0, 1) := by decide +kernel
theorem dL_law_218 : decode cL_law 218 = .ok (.iload_n 3, 1) := by decide +kernel
theorem dL_law_219 : decode cL_law 219 = .ok (.iconst 1, 1) := by decide +kernel
theorem dL_law_220 : decode cL_law 220 = .ok (.iadd, 1) := by decide +kernel
theorem dL_law_221 : decode cL_law 221 = .ok (.iaload, 1) := by decide +kernel
theorem dL_law_222 : decode cL_law 222 = .ok (.aload_n 0, 1) := by decide +kernel
theorem dL_law_223 : decode cL_law 223 = .ok (.iload_n 3, 1) := by decide +kernel
theorem dL_law_224 : decode cL_law 224 = .ok (.iconst 2, 1) := by decide +kernel
theorem dL_law_225 : decode cL_law 225 = .ok (.iadd, 1) := by decide +kernel
theorem dL_law_226 : decode cL_law 226 = .ok (.iaload, 1) := by decide +kernel
theorem dL_law_227 : decode cL_law 227 = .ok (.invokevirtual 32, 3) := by decide +kernel
theorem dL_law_230 : decode cL_law 230 = .ok (.aload_n 2, 1) := by decide +kernel
theorem dL_law_231 : decode cL_law 231 = .ok (.aload_n 0, 1) := by decide +kernel
theorem dL_law_232 : decode cL_law 232 = .ok (.iload_n 3, 1) := by decide +kernel
theorem dL_law_233 : decode cL_law 233 = .ok (.iconst 1, 1) := by decide +kernel
theorem dL_law_234 : decode cL_law 234 = .ok (.iadd, 1) := by decide +kernel
theorem dL_law_235 : decode cL_law 235 = .ok (.iaload, 1) := by decide +kernel
theorem dL_law_236 : decode cL_law 236 = .ok (.aload_n 0, 1) := by decide +kernel
theorem dL_law_237 : decode cL_law 237 = .ok (.iload_n 3, 1) := by decide +kernel
theorem dL_law_238 : decode cL_law 238 = .ok (.iconst 2, 1) := by decide +kernel
theorem dL_law_239 : decode cL_law 239 = .ok (.iadd, 1) := by decide +kernel
theorem dL_law_240 : decode cL_law 240 = .ok (.iaload, 1) := by decide +kernel
theorem dL_law_241 : decode cL_law 241 = .ok (.invokevirtual 36, 3) := by decide +kernel
theorem dL_law_244 : decode cL_law 244 = .ok (.if_icmp .eq 367, 3) := by decide +kernel
theorem dL_law_247 : decode cL_law 247 = .ok (.iconst 0, 1) := by decide +kernel
theorem dL_law_248 : decode cL_law 248 = .ok (.ireturn, 1) := by decide +kernel
theorem dL_law_249 : decode cL_law 249 = .ok (.aload_n 1, 1) := by decide +kernel
theorem dL_law_250 : decode cL_law 250 = .ok (.invokevirtual 37, 3) := by decide +kernel
theorem dL_law_253 : decode cL_law 253 = .ok (.aload_n 2, 1) := by decide +kernel
theorem dL_law_254 : decode cL_law 254 = .ok (.invokevirtual 40, 3) := by decide +kernel
theorem dL_law_257 : decode cL_law 257 = .ok (.if_icmp .eq 354, 3) := by decide +kernel
theorem dL_law_260 : decode cL_law 260 = .ok (.iconst 0, 1) := by decide +kernel
theorem dL_law_261 : decode cL_law 261 = .ok (.ireturn, 1) := by decide +kernel
theorem dL_law_262 : decode cL_law 262 = .ok (.aload_n 1, 1) := by decide +kernel
theorem dL_law_263 : decode cL_law 263 = .ok (.aload_n 0, 1) := by decide +kernel
theorem dL_law_264 : decode cL_law 264 = .ok (.iload_n 3, 1) := by decide +kernel
theorem dL_law_265 : decode cL_law 265 = .ok (.iconst 1, 1) := by decide +kernel
theorem dL_law_266 : decode cL_law 266 = .ok (.iadd, 1) := by decide +kernel
theorem dL_law_267 : decode cL_law 267 = .ok (.iaload, 1) := by decide +kernel
theorem dL_law_268 : decode cL_law 268 = .ok (.aload_n 0, 1) := by decide +kernel
theorem dL_law_269 : decode cL_law 269 = .ok (.iload_n 3, 1) := by decide +kernel
theorem dL_law_270 : decode cL_law 270 = .ok (.iconst 2, 1) := by decide +kernel
theorem dL_law_271 : decode cL_law 271 = .ok (.iadd, 1) := by decide +kernel
theorem dL_law_272 : decode cL_law 272 = .ok (.iaload, 1) := by decide +kernel
theorem dL_law_273 : decode cL_law 273 = .ok (.invokevirtual 41, 3) := by decide +kernel
theorem dL_law_276 : decode cL_law 276 = .ok (.aload_n 2, 1) := by decide +kernel
theorem dL_law_277 : decode cL_law 277 = .ok (.aload_n 0, 1) := by decide +kernel
theorem dL_law_278 : decode cL_law 278 = .ok (.iload_n 3, 1) := by decide +kernel
theorem dL_law_279 : decode cL_law 279 = .ok (.iconst 1, 1) := by decide +kernel
theorem dL_law_280 : decode cL_law 280 = .ok (.iadd, 1) := by decide +kernel
theorem dL_law_281 : decode cL_law 281 = .ok (.iaload, 1) := by decide +kernel
theorem dL_law_282 : decode cL_law 282 = .ok (.aload_n 0, 1) := by decide +kernel
theorem dL_law_283 : decode cL_law 283 = .ok (.iload_n 3, 1) := by decide +kernel
theorem dL_law_284 : decode cL_law 284 = .ok (.iconst 2, 1) := by decide +kernel
theorem dL_law_285 : decode cL_law 285 = .ok (.iadd, 1) := by decide +kernel
theorem dL_law_286 : decode cL_law 286 = .ok (.iaload, 1) := by decide +kernel
theorem dL_law_287 : decode cL_law 287 = .ok (.invokevirtual 44, 3) := by decide +kernel
theorem dL_law_290 : decode cL_law 290 = .ok (.if_icmp .eq 321, 3) := by decide +kernel
theorem dL_law_293 : decode cL_law 293 = .ok (.iconst 0, 1) := by decide +kernel
theorem dL_law_294 : decode cL_law 294 = .ok (.ireturn, 1) := by decide +kernel
theorem dL_law_295 : decode cL_law 295 = .ok (.aload_n 1, 1) := by decide +kernel
theorem dL_law_296 : decode cL_law 296 = .ok (.aload_n 0, 1) := by decide +kernel
theorem dL_law_297 : decode cL_law 297 = .ok (.iload_n 3, 1) := by decide +kernel
theorem dL_law_298 : decode cL_law 298 = .ok (.iconst 1, 1) := by decide +kernel
theorem dL_law_299 : decode cL_law 299 = .ok (.iadd, 1) := by decide +kernel
theorem dL_law_300 : decode cL_law 300 = .ok (.iaload, 1) := by decide +kernel
theorem dL_law_301 : decode cL_law 301 = .ok (.aload_n 0, 1) := by decide +kernel
theorem dL_law_302 : decode cL_law 302 = .ok (.iload_n 3, 1) := by decide +kernel
theorem dL_law_303 : decode cL_law 303 = .ok (.iconst 2, 1) := by decide +kernel
theorem dL_law_304 : decode cL_law 304 = .ok (.iadd, 1) := by decide +kernel
theorem dL_law_305 : decode cL_law 305 = .ok (.iaload, 1) := by decide +kernel
theorem dL_law_306 : decode cL_law 306 = .ok (.aload_n 0, 1) := by decide +kernel
theorem dL_law_307 : decode cL_law 307 = .ok (.iload_n 3, 1) := by decide +kernel
theorem dL_law_308 : decode cL_law 308 = .ok (.iconst 3, 1) := by decide +kernel
theorem dL_law_309 : decode cL_law 309 = .ok (.iadd, 1) := by decide +kernel
theorem dL_law_310 : decode cL_law 310 = .ok (.iaload, 1) := by decide +kernel
theorem dL_law_311 : decode cL_law 311 = .ok (.invokevirtual 45, 3) := by decide +kernel
theorem dL_law_314 : decode cL_law 314 = .ok (.aload_n 2, 1) := by decide +kernel
theorem dL_law_315 : decode cL_law 315 = .ok (.aload_n 0, 1) := by decide +kernel
theorem dL_law_316 : decode cL_law 316 = .ok (.iload_n 3, 1) := by decide +kernel
theorem dL_law_317 : decode cL_law 317 = .ok (.iconst 1, 1) := by decide +kernel
theorem dL_law_318 : decode cL_law 318 = .ok (.iadd, 1) := by decide +kernel
theorem dL_law_319 : decode cL_law 319 = .ok (.iaload, 1) := by decide +kernel
theorem dL_law_320 : decode cL_law 320 = .ok (.aload_n 0, 1) := by decide +kernel
theorem dL_law_321 : decode cL_law 321 = .ok (.iload_n 3, 1) := by decide +kernel
theorem dL_law_322 : decode cL_law 322 = .ok (.iconst 2, 1) := by decide +kernel
theorem dL_law_323 : decode cL_law 323 = .ok (.iadd, 1) := by decide +kernel
theorem dL_law_324 : decode cL_law 324 = .ok (.iaload, 1) := by decide +kernel
theorem dL_law_325 : decode cL_law 325 = .ok (.aload_n 0, 1) := by decide +kernel
theorem dL_law_326 : decode cL_law 326 = .ok (.iload_n 3, 1) := by decide +kernel
theorem dL_law_327 : decode cL_law 327 = .ok (.iconst 3, 1) := by decide +kernel
theorem dL_law_328 : decode cL_law 328 = .ok (.iadd, 1) := by decide +kernel
theorem dL_law_329 : decode cL_law 329 = .ok (.iaload, 1) := by decide +kernel
theorem dL_law_330 : decode cL_law 330 = .ok (.invokevirtual 48, 3) := by decide +kernel
theorem dL_law_333 : decode cL_law 333 = .ok (.if_icmp .eq 278, 3) := by decide +kernel
theorem dL_law_336 : decode cL_law 336 = .ok (.iconst 0, 1) := by decide +kernel
theorem dL_law_337 : decode cL_law 337 = .ok (.ireturn, 1) := by decide +kernel
theorem dL_law_338 : decode cL_law 338 = .ok (.aload_n 1, 1) := by decide +kernel
theorem dL_law_339 : decode cL_law 339 = .ok (.aload_n 0, 1) := by decide +kernel
theorem dL_law_340 : decode cL_law 340 = .ok (.iload_n 3, 1) := by decide +kernel
theorem dL_law_341 : decode cL_law 341 = .ok (.iconst 1, 1) := by decide +kernel
theorem dL_law_342 : decode cL_law 342 = .ok (.iadd, 1) := by decide +kernel
theorem dL_law_343 : decode cL_law 343 = .ok (.iaload, 1) := by decide +kernel
theorem dL_law_344 : decode cL_law 344 = .ok (.aload_n 0, 1) := by decide +kernel
theorem dL_law_345 : decode cL_law 345 = .ok (.iload_n 3, 1) := by decide +kernel
theorem dL_law_346 : decode cL_law 346 = .ok (.iconst 2, 1) := by decide +kernel
theorem dL_law_347 : decode cL_law 347 = .ok (.iadd, 1) := by decide +kernel
theorem dL_law_348 : decode cL_law 348 = .ok (.iaload, 1) := by decide +kernel
theorem dL_law_349 : decode cL_law 349 = .ok (.invokevirtual 49, 3) := by decide +kernel
theorem dL_law_352 : decode cL_law 352 = .ok (.aload_n 2, 1) := by decide +kernel
theorem dL_law_353 : decode cL_law 353 = .ok (.aload_n 0, 1) := by decide +kernel
theorem dL_law_354 : decode cL_law 354 = .ok (.iload_n 3, 1) := by decide +kernel
theorem dL_law_355 : decode cL_law 355 = .ok (.iconst 1, 1) := by decide +kernel
theorem dL_law_356 : decode cL_law 356 = .ok (.iadd, 1) := by decide +kernel
theorem dL_law_357 : decode cL_law 357 = .ok (.iaload, 1) := by decide +kernel
theorem dL_law_358 : decode cL_law 358 = .ok (.aload_n 0, 1) := by decide +kernel
theorem dL_law_359 : decode cL_law 359 = .ok (.iload_n 3, 1) := by decide +kernel
theorem dL_law_360 : decode cL_law 360 = .ok (.iconst 2, 1) := by decide +kernel
theorem dL_law_361 : decode cL_law 361 = .ok (.iadd, 1) := by decide +kernel
theorem dL_law_362 : decode cL_law 362 = .ok (.iaload, 1) := by decide +kernel
theorem dL_law_363 : decode cL_law 363 = .ok (.invokevirtual 52, 3) := by decide +kernel
theorem dL_law_366 : decode cL_law 366 = .ok (.if_icmp .eq 245, 3) := by decide +kernel
theorem dL_law_369 : decode cL_law 369 = .ok (.iconst 0, 1) := by decide +kernel
theorem dL_law_370 : decode cL_law 370 = .ok (.ireturn, 1) := by decide +kernel
theorem dL_law_371 : decode cL_law 371 = .ok (.aload_n 1, 1) := by decide +kernel
theorem dL_law_372 : decode cL_law 372 = .ok (.aload_n 0, 1) := by decide +kernel
theorem dL_law_373 : decode cL_law 373 = .ok (.iload_n 3, 1) := by decide +kernel
theorem dL_law_374 : decode cL_law 374 = .ok (.iconst 1, 1) := by decide +kernel
theorem dL_law_375 : decode cL_law 375 = .ok (.iadd, 1) := by decide +kernel
theorem dL_law_376 : decode cL_law 376 = .ok (.iaload, 1) := by decide +kernel
theorem dL_law_377 : decode cL_law 377 = .ok (.aload_n 0, 1) := by decide +kernel
theorem dL_law_378 : decode cL_law 378 = .ok (.iload_n 3, 1) := by decide +kernel
theorem dL_law_379 : decode cL_law 379 = .ok (.iconst 2, 1) := by decide +kernel
theorem dL_law_380 : decode cL_law 380 = .ok (.iadd, 1) := by decide +kernel
theorem dL_law_381 : decode cL_law 381 = .ok (.iaload, 1) := by decide +kernel
theorem dL_law_382 : decode cL_law 382 = .ok (.invokevirtual 53, 3) := by decide +kernel
theorem dL_law_385 : decode cL_law 385 = .ok (.aload_n 2, 1) := by decide +kernel
theorem dL_law_386 : decode cL_law 386 = .ok (.aload_n 0, 1) := by decide +kernel
theorem dL_law_387 : decode cL_law 387 = .ok (.iload_n 3, 1) := by decide +kernel
theorem dL_law_388 : decode cL_law 388 = .ok (.iconst 1, 1) := by decide +kernel
theorem dL_law_389 : decode cL_law 389 = .ok (.iadd, 1) := by decide +kernel
theorem dL_law_390 : decode cL_law 390 = .ok (.iaload, 1) := by decide +kernel
theorem dL_law_391 : decode cL_law 391 = .ok (.aload_n 0, 1) := by decide +kernel
theorem dL_law_392 : decode cL_law 392 = .ok (.iload_n 3, 1) := by decide +kernel
theorem dL_law_393 : decode cL_law 393 = .ok (.iconst 2, 1) := by decide +kernel
theorem dL_law_394 : decode cL_law 394 = .ok (.iadd, 1) := by decide +kernel
theorem dL_law_395 : decode cL_law 395 = .ok (.iaload, 1) := by decide +kernel
theorem dL_law_396 : decode cL_law 396 = .ok (.invokevirtual 56, 3) := by decide +kernel
theorem dL_law_399 : decode cL_law 399 = .ok (.if_icmp .eq 212, 3) := by decide +kernel
theorem dL_law_402 : decode cL_law 402 = .ok (.iconst 0, 1) := by decide +kernel
theorem dL_law_403 : decode cL_law 403 = .ok (.ireturn, 1) := by decide +kernel
theorem dL_law_404 : decode cL_law 404 = .ok (.aload_n 1, 1) := by decide +kernel
theorem dL_law_405 : decode cL_law 405 = .ok (.aload_n 0, 1) := by decide +kernel
theorem dL_law_406 : decode cL_law 406 = .ok (.iload_n 3, 1) := by decide +kernel
theorem dL_law_407 : decode cL_law 407 = .ok (.iconst 1, 1) := by decide +kernel
theorem dL_law_408 : decode cL_law 408 = .ok (.iadd, 1) := by decide +kernel
theorem dL_law_409 : decode cL_law 409 = .ok (.iaload, 1) := by decide +kernel
theorem dL_law_410 : decode cL_law 410 = .ok (.aload_n 0, 1) := by decide +kernel
theorem dL_law_411 : decode cL_law 411 = .ok (.iload_n 3, 1) := by decide +kernel
theorem dL_law_412 : decode cL_law 412 = .ok (.iconst 2, 1) := by decide +kernel
theorem dL_law_413 : decode cL_law 413 = .ok (.iadd, 1) := by decide +kernel
theorem dL_law_414 : decode cL_law 414 = .ok (.iaload, 1) := by decide +kernel
theorem dL_law_415 : decode cL_law 415 = .ok (.invokevirtual 57, 3) := by decide +kernel
theorem dL_law_418 : decode cL_law 418 = .ok (.aload_n 2, 1) := by decide +kernel
theorem dL_law_419 : decode cL_law 419 = .ok (.aload_n 0, 1) := by decide +kernel
theorem dL_law_420 : decode cL_law 420 = .ok (.iload_n 3, 1) := by decide +kernel
theorem dL_law_421 : decode cL_law 421 = .ok (.iconst 1, 1) := by decide +kernel
theorem dL_law_422 : decode cL_law 422 = .ok (.iadd, 1) := by decide +kernel
theorem dL_law_423 : decode cL_law 423 = .ok (.iaload, 1) := by decide +kernel
theorem dL_law_424 : decode cL_law 424 = .ok (.aload_n 0, 1) := by decide +kernel
theorem dL_law_425 : decode cL_law 425 = .ok (.iload_n 3, 1) := by decide +kernel
theorem dL_law_426 : decode cL_law 426 = .ok (.iconst 2, 1) := by decide +kernel
theorem dL_law_427 : decode cL_law 427 = .ok (.iadd, 1) := by decide +kernel
theorem dL_law_428 : decode cL_law 428 = .ok (.iaload, 1) := by decide +kernel
theorem dL_law_429 : decode cL_law 429 = .ok (.invokevirtual 60, 3) := by decide +kernel
theorem dL_law_432 : decode cL_law 432 = .ok (.if_icmp .eq 179, 3) := by decide +kernel
theorem dL_law_435 : decode cL_law 435 = .ok (.iconst 0, 1) := by decide +kernel
theorem dL_law_436 : decode cL_law 436 = .ok (.ireturn, 1) := by decide +kernel
theorem dL_law_437 : decode cL_law 437 = .ok (.aload_n 1, 1) := by decide +kernel
theorem dL_law_438 : decode cL_law 438 = .ok (.aload_n 0, 1) := by decide +kernel
theorem dL_law_439 : decode cL_law 439 = .ok (.iload_n 3, 1) := by decide +kernel
theorem dL_law_440 : decode cL_law 440 = .ok (.iconst 1, 1) := by decide +kernel
theorem dL_law_441 : decode cL_law 441 = .ok (.iadd, 1) := by decide +kernel
theorem dL_law_442 : decode cL_law 442 = .ok (.iaload, 1) := by decide +kernel
theorem dL_law_443 : decode cL_law 443 = .ok (.invokevirtual 61, 3) := by decide +kernel
theorem dL_law_446 : decode cL_law 446 = .ok (.aload_n 2, 1) := by decide +kernel
theorem dL_law_447 : decode cL_law 447 = .ok (.aload_n 0, 1) := by decide +kernel
theorem dL_law_448 : decode cL_law 448 = .ok (.iload_n 3, 1) := by decide +kernel
theorem dL_law_449 : decode cL_law 449 = .ok (.iconst 1, 1) := by decide +kernel
theorem dL_law_450 : decode cL_law 450 = .ok (.iadd, 1) := by decide +kernel
theorem dL_law_451 : decode cL_law 451 = .ok (.iaload, 1) := by decide +kernel
theorem dL_law_452 : decode cL_law 452 = .ok (.invokevirtual 64, 3) := by decide +kernel
theorem dL_law_455 : decode cL_law 455 = .ok (.if_icmp .eq 156, 3) := by decide +kernel
theorem dL_law_458 : decode cL_law 458 = .ok (.iconst 0, 1) := by decide +kernel
theorem dL_law_459 : decode cL_law 459 = .ok (.ireturn, 1) := by decide +kernel
theorem dL_law_460 : decode cL_law 460 = .ok (.aload_n 1, 1) := by decide +kernel
theorem dL_law_461 : decode cL_law 461 = .ok (.aload_n 0, 1) := by decide +kernel
theorem dL_law_462 : decode cL_law 462 = .ok (.iload_n 3, 1) := by decide +kernel
theorem dL_law_463 : decode cL_law 463 = .ok (.iconst 1, 1) := by decide +kernel
theorem dL_law_464 : decode cL_law 464 = .ok (.iadd, 1) := by decide +kernel
theorem dL_law_465 : decode cL_law 465 = .ok (.iaload, 1) := by decide +kernel
theorem dL_law_466 : decode cL_law 466 = .ok (.aload_n 0, 1) := by decide +kernel
theorem dL_law_467 : decode cL_law 467 = .ok (.iload_n 3, 1) := by decide +kernel
theorem dL_law_468 : decode cL_law 468 = .ok (.iconst 2, 1) := by decide +kernel
theorem dL_law_469 : decode cL_law 469 = .ok (.iadd, 1) := by decide +kernel
theorem dL_law_470 : decode cL_law 470 = .ok (.iaload, 1) := by decide +kernel
theorem dL_law_471 : decode cL_law 471 = .ok (.invokevirtual 65, 3) := by decide +kernel
theorem dL_law_474 : decode cL_law 474 = .ok (.aload_n 2, 1) := by decide +kernel
theorem dL_law_475 : decode cL_law 475 = .ok (.aload_n 0, 1) := by decide +kernel
theorem dL_law_476 : decode cL_law 476 = .ok (.iload_n 3, 1) := by decide +kernel
theorem dL_law_477 : decode cL_law 477 = .ok (.iconst 1, 1) := by decide +kernel
theorem dL_law_478 : decode cL_law 478 = .ok (.iadd, 1) := by decide +kernel
theorem dL_law_479 : decode cL_law 479 = .ok (.iaload, 1) := by decide +kernel
theorem dL_law_480 : decode cL_law 480 = .ok (.aload_n 0, 1) := by decide +kernel
theorem dL_law_481 : decode cL_law 481 = .ok (.iload_n 3, 1) := by decide +kernel
theorem dL_law_482 : decode cL_law 482 = .ok (.iconst 2, 1) := by decide +kernel
theorem dL_law_483 : decode cL_law 483 = .ok (.iadd, 1) := by decide +kernel
theorem dL_law_484 : decode cL_law 484 = .ok (.iaload, 1) := by decide +kernel
theorem dL_law_485 : decode cL_law 485 = .ok (.invokevirtual 68, 3) := by decide +kernel
theorem dL_law_488 : decode cL_law 488 = .ok (.if_icmp .eq 123, 3) := by decide +kernel
theorem dL_law_491 : decode cL_law 491 = .ok (.iconst 0, 1) := by decide +kernel
theorem dL_law_492 : decode cL_law 492 = .ok (.ireturn, 1) := by decide +kernel
theorem dL_law_493 : decode cL_law 493 = .ok (.aload_n 1, 1) := by decide +kernel
theorem dL_law_494 : decode cL_law 494 = .ok (.invokevirtual 69, 3) := by decide +kernel
theorem dL_law_497 : decode cL_law 497 = .ok (.aload_n 2, 1) := by decide +kernel
theorem dL_law_498 : decode cL_law 498 = .ok (.invokevirtual 72, 3) := by decide +kernel
theorem dL_law_501 : decode cL_law 501 = .ok (.if_icmp .eq 110, 3) := by decide +kernel
theorem dL_law_504 : decode cL_law 504 = .ok (.iconst 0, 1) := by decide +kernel
theorem dL_law_505 : decode cL_law 505 = .ok (.ireturn, 1) := by decide +kernel
theorem dL_law_506 : decode cL_law 506 = .ok (.aload_n 1, 1) := by decide +kernel
theorem dL_law_507 : decode cL_law 507 = .ok (.aload_n 0, 1) := by decide +kernel
theorem dL_law_508 : decode cL_law 508 = .ok (.iload_n 3, 1) := by decide +kernel
theorem dL_law_509 : decode cL_law 509 = .ok (.iconst 1, 1) := by decide +kernel
theorem dL_law_510 : decode cL_law 510 = .ok (.iadd, 1) := by decide +kernel
theorem dL_law_511 : decode cL_law 511 = .ok (.iaload, 1) := by decide +kernel
theorem dL_law_512 : decode cL_law 512 = .ok (.invokevirtual 73, 3) := by decide +kernel
theorem dL_law_515 : decode cL_law 515 = .ok (.aload_n 2, 1) := by decide +kernel
theorem dL_law_516 : decode cL_law 516 = .ok (.aload_n 0, 1) := by decide +kernel
theorem dL_law_517 : decode cL_law 517 = .ok (.iload_n 3, 1) := by decide +kernel
theorem dL_law_518 : decode cL_law 518 = .ok (.iconst 1, 1) := by decide +kernel
theorem dL_law_519 : decode cL_law 519 = .ok (.iadd, 1) := by decide +kernel
theorem dL_law_520 : decode cL_law 520 = .ok (.iaload, 1) := by decide +kernel
theorem dL_law_521 : decode cL_law 521 = .ok (.invokevirtual 76, 3) := by decide +kernel
theorem dL_law_524 : decode cL_law 524 = .ok (.if_icmp .eq 87, 3) := by decide +kernel
theorem dL_law_527 : decode cL_law 527 = .ok (.iconst 0, 1) := by decide +kernel
theorem dL_law_528 : decode cL_law 528 = .ok (.ireturn, 1) := by decide +kernel
theorem dL_law_529 : decode cL_law 529 = .ok (.aload_n 1, 1) := by decide +kernel
theorem dL_law_530 : decode cL_law 530 = .ok (.invokevirtual 77, 3) := by decide +kernel
theorem dL_law_533 : decode cL_law 533 = .ok (.aload_n 2, 1) := by decide +kernel
theorem dL_law_534 : decode cL_law 534 = .ok (.invokevirtual 80, 3) := by decide +kernel
theorem dL_law_537 : decode cL_law 537 = .ok (.if_icmp .eq 74, 3) := by decide +kernel
theorem dL_law_540 : decode cL_law 540 = .ok (.iconst 0, 1) := by decide +kernel
theorem dL_law_541 : decode cL_law 541 = .ok (.ireturn, 1) := by decide +kernel
theorem dL_law_542 : decode cL_law 542 = .ok (.aload_n 1, 1) := by decide +kernel
theorem dL_law_543 : decode cL_law 543 = .ok (.aload_n 0, 1) := by decide +kernel
theorem dL_law_544 : decode cL_law 544 = .ok (.iload_n 3, 1) := by decide +kernel
theorem dL_law_545 : decode cL_law 545 = .ok (.iconst 1, 1) := by decide +kernel
theorem dL_law_546 : decode cL_law 546 = .ok (.iadd, 1) := by decide +kernel
theorem dL_law_547 : decode cL_law 547 = .ok (.iaload, 1) := by decide +kernel
theorem dL_law_548 : decode cL_law 548 = .ok (.invokevirtual 81, 3) := by decide +kernel
theorem dL_law_551 : decode cL_law 551 = .ok (.aload_n 2, 1) := by decide +kernel
theorem dL_law_552 : decode cL_law 552 = .ok (.aload_n 0, 1) := by decide +kernel
theorem dL_law_553 : decode cL_law 553 = .ok (.iload_n 3, 1) := by decide +kernel
theorem dL_law_554 : decode cL_law 554 = .ok (.iconst 1, 1) := by decide +kernel
theorem dL_law_555 : decode cL_law 555 = .ok (.iadd, 1) := by decide +kernel
theorem dL_law_556 : decode cL_law 556 = .ok (.iaload, 1) := by decide +kernel
theorem dL_law_557 : decode cL_law 557 = .ok (.invokevirtual 84, 3) := by decide +kernel
theorem dL_law_560 : decode cL_law 560 = .ok (.if_icmp .eq 51, 3) := by decide +kernel
theorem dL_law_563 : decode cL_law 563 = .ok (.iconst 0, 1) := by decide +kernel
theorem dL_law_564 : decode cL_law 564 = .ok (.ireturn, 1) := by decide +kernel
theorem dL_law_565 : decode cL_law 565 = .ok (.aload_n 1, 1) := by decide +kernel
theorem dL_law_566 : decode cL_law 566 = .ok (.aload_n 0, 1) := by decide +kernel
theorem dL_law_567 : decode cL_law 567 = .ok (.iload_n 3, 1) := by decide +kernel
theorem dL_law_568 : decode cL_law 568 = .ok (.iconst 1, 1) := by decide +kernel
theorem dL_law_569 : decode cL_law 569 = .ok (.iadd, 1) := by decide +kernel
theorem dL_law_570 : decode cL_law 570 = .ok (.iaload, 1) := by decide +kernel
theorem dL_law_571 : decode cL_law 571 = .ok (.invokevirtual 85, 3) := by decide +kernel
theorem dL_law_574 : decode cL_law 574 = .ok (.aload_n 2, 1) := by decide +kernel
theorem dL_law_575 : decode cL_law 575 = .ok (.aload_n 0, 1) := by decide +kernel
theorem dL_law_576 : decode cL_law 576 = .ok (.iload_n 3, 1) := by decide +kernel
theorem dL_law_577 : decode cL_law 577 = .ok (.iconst 1, 1) := by decide +kernel
theorem dL_law_578 : decode cL_law 578 = .ok (.iadd, 1) := by decide +kernel
theorem dL_law_579 : decode cL_law 579 = .ok (.iaload, 1) := by decide +kernel
theorem dL_law_580 : decode cL_law 580 = .ok (.invokevirtual 88, 3) := by decide +kernel
theorem dL_law_583 : decode cL_law 583 = .ok (.if_icmp .eq 28, 3) := by decide +kernel
theorem dL_law_586 : decode cL_law 586 = .ok (.iconst 0, 1) := by decide +kernel
theorem dL_law_587 : decode cL_law 587 = .ok (.ireturn, 1) := by decide +kernel
theorem dL_law_588 : decode cL_law 588 = .ok (.aload_n 1, 1) := by decide +kernel
theorem dL_law_589 : decode cL_law 589 = .ok (.aload_n 0, 1) := by decide +kernel
theorem dL_law_590 : decode cL_law 590 = .ok (.iload_n 3, 1) := by decide +kernel
theorem dL_law_591 : decode cL_law 591 = .ok (.iconst 1, 1) := by decide +kernel
theorem dL_law_592 : decode cL_law 592 = .ok (.iadd, 1) := by decide +kernel
theorem dL_law_593 : decode cL_law 593 = .ok (.iaload, 1) := by decide +kernel
theorem dL_law_594 : decode cL_law 594 = .ok (.invokevirtual 89, 3) := by decide +kernel
theorem dL_law_597 : decode cL_law 597 = .ok (.aload_n 2, 1) := by decide +kernel
theorem dL_law_598 : decode cL_law 598 = .ok (.aload_n 0, 1) := by decide +kernel
theorem dL_law_599 : decode cL_law 599 = .ok (.iload_n 3, 1) := by decide +kernel
theorem dL_law_600 : decode cL_law 600 = .ok (.iconst 1, 1) := by decide +kernel
theorem dL_law_601 : decode cL_law 601 = .ok (.iadd, 1) := by decide +kernel
theorem dL_law_602 : decode cL_law 602 = .ok (.iaload, 1) := by decide +kernel
theorem dL_law_603 : decode cL_law 603 = .ok (.invokevirtual 92, 3) := by decide +kernel
theorem dL_law_606 : decode cL_law 606 = .ok (.if_icmp .eq 5, 3) := by decide +kernel
theorem dL_law_609 : decode cL_law 609 = .ok (.iconst 0, 1) := by decide +kernel
theorem dL_law_610 : decode cL_law 610 = .ok (.ireturn, 1) := by decide +kernel
theorem dL_law_611 : decode cL_law 611 = .ok (.iinc 3 4, 3) := by decide +kernel
theorem dL_law_614 : decode cL_law 614 = .ok (.goto (-596), 3) := by decide +kernel
theorem dL_law_617 : decode cL_law 617 = .ok (.iconst 1, 1) := by decide +kernel
theorem dL_law_618 : decode cL_law 618 = .ok (.ireturn, 1) := by decide +kernel
end
section
/-! THE ABSTRACT MACHINE. Cells by numbers (am_sh: what each is), memory a function of cell and place, ints as Int (an int of the machine is Int32.ofInt of it). AW: the machine inside a method, from a pc on; AC: a method's contract. -/
abbrev am_v : Type := Int ⊕ Nat
abbrev am_M : Type := Nat → Int → Int
abbrev am_S : Type := (Nat × Nat) ⊕ (Nat × List (Option Nat))
abbrev am_mm : Type := MethodName × ByteArray × Nat × Option FieldType
abbrev am_cl : List vw_C := [(RX0, TX0, 2), (RX1, TX1, 7), (RX2, TX2, 4), (RX3, TX3, 4), (RX4, TX4, 6), (RX5, TX5, 5), (RX6, TX6, 10), (RX7, TX7, 12), (RX8, TX8, 23)]
def am_T : List Cond := lw_tbl.filter goodWord
def am_w (mm : am_mm) : List Cond := .code mm.1 mm.2.1 mm.2.2.1 mm.2.2.2 :: am_T
def am_room (d : Nat) : Room := { frames := d, cells := 0, slots := 0, locals := 39 * d }
/-- array kinds: 0 int, 1 char, 2 boolean, 3 byte, 4 Scene -/
def am_sh : List am_S := [
  .inr (7, [some 1, some 4, some 7, some 9, some 29, some 30, some 31, some 36, some 41, some 51, none, none]),
  .inr (3, [none, none, some 2, some 3]), .inl (0, 3), .inl (0, 96),
  .inr (3, [none, none, some 5, some 6]), .inl (0, 3), .inl (0, 96),
  .inr (5, [none, some 8, none, none, none]), .inl (1, 140),
  .inr (0, [none, some 10]), .inl (4, 6),
  .inr (3, [none, none, some 12, some 13]), .inl (0, 3), .inl (0, 96),
  .inr (3, [none, none, some 15, some 16]), .inl (0, 3), .inl (0, 96),
  .inr (3, [none, none, some 18, some 19]), .inl (0, 3), .inl (0, 96),
  .inr (3, [none, none, some 21, some 22]), .inl (0, 3), .inl (0, 96),
  .inr (3, [none, none, some 24, some 25]), .inl (0, 3), .inl (0, 96),
  .inr (3, [none, none, some 27, some 28]), .inl (0, 3), .inl (0, 96),
  .inl (4, 2), .inl (2, 2),
  .inr (2, [some 32, some 33, some 34, some 35]), .inl (0, 8), .inl (0, 48), .inl (0, 48), .inl (0, 48),
  .inr (1, [some 37, some 38, some 39, some 40, none, none, none]), .inl (0, 6), .inl (0, 6), .inl (0, 6), .inl (0, 49),
  .inr (6, [none, some 42, some 43, some 44, some 45, some 46, some 47, some 48, some 49, some 50]), .inl (0, 48), .inl (0, 48), .inl (0, 48), .inl (0, 48), .inl (0, 48), .inl (0, 48), .inl (0, 384), .inl (0, 48), .inl (0, 48),
  .inr (4, [none, some 52, some 53, none, some 54, some 55]), .inl (0, 6), .inl (0, 6), .inl (0, 48), .inl (0, 55),
  .inr (3, [none, none, some 57, some 58]), .inl (0, 3), .inl (0, 96),
  .inr (3, [none, none, some 60, some 61]), .inl (0, 3), .inl (0, 96),
  .inr (8, [none, some 63, some 64, some 65, none, some 66, some 67, some 68, none, some 69, none, none, none, none, none, some 70, some 71, some 72, some 73, none, some 74, none, none]),
  .inl (0, 101), .inl (0, 101), .inl (0, 606), .inl (0, 202), .inl (2, 2), .inl (0, 12), .inl (3, 140), .inl (0, 8), .inl (0, 48), .inl (0, 48), .inl (0, 48), .inl (0, 49)]
def am_val (ad : Nat → Nat) : am_v → Value
  | .inl z => .int (Int32.ofInt z)
  | .inr a => .ref (ad a)
def am_fv (ad : Nat → Nat) (M : am_M) (a k : Nat) : Option Nat → Value
  | none => .int (Int32.ofInt (M a (k : Int)))
  | some b => .ref (ad b)
def am_cell (dA : Nat → ClassId) (ad : Nat → Nat) (M : am_M) (a : Nat) : am_S → va_E
  | .inl q => if q.1 = 4 then .inl (dA 4, q.2, .inr (.inr (.inr (.inr (fun j => some (ad (M a (j : Int)).toNat)))))) else .inl (dA q.1, q.2, .inl (fun j => Int32.ofInt (M a (j : Int))))
  | .inr q => .inr (q.1, q.2.mapIdx (fun k o => am_fv ad M a k o))
def am_ws (dA : Nat → ClassId) (ad : Nat → Nat) (M : am_M) : va_W := am_sh.mapIdx (fun a s => (ad a, am_cell dA ad M a s))
def am_tys (dA : Nat → ClassId) : List (ClassId × FieldType) := [(dA 0, .int), (dA 1, .char), (dA 2, .boolean), (dA 3, .byte), (dA 4, .object RX3)]
def am_A (ad : Nat → Nat) : Nat → Prop := fun q => ∃ a, a < am_sh.length ∧ q = ad a
def am_inj (ad : Nat → Nat) : Prop := ∀ a b, a < am_sh.length → b < am_sh.length → ad a = ad b → a = b
/-- memory with one place changed -/
def am_up (M : am_M) (a : Nat) (i z : Int) : am_M := fun b j => if b = a then (if j = i then z else M b j) else M b j
/-- a method's own list of what is known of its locals, at its start -/
def am_L : Nat → List am_v → List (Nat × am_v)
  | _, [] => []
  | i, v :: vs => (i, v) :: am_L (i + 1) vs
/-- static rows of ints -/
def am_tb (xs : List Int) : Nat → Value := fun j => .int (Int32.ofInt (xs.getD j 0))
def am_lo : List Int := [1, 0, 1]
def am_hi : List Int := [9, 20, 8]
def am_fi : List Int := [1, 4, 1]
def am_byt : List (List Int32) := [[102, 114, 97, 109, 101], [102, 108, 111, 111, 114], [114, 101, 97, 99, 104], [108, 101, 97, 115, 116]]
/-- what nobody changes: statics, String constants, nest words -/
def am_K (ad : Nat → Nat) (U : State) : Prop :=
  (va_Z "FollowedPeaks" "SETTING_LOWEST" "[I" (.ref (ad 100)) (am_A ad) U U.heap ∧ va_T .int (ad 100) 3 (am_tb am_lo) (am_A ad) U U.heap) ∧
  (va_Z "FollowedPeaks" "SETTING_HIGHEST" "[I" (.ref (ad 101)) (am_A ad) U U.heap ∧ va_T .int (ad 101) 3 (am_tb am_hi) (am_A ad) U U.heap) ∧
  (va_Z "FollowedPeaks" "SETTING_AT_FIRST" "[I" (.ref (ad 102)) (am_A ad) U U.heap ∧ va_T .int (ad 102) 3 (am_tb am_fi) (am_A ad) U U.heap) ∧
  (va_Nw (.fieldLinkNest "FollowedPeaks$Scene" 28 "FollowedPeaks" "SETTING_AT_FIRST" "[I" "FollowedPeaks") U ∧ va_Nw (.methodLinkNest "FollowedPeaks$Text" 71 yX7_isSetting "FollowedPeaks") U) ∧
  (vk_S 4 [5, 5, 5, 5] am_byt (fun i => ad (110 + i)) (fun i => ad (120 + i)) (am_A ad) U U.heap ∧ vk_R "FollowedPeaks$Text" 43 "frame" (ad 110) U ∧ vk_R "FollowedPeaks$Text" 79 "floor" (ad 111) U ∧ vk_R "FollowedPeaks$Text" 81 "reach" (ad 112) U ∧ vk_R "FollowedPeaks$Text" 83 "least" (ad 113) U) ∧
  (va_Z "java/lang/String" "COMPACT_STRINGS" "Z" (.int 1) (am_A ad) U U.heap ∧ va_Zq "jdk/internal/util/Preconditions" "SIOOBE_FORMATTER" "Ljava/util/function/BiFunction;" (am_A ad) U U.heap)
def am_Pre (D : va_G) (dA : Nat → ClassId) (ad : Nat → Nat) (M : am_M) (U : State) : Prop := va_P D am_cl (am_ws dA ad M) U.heap ∧ va_K D am_cl (am_tys dA) U ∧ am_K ad U
def am_iv (z : Int) : Value := .int (Int32.ofInt z)
def am_Qc (D : va_G) (dA : Nat → ClassId) (ad : Nat → Nat) (Q : Option Int → am_M → Prop) : Array Value → State → Outcome → State → Prop := fun _ st oc t =>
  (∃ (r : Option Int) (M' : am_M), oc = .returned (r.map am_iv) ∧ Q r M' ∧ va_P D am_cl (am_ws dA ad M') t.heap) ∧ va_F (am_A ad) st t
def am_Ctx (mm : am_mm) (p : Program) (s : State) (m : MethodId) (args : Array Value) (meth : Method) (c : Code) (D : va_G) (dA : Nat → ClassId) (ad : Nat → Nat) : Prop :=
  p.tables.exec = Jvm.exec ∧ c.code = mm.2.1 ∧ meth.sig.returnType = mm.2.2.2 ∧ c.maxLocals = mm.2.2.1 ∧ meth.locks = false ∧ s.vm.findClass mm.1.cls = some m.cls ∧ (∀ w ∈ am_w mm, w.before args s = true) ∧ va_K D am_cl (am_tys dA) s ∧ am_inj ad ∧ am_K ad s
/-- the machine inside method mm at pc, locals L, stack st, memory M: it comes to a return with Q -/
def AW (d : Nat) (mm : am_mm) (pc : Nat) (L : List (Nat × am_v)) (st : List am_v) (M : am_M) (Q : Option Int → am_M → Prop) : Prop :=
  ∀ (p : Program) (l : Launch) (e : Env) (s : State) (m : MethodId) (args : Array Value) (below : List Frame) (meth : Method) (c : Code) (D : va_G) (dA : Nat → ClassId) (ad : Nat → Nat) (H : Heap) (locs : List Loc) (ls : Array Slot),
    am_Ctx mm p s m args meth c D dA ad → va_P D am_cl (am_ws dA ad M) H → va_S (am_A ad) s.heap H locs → lv_has ls mm.2.2.1 (L.map (fun q => (q.1, am_val ad q.2))) →
    W p l e (am_room d) s m args below meth c H locs 0 0 (MQ below (am_Qc D dA ad Q) args s 0 0 (am_A ad)) (F0 m pc ls (st.map (am_val ad)))
/-- a method's contract: called with these arguments in memory M it returns with Q -/
def AC (d : Nat) (mm : am_mm) (as : List am_v) (M : am_M) (Q : Option Int → am_M → Prop) : Prop :=
  ∀ (l : Launch) (D : va_G) (dA : Nat → ClassId) (ad : Nat → Nat), am_inj ad → Met l mm.1 (am_w mm) (am_room d) (va_Pc (as.map (am_val ad)) (am_Pre D dA ad M)) (am_Qc D dA ad Q) 0 0 (am_A ad)
theorem am_ws_get {dA : Nat → ClassId} {ad : Nat → Nat} {M : am_M} {a : Nat} {s : am_S} (h : am_sh[a]? = some s) : (am_ws dA ad M)[a]? = some (ad a, am_cell dA ad M a s) := by
  simp [am_ws, List.getElem?_mapIdx, h]
theorem am_ws_at {dA : Nat → ClassId} {ad : Nat → Nat} {M : am_M} {a : Nat} {q : Nat × va_E} (h : (am_ws dA ad M)[a]? = some q) : a < am_sh.length ∧ q.1 = ad a := by
  have h1 : a < (am_ws dA ad M).length := (List.getElem?_eq_some_iff.mp h).1
  have h2 : a < am_sh.length := by simpa [am_ws] using h1
  refine ⟨h2, ?_⟩
  rw [am_ws_get (List.getElem?_eq_getElem h2)] at h
  cases h
  rfl
theorem am_cell_congr {dA : Nat → ClassId} {ad : Nat → Nat} {M M' : am_M} {a : Nat} (s : am_S) (h : M' a = M a) : am_cell dA ad M' a s = am_cell dA ad M a s := by
  cases s with
  | inl q => simp only [am_cell, h]
  | inr q =>
    simp only [am_cell]
    congr 2
    congr 1
    funext k o
    cases o <;> simp only [am_fv, h]
theorem am_ws_put {D : va_G} {dA : Nat → ClassId} {ad : Nat → Nat} {M M' : am_M} {a : Nat} {s : am_S} {e : va_E} {H : Heap} (h : am_sh[a]? = some s) (he : e = am_cell dA ad M' a s) (hM : ∀ b, b ≠ a → M' b = M b) (hP : va_P D am_cl ((am_ws dA ad M).set a (ad a, e)) H) : va_P D am_cl (am_ws dA ad M') H := by
  have hl : a < (am_ws dA ad M).length := (List.getElem?_eq_some_iff.mp (am_ws_get (dA := dA) (ad := ad) (M := M) h)).1
  have key : (am_ws dA ad M).set a (ad a, e) = am_ws dA ad M' := by
    apply List.ext_getElem?
    intro k
    by_cases hk : k = a
    · subst hk
      rw [List.getElem?_set_self hl, am_ws_get h, he]
    · rw [List.getElem?_set_ne (Ne.symm hk)]
      simp only [am_ws, List.getElem?_mapIdx]
      cases am_sh[k]? with
      | none => rfl
      | some q => simp only [Option.map_some, am_cell_congr q (hM k hk)]
  rw [← key]
  exact hP
theorem am_D {dA : Nat → ClassId} {ad : Nat → Nat} {M : am_M} (h : am_inj ad) : va_D (am_A ad) (am_ws dA ad M) := by
  refine ⟨fun i j p q hi hj hpq => ?_, fun k q hk => ?_⟩
  · obtain ⟨l1, e1⟩ := am_ws_at hi
    obtain ⟨l2, e2⟩ := am_ws_at hj
    exact h i j l1 l2 (by rw [← e1, ← e2]; exact hpq)
  · obtain ⟨l1, e1⟩ := am_ws_at hk
    exact ⟨k, l1, e1⟩
theorem am_up_ne (M : am_M) (a : Nat) (i z : Int) (b : Nat) (h : b ≠ a) : am_up M a i z b = M b := by
  funext j
  simp [am_up, h]
theorem am_small : ∀ (a k n : Nat), am_sh[a]? = some (Sum.inl (k, n)) → n < 1000 := by
  have h : am_sh.all (fun s => match s with | .inl q => decide (q.2 < 1000) | .inr _ => true) = true := by decide +kernel
  intro a k n ha
  have := List.all_eq_true.mp h _ (List.mem_of_getElem? ha)
  simpa using this
theorem am_in {i : Int} {n : Nat} (hn : n < 1000) (h : 0 ≤ i ∧ i < n) : vp_in (Int32.ofInt i) n ∧ (Int32.ofInt i).toNatClampNeg = i.toNat := by
  have e : (Int32.ofInt i).toInt = i := Int32.toInt_ofInt_of_le (by omega) (by omega)
  refine ⟨vp_in_iff.mpr ⟨by rw [e]; exact h.1, by rw [e]; exact h.2⟩, ?_⟩
  exact Int32.toNatClampNeg_ofInt_of_le (by omega) (by omega)
theorem am_lt {x y : Int} (hx : -2147483648 ≤ x ∧ x < 2147483648) (hy : -2147483648 ≤ y ∧ y < 2147483648) : Int32.ofInt x < Int32.ofInt y ↔ x < y := by
  rw [Int32.lt_iff_toInt_lt, Int32.toInt_ofInt_of_le (by omega) (by omega), Int32.toInt_ofInt_of_le (by omega) (by omega)]
theorem am_le {x y : Int} (hx : -2147483648 ≤ x ∧ x < 2147483648) (hy : -2147483648 ≤ y ∧ y < 2147483648) : Int32.ofInt x ≤ Int32.ofInt y ↔ x ≤ y := by
  rw [Int32.le_iff_toInt_le, Int32.toInt_ofInt_of_le (by omega) (by omega), Int32.toInt_ofInt_of_le (by omega) (by omega)]
theorem am_eq {x y : Int} (hx : -2147483648 ≤ x ∧ x < 2147483648) (hy : -2147483648 ≤ y ∧ y < 2147483648) : Int32.ofInt x = Int32.ofInt y ↔ x = y := by
  rw [← Int32.toInt_inj, Int32.toInt_ofInt_of_le (by omega) (by omega), Int32.toInt_ofInt_of_le (by omega) (by omega)]
theorem am_ofNat (n : Nat) : Int32.ofNat n = Int32.ofInt (n : Int) := Int32.ofInt_eq_ofNat.symm
/-- the constants of a state, in a state that differs by what was written in our cells -/
theorem am_K.go {ad : Nat → Nat} {s U : State} {H : Heap} {locs : List Loc} (h : am_K ad s) (hS : va_S (am_A ad) s.heap H locs) (hU : U.heap = H) (hW : s.WarmedH U.vm) : am_K ad U := by
  obtain ⟨⟨a1, a2⟩, ⟨b1, b2⟩, ⟨c1, c2⟩, ⟨d1, d2⟩, ⟨e1, e2, e3, e4, e5⟩, f1, f2⟩ := h
  have hq : ∀ a : Nat, a < s.heap.size → ¬ am_A ad a → U.heap[a]? = s.heap[a]? := fun a g1 g2 => by rw [hU]; exact hS.2.1 a g1 g2
  have hv := hW.alike
  exact ⟨⟨(a1.kept hq).moved hv, (a2.kept hq).moved hv⟩, ⟨(b1.kept hq).moved hv, (b2.kept hq).moved hv⟩, ⟨(c1.kept hq).moved hv, (c2.kept hq).moved hv⟩, ⟨va_Nw.warmF hW d1, va_Nw.warmM hW d2⟩, ⟨(e1.kept hq).moved hv, e2.warm hW, e3.warm hW, e4.warm hW, e5.warm hW⟩, (f1.kept hq).moved hv, (f2.kept hq).moved hv⟩
theorem am_K.frame {ad : Nat → Nat} {u U : State} (h : am_K ad u) (hh : U.heap = u.heap) (hv : U.vm = u.vm) : am_K ad U := by
  obtain ⟨⟨a1, a2⟩, ⟨b1, b2⟩, ⟨c1, c2⟩, ⟨d1, d2⟩, ⟨e1, e2, e3, e4, e5⟩, f1, f2⟩ := h
  have hal : u.vm.Alike U.vm := by rw [hv]; exact Vm.Alike.refl _
  refine ⟨?_, ?_, ?_, ⟨va_tabs rfl hv.symm d1, va_tabs rfl hv.symm d2⟩, ⟨?_, e2.same hv, e3.same hv, e4.same hv, e5.same hv⟩, ?_, ?_⟩
  all_goals rw [hh]
  · exact ⟨a1.moved hal, a2.moved hal⟩
  · exact ⟨b1.moved hal, b2.moved hal⟩
  · exact ⟨c1.moved hal, c2.moved hal⟩
  · exact e1.moved hal
  · exact f1.moved hal
  · exact f2.moved hal
theorem am_blind {D : va_G} {dA : Nat → ClassId} {ad : Nat → Nat} {M : am_M} {av : List Value} : FrameBlind (va_Pc av (am_Pre D dA ad M)) := by
  intro a U g mk h
  obtain ⟨h0, hP, hK, hC⟩ := h
  exact ⟨h0, hP, va_K.moved (u := U) (U := U.calling g mk a) (Vm.Alike.refl U.vm) hK, hC.frame rfl rfl⟩
theorem am_args (ad : Nat → Nat) : ∀ (i : Nat) (as : List am_v), lv_args i (as.map (am_val ad)) = (am_L i as).map (fun q => (q.1, am_val ad q.2))
  | _, [] => rfl
  | i, v :: vs => by
    have hc : (am_val ad v).category = 1 := by cases v <;> rfl
    simp only [List.map_cons, lv_args, am_L, hc]
    rw [if_neg (by decide), am_args ad (i + 1) vs]
theorem am_sl (ad : Nat → Nat) : ∀ (as : List am_v), (lg_sl (as.map (am_val ad))).length = as.length
  | [] => rfl
  | v :: vs => by
    have hc : (am_val ad v).category = 1 := by cases v <;> rfl
    have := am_sl ad vs
    simp only [lg_sl, List.map_cons, List.flatMap_cons, hc] at this ⊢
    rw [if_neg (by decide)]
    simp [this]
/-- a method's contract out of the walk of its body -/
theorem aw_body {d : Nat} {mm : am_mm} {as : List am_v} {M : am_M} {Q : Option Int → am_M → Prop} {L : List (Nat × am_v)} (hy : plainName mm.1.cls = true) (hn : as.length ≤ mm.2.2.1) (hL : am_L 0 as = L) (h : AW d mm 0 L [] M Q) : AC d mm as M Q := by
  intro l D dA ad hinj
  refine Met.ofW (cc := mm.2.1) (maxL := mm.2.2.1) (ret := mm.2.2.2) hy rfl ?_
  intro p e s m args below meth c s₁ B hml hv
  obtain ⟨rfl, hP, hK, hC⟩ := hv
  have hts := atoms_spec (ws := am_w mm) B.pre
  have hown : s.vm.findClass mm.1.cls = some m.cls := findClass_of_methodNamed B.named
  have hl := lv_entry (as.map (am_val ad)) (n := mm.2.2.1) (by rw [am_sl]; exact hn)
  rw [lg_entry_eq]
  generalize (lg_sl (as.map (am_val ad)) ++ List.replicate (mm.2.2.1 - (lg_sl (as.map (am_val ad))).length) Slot.unset).toArray = ls at hl ⊢
  rw [am_args, hL] at hl
  exact h p l e s m _ below meth c D dA ad s.heap [] ls ⟨B.exec, B.bytes, B.returns, hml, B.notSynchronized, hown, hts, hK, hinj, hC⟩ hP va_S.rf hl
/-- fewer locals -/
theorem aw_sub {d : Nat} {mm : am_mm} {pc : Nat} {L L' : List (Nat × am_v)} {st : List am_v} {M : am_M} {Q : Option Int → am_M → Prop} (ks : List Nat) (hL : ks.filterMap (fun k => L[k]?) = L') (h : AW d mm pc L' st M Q) : AW d mm pc L st M Q := by
  intro p l e s m args below meth c D dA ad H locs ls C hP hS hl
  refine h p l e s m args below meth c D dA ad H locs ls C hP hS (lv_sub hl ks ?_)
  rw [← hL]
  unfold lv_pick
  rw [List.map_filterMap]
  congr 1
  funext k
  simp
/-- a stronger end -/
theorem AW.mono {d : Nat} {mm : am_mm} {pc : Nat} {L : List (Nat × am_v)} {st : List am_v} {M : am_M} {Q Q' : Option Int → am_M → Prop} (hQ : ∀ r M', Q r M' → Q' r M') (h : AW d mm pc L st M Q) : AW d mm pc L st M Q' := by
  intro p l e s m args below meth c D dA ad H locs ls C hP hS hl T hT X
  obtain ⟨t, h1, o, h2, h3, ⟨⟨r, M', h4, h5, h6⟩, h7⟩, h8⟩ := h p l e s m args below meth c D dA ad H locs ls C hP hS hl T hT X
  exact ⟨t, h1, o, h2, h3, ⟨⟨r, M', h4, hQ r M' h5, h6⟩, h7⟩, h8⟩
end
section
/-! the abstract machine's steps: a row an instruction -/
def am_ins (i : Nat) (v : am_v) : List (Nat × am_v) → List (Nat × am_v)
  | [] => [(i, v)]
  | q :: l => if i < q.1 then (i, v) :: q :: l else q :: am_ins i v l
def am_st (i : Nat) (v : am_v) (L : List (Nat × am_v)) : List (Nat × am_v) := am_ins i v (L.filter (fun q => !(q.1 == i)))
theorem am_ins_mem {i : Nat} {v : am_v} {q : Nat × am_v} : ∀ {l : List (Nat × am_v)}, q ∈ am_ins i v l → q = (i, v) ∨ q ∈ l
  | [], h => by simp only [am_ins, List.mem_singleton] at h; exact Or.inl h
  | a :: l, h => by
    unfold am_ins at h
    by_cases hi : i < a.1
    · rw [if_pos hi] at h
      rcases List.mem_cons.mp h with h | h
      · exact Or.inl h
      · exact Or.inr h
    · rw [if_neg hi] at h
      rcases List.mem_cons.mp h with h | h
      · exact Or.inr (List.mem_cons.mpr (Or.inl h))
      · rcases am_ins_mem h with h | h
        · exact Or.inl h
        · exact Or.inr (List.mem_cons_of_mem _ h)
theorem am_st_mem {i : Nat} {v : am_v} {q : Nat × am_v} {L : List (Nat × am_v)} (h : q ∈ am_st i v L) : q = (i, v) ∨ (q ∈ L ∧ q.1 ≠ i) := by
  rcases am_ins_mem h with h | h
  · exact Or.inl h
  · obtain ⟨h1, h2⟩ := List.mem_filter.mp h
    exact Or.inr ⟨h1, by simpa using h2⟩
theorem am_cat (ad : Nat → Nat) (v : am_v) : (am_val ad v).category = 1 := by cases v <;> rfl
theorem am_has {ad : Nat → Nat} {ls : Array Slot} {n i : Nat} {v : am_v} {L L' : List (Nat × am_v)} (hL : am_st i v L = L') (h : lv_has ls n ((i, am_val ad v) :: (L.map (fun q => (q.1, am_val ad q.2))).filter (fun q => !(q.1 == i) && !(q.1 + 1 == i && q.2.category == 2)))) : lv_has ls n (L'.map (fun q => (q.1, am_val ad q.2))) := by
  refine ⟨h.1, h.2.1, fun q hq => ?_⟩
  obtain ⟨q0, h0, rfl⟩ := List.mem_map.mp hq
  subst hL
  rcases am_st_mem h0 with h1 | ⟨h1, h2⟩
  · subst h1
    exact h.2.2 _ List.mem_cons_self
  · refine h.2.2 _ (List.mem_cons_of_mem _ (List.mem_filter.mpr ⟨List.mem_map.mpr ⟨q0, h1, rfl⟩, ?_⟩))
    simp [h2, am_cat]
theorem am_lat {ad : Nat → Nat} {ls : Array Slot} {n i j : Nat} {v : am_v} {L : List (Nat × am_v)} (hl : lv_has ls n (L.map (fun q => (q.1, am_val ad q.2)))) (hk : L[j]? = some (i, v)) : ls[i]? = some (.val (am_val ad v)) := lv_at hl j (by simp [hk])
theorem am_i8 {n : Int} (h : -128 ≤ n ∧ n < 128) : (Int8.ofInt n).toInt32 = Int32.ofInt n := by
  rw [← Int32.toInt_inj, Int8.toInt_toInt32, Int8.toInt_ofInt_of_le (by omega) (by omega), Int32.toInt_ofInt_of_le (by omega) (by omega)]
theorem am_i16 {n : Int} (h : -32768 ≤ n ∧ n < 32768) : (Int16.ofInt n).toInt32 = Int32.ofInt n := by
  rw [← Int32.toInt_inj, Int16.toInt_toInt32, Int16.toInt_ofInt_of_le (by omega) (by omega), Int32.toInt_ofInt_of_le (by omega) (by omega)]
theorem am_bytes : ∀ n : Fin 256, ((Int32.ofInt (n.val : Int)).toInt8.toInt32 = Int32.ofInt (if (n.val : Int) < 128 then (n.val : Int) else (n.val : Int) - 256)) ∧ ((Int32.ofInt (n.val : Int)).toUInt32 % 65536).toInt32 = Int32.ofInt (n.val : Int) ∧ vp_nar .char (Int32.ofInt (n.val : Int)) = Int32.ofInt (n.val : Int) ∧ narrow .char (.int (Int32.ofInt (n.val : Int))) = .int (Int32.ofInt (n.val : Int)) := by decide +kernel
theorem am_sbytes : ∀ n : Fin 256, (Int32.ofInt ((n.val : Int) - 128) &&& 255 = Int32.ofInt (((n.val : Int) - 128) % 256)) ∧ vp_nar .byte (Int32.ofInt ((n.val : Int) - 128)) = Int32.ofInt ((n.val : Int) - 128) := by decide +kernel
theorem am_byte {x : Int} (h : 0 ≤ x ∧ x < 256) : ((Int32.ofInt x).toInt8.toInt32 = Int32.ofInt (if x < 128 then x else x - 256)) ∧ ((Int32.ofInt x).toUInt32 % 65536).toInt32 = Int32.ofInt x ∧ vp_nar .char (Int32.ofInt x) = Int32.ofInt x ∧ narrow .char (.int (Int32.ofInt x)) = .int (Int32.ofInt x) := by
  have e : ((x.toNat : Nat) : Int) = x := by omega
  have := am_bytes ⟨x.toNat, by omega⟩
  simp only [e] at this
  exact this
theorem am_sbyte {x : Int} (h : -128 ≤ x ∧ x < 128) : (Int32.ofInt x &&& 255 = Int32.ofInt (x % 256)) ∧ vp_nar .byte (Int32.ofInt x) = Int32.ofInt x := by
  have e : (((x + 128).toNat : Nat) : Int) - 128 = x := by omega
  have := am_sbytes ⟨(x + 128).toNat, by omega⟩
  simp only [e] at this
  exact this
section AMS
variable {d : Nat} {mm : am_mm} {pc : Nat} {L L' : List (Nat × am_v)} {st : List am_v} {M : am_M} {Q : Option Int → am_M → Prop}
theorem aw_iconst {n : Int} (hd : decode mm.2.1 pc = .ok (.iconst n, 1)) (k : AW d mm (pc + 1) L (.inl n :: st) M Q) : AW d mm pc L st M Q := by
  intro p l e s m args below meth c D dA ad H locs ls C hP hS hl
  exact lv_iconst C.1 C.2.1 hd rfl (k p l e s m args below meth c D dA ad H locs ls C hP hS hl)
theorem aw_bipush {n : Int} (hd : decode mm.2.1 pc = .ok (.bipush n, 2)) (hn : -128 ≤ n ∧ n < 128) (k : AW d mm (pc + 2) L (.inl n :: st) M Q) : AW d mm pc L st M Q := by
  intro p l e s m args below meth c D dA ad H locs ls C hP hS hl
  exact lv_bipush C.1 C.2.1 hd (am_i8 hn) (k p l e s m args below meth c D dA ad H locs ls C hP hS hl)
theorem aw_sipush {n : Int} (hd : decode mm.2.1 pc = .ok (.sipush n, 3)) (hn : -32768 ≤ n ∧ n < 32768) (k : AW d mm (pc + 3) L (.inl n :: st) M Q) : AW d mm pc L st M Q := by
  intro p l e s m args below meth c D dA ad H locs ls C hP hS hl
  exact lv_sipush C.1 C.2.1 hd (am_i16 hn) (k p l e s m args below meth c D dA ad H locs ls C hP hS hl)
theorem am_mem {mm : am_mm} {w : Cond} (h : w ∈ am_T) : w ∈ am_w mm := List.mem_cons_of_mem _ h
theorem aw_ldc {z : Int} {idx : Nat} (hd : decode mm.2.1 pc = .ok (.ldc idx, 2)) (hw : Cond.constant mm.1.cls idx (Int32.ofInt z) ∈ am_T) (k : AW d mm (pc + 2) L (.inl z :: st) M Q) : AW d mm pc L st M Q := by
  intro p l e s m args below meth c D dA ad H locs ls C hP hS hl
  obtain ⟨hx, hb, hr, hml, hlk, hown, hts, hK, hinj, hC⟩ := id C
  exact lv_ldc hx hb hown (hts _ (am_mem hw)) hd (k p l e s m args below meth c D dA ad H locs ls C hP hS hl)
theorem aw_iload_n {k : Fin 4} {i j : Nat} {x : Int} (hd : decode mm.2.1 pc = .ok (.iload_n k, 1)) (hi : (k : Nat) = i) (hj : L[j]? = some (i, .inl x)) (kk : AW d mm (pc + 1) L (.inl x :: st) M Q) : AW d mm pc L st M Q := by
  intro p l e s m args below meth c D dA ad H locs ls C hP hS hl
  exact lv_iload_n C.1 C.2.1 hd hi (am_lat hl hj) (kk p l e s m args below meth c D dA ad H locs ls C hP hS hl)
theorem aw_iload {i j : Nat} {x : Int} (hd : decode mm.2.1 pc = .ok (.iload i, 2)) (hj : L[j]? = some (i, .inl x)) (kk : AW d mm (pc + 2) L (.inl x :: st) M Q) : AW d mm pc L st M Q := by
  intro p l e s m args below meth c D dA ad H locs ls C hP hS hl
  exact lv_iload C.1 C.2.1 hd (am_lat hl hj) (kk p l e s m args below meth c D dA ad H locs ls C hP hS hl)
theorem aw_aload_n {k : Fin 4} {i j a : Nat} (hd : decode mm.2.1 pc = .ok (.aload_n k, 1)) (hi : (k : Nat) = i) (hj : L[j]? = some (i, .inr a)) (kk : AW d mm (pc + 1) L (.inr a :: st) M Q) : AW d mm pc L st M Q := by
  intro p l e s m args below meth c D dA ad H locs ls C hP hS hl
  exact lv_aload_n C.1 C.2.1 hd hi (am_lat hl hj) (kk p l e s m args below meth c D dA ad H locs ls C hP hS hl)
theorem aw_aload {i j a : Nat} (hd : decode mm.2.1 pc = .ok (.aload i, 2)) (hj : L[j]? = some (i, .inr a)) (kk : AW d mm (pc + 2) L (.inr a :: st) M Q) : AW d mm pc L st M Q := by
  intro p l e s m args below meth c D dA ad H locs ls C hP hS hl
  exact lv_aload C.1 C.2.1 hd (am_lat hl hj) (kk p l e s m args below meth c D dA ad H locs ls C hP hS hl)
theorem aw_istore_n {k : Fin 4} {i : Nat} {x : Int} (hd : decode mm.2.1 pc = .ok (.istore_n k, 1)) (hi : (k : Nat) = i) (hn : i < mm.2.2.1) (hL : am_st i (.inl x) L = L') (kk : AW d mm (pc + 1) L' st M Q) : AW d mm pc L (.inl x :: st) M Q := by
  intro p l e s m args below meth c D dA ad H locs ls C hP hS hl
  exact lv_istore_n C.1 C.2.1 hd hi hl hn rfl (fun ls' hl' => kk p l e s m args below meth c D dA ad H locs ls' C hP hS (am_has hL hl'))
theorem aw_istore {i : Nat} {x : Int} (hd : decode mm.2.1 pc = .ok (.istore i, 2)) (hn : i < mm.2.2.1) (hL : am_st i (.inl x) L = L') (kk : AW d mm (pc + 2) L' st M Q) : AW d mm pc L (.inl x :: st) M Q := by
  intro p l e s m args below meth c D dA ad H locs ls C hP hS hl
  exact lv_istore C.1 C.2.1 hd hl hn rfl (fun ls' hl' => kk p l e s m args below meth c D dA ad H locs ls' C hP hS (am_has hL hl'))
theorem aw_astore_n {k : Fin 4} {i a : Nat} (hd : decode mm.2.1 pc = .ok (.astore_n k, 1)) (hi : (k : Nat) = i) (hn : i < mm.2.2.1) (hL : am_st i (.inr a) L = L') (kk : AW d mm (pc + 1) L' st M Q) : AW d mm pc L (.inr a :: st) M Q := by
  intro p l e s m args below meth c D dA ad H locs ls C hP hS hl
  exact lv_astore_n C.1 C.2.1 hd hi hl hn rfl (fun ls' hl' => kk p l e s m args below meth c D dA ad H locs ls' C hP hS (am_has hL hl'))
theorem aw_iinc {i j : Nat} {n x : Int} (hd : decode mm.2.1 pc = .ok (.iinc i n, 3)) (hj : L[j]? = some (i, .inl x)) (hn : i < mm.2.2.1) (hL : am_st i (.inl (x + n)) L = L') (kk : AW d mm (pc + 3) L' st M Q) : AW d mm pc L st M Q := by
  intro p l e s m args below meth c D dA ad H locs ls C hP hS hl
  exact lv_iinc C.1 C.2.1 hd hl (k := j) (x := Int32.ofInt x) (v := Int32.ofInt (x + n)) (by simp [hj, am_val]) (Int32.ofInt_add x n).symm hn rfl (fun ls' hl' => kk p l e s m args below meth c D dA ad H locs ls' C hP hS (am_has hL hl'))
theorem aw_iadd {x y : Int} (hd : decode mm.2.1 pc = .ok (.iadd, 1)) (k : AW d mm (pc + 1) L (.inl (x + y) :: st) M Q) : AW d mm pc L (.inl y :: .inl x :: st) M Q := by
  intro p l e s m args below meth c D dA ad H locs ls C hP hS hl
  have kk := k p l e s m args below meth c D dA ad H locs ls C hP hS hl
  simp only [List.map_cons, am_val, Int32.ofInt_add] at kk
  exact lv_iadd C.1 C.2.1 hd kk
theorem aw_isub {x y : Int} (hd : decode mm.2.1 pc = .ok (.isub, 1)) (k : AW d mm (pc + 1) L (.inl (x - y) :: st) M Q) : AW d mm pc L (.inl y :: .inl x :: st) M Q := by
  intro p l e s m args below meth c D dA ad H locs ls C hP hS hl
  have kk := k p l e s m args below meth c D dA ad H locs ls C hP hS hl
  simp only [List.map_cons, am_val, Int32.ofInt_sub] at kk
  exact lv_isub C.1 C.2.1 hd kk
theorem aw_imul {x y : Int} (hd : decode mm.2.1 pc = .ok (.imul, 1)) (k : AW d mm (pc + 1) L (.inl (x * y) :: st) M Q) : AW d mm pc L (.inl y :: .inl x :: st) M Q := by
  intro p l e s m args below meth c D dA ad H locs ls C hP hS hl
  have kk := k p l e s m args below meth c D dA ad H locs ls C hP hS hl
  simp only [List.map_cons, am_val, Int32.ofInt_mul] at kk
  exact lv_imul C.1 C.2.1 hd kk
theorem aw_ineg {x : Int} (hd : decode mm.2.1 pc = .ok (.ineg, 1)) (k : AW d mm (pc + 1) L (.inl (-x) :: st) M Q) : AW d mm pc L (.inl x :: st) M Q := by
  intro p l e s m args below meth c D dA ad H locs ls C hP hS hl
  have kk := k p l e s m args below meth c D dA ad H locs ls C hP hS hl
  simp only [List.map_cons, am_val, Int32.ofInt_neg] at kk
  exact lv_ineg C.1 C.2.1 hd kk
theorem aw_iand255 {x : Int} (hd : decode mm.2.1 pc = .ok (.iand, 1)) (hx : -128 ≤ x ∧ x < 128) (k : AW d mm (pc + 1) L (.inl (x % 256) :: st) M Q) : AW d mm pc L (.inl 255 :: .inl x :: st) M Q := by
  intro p l e s m args below meth c D dA ad H locs ls C hP hS hl
  have kk := k p l e s m args below meth c D dA ad H locs ls C hP hS hl
  simp only [List.map_cons, am_val] at kk
  rw [← (am_sbyte hx).1] at kk
  exact lv_iand C.1 C.2.1 hd kk
theorem aw_i2b {x : Int} (hd : decode mm.2.1 pc = .ok (.i2b, 1)) (hx : 0 ≤ x ∧ x < 256) (k : AW d mm (pc + 1) L (.inl (if x < 128 then x else x - 256) :: st) M Q) : AW d mm pc L (.inl x :: st) M Q := by
  intro p l e s m args below meth c D dA ad H locs ls C hP hS hl
  exact lv_i2b C.1 C.2.1 hd (am_byte hx).1 (k p l e s m args below meth c D dA ad H locs ls C hP hS hl)
theorem aw_i2c {x : Int} (hd : decode mm.2.1 pc = .ok (.i2c, 1)) (hx : 0 ≤ x ∧ x < 256) (k : AW d mm (pc + 1) L (.inl x :: st) M Q) : AW d mm pc L (.inl x :: st) M Q := by
  intro p l e s m args below meth c D dA ad H locs ls C hP hS hl
  exact lv_i2c C.1 C.2.1 hd (am_byte hx).2.1 (k p l e s m args below meth c D dA ad H locs ls C hP hS hl)
theorem aw_ishr0 {x : Int} (hd : decode mm.2.1 pc = .ok (.ishr, 1)) (k : AW d mm (pc + 1) L (.inl x :: st) M Q) : AW d mm pc L (.inl 0 :: .inl x :: st) M Q := by
  intro p l e s m args below meth c D dA ad H locs ls C hP hS hl
  have kk := k p l e s m args below meth c D dA ad H locs ls C hP hS hl
  simp only [List.map_cons, am_val] at kk
  rw [← sb_shr0 (Int32.ofInt x)] at kk
  exact lv_ishr C.1 C.2.1 hd kk
theorem aw_dup {v : am_v} (hd : decode mm.2.1 pc = .ok (.dup, 1)) (k : AW d mm (pc + 1) L (v :: v :: st) M Q) : AW d mm pc L (v :: st) M Q := by
  intro p l e s m args below meth c D dA ad H locs ls C hP hS hl
  exact lv_dup C.1 C.2.1 hd (am_cat ad v) (k p l e s m args below meth c D dA ad H locs ls C hP hS hl)
theorem aw_dup2 {v w : am_v} (hd : decode mm.2.1 pc = .ok (.dup2, 1)) (k : AW d mm (pc + 1) L (v :: w :: v :: w :: st) M Q) : AW d mm pc L (v :: w :: st) M Q := by
  intro p l e s m args below meth c D dA ad H locs ls C hP hS hl
  exact lv_dup2_11 C.1 C.2.1 hd (am_cat ad v) (am_cat ad w) (k p l e s m args below meth c D dA ad H locs ls C hP hS hl)
theorem aw_pop {v : am_v} (hd : decode mm.2.1 pc = .ok (.pop, 1)) (k : AW d mm (pc + 1) L st M Q) : AW d mm pc L (v :: st) M Q := by
  intro p l e s m args below meth c D dA ad H locs ls C hP hS hl
  exact lv_pop C.1 C.2.1 hd (am_cat ad v) (k p l e s m args below meth c D dA ad H locs ls C hP hS hl)
theorem aw_goto {off : Int} {tgt : Nat} (hd : decode mm.2.1 pc = .ok (.goto off, 3)) (ht : (pc : Int) + off = (tgt : Int)) (k : AW d mm tgt L st M Q) : AW d mm pc L st M Q := by
  intro p l e s m args below meth c D dA ad H locs ls C hP hS hl
  exact lv_goto C.1 C.2.1 hd ht (k p l e s m args below meth c D dA ad H locs ls C hP hS hl)
theorem aw_icmp_lt {x y off : Int} {tgt : Nat} (hd : decode mm.2.1 pc = .ok (.if_icmp .lt off, 3)) (ht : (pc : Int) + off = (tgt : Int)) (hx : -2147483648 ≤ x ∧ x < 2147483648) (hy : -2147483648 ≤ y ∧ y < 2147483648) (kt : x < y → AW d mm tgt L st M Q) (kf : y ≤ x → AW d mm (pc + 3) L st M Q) : AW d mm pc L (.inl y :: .inl x :: st) M Q := by
  intro p l e s m args below meth c D dA ad H locs ls C hP hS hl
  exact lv_icmp_lt C.1 C.2.1 hd ht (fun q => kt ((am_lt hx hy).mp q) p l e s m args below meth c D dA ad H locs ls C hP hS hl) (fun q => kf (Int.not_lt.mp fun z => q ((am_lt hx hy).mpr z)) p l e s m args below meth c D dA ad H locs ls C hP hS hl)
theorem aw_icmp_ge {x y off : Int} {tgt : Nat} (hd : decode mm.2.1 pc = .ok (.if_icmp .ge off, 3)) (ht : (pc : Int) + off = (tgt : Int)) (hx : -2147483648 ≤ x ∧ x < 2147483648) (hy : -2147483648 ≤ y ∧ y < 2147483648) (kt : y ≤ x → AW d mm tgt L st M Q) (kf : x < y → AW d mm (pc + 3) L st M Q) : AW d mm pc L (.inl y :: .inl x :: st) M Q := by
  intro p l e s m args below meth c D dA ad H locs ls C hP hS hl
  exact lv_icmp_ge C.1 C.2.1 hd ht (fun q => kt ((am_le hy hx).mp q) p l e s m args below meth c D dA ad H locs ls C hP hS hl) (fun q => kf (Int.not_le.mp fun z => q ((am_le hy hx).mpr z)) p l e s m args below meth c D dA ad H locs ls C hP hS hl)
theorem aw_icmp_gt {x y off : Int} {tgt : Nat} (hd : decode mm.2.1 pc = .ok (.if_icmp .gt off, 3)) (ht : (pc : Int) + off = (tgt : Int)) (hx : -2147483648 ≤ x ∧ x < 2147483648) (hy : -2147483648 ≤ y ∧ y < 2147483648) (kt : y < x → AW d mm tgt L st M Q) (kf : x ≤ y → AW d mm (pc + 3) L st M Q) : AW d mm pc L (.inl y :: .inl x :: st) M Q := by
  intro p l e s m args below meth c D dA ad H locs ls C hP hS hl
  exact lv_icmp_gt C.1 C.2.1 hd ht (fun q => kt ((am_lt hy hx).mp q) p l e s m args below meth c D dA ad H locs ls C hP hS hl) (fun q => kf (Int.not_lt.mp fun z => q ((am_lt hy hx).mpr z)) p l e s m args below meth c D dA ad H locs ls C hP hS hl)
theorem aw_icmp_le {x y off : Int} {tgt : Nat} (hd : decode mm.2.1 pc = .ok (.if_icmp .le off, 3)) (ht : (pc : Int) + off = (tgt : Int)) (hx : -2147483648 ≤ x ∧ x < 2147483648) (hy : -2147483648 ≤ y ∧ y < 2147483648) (kt : x ≤ y → AW d mm tgt L st M Q) (kf : y < x → AW d mm (pc + 3) L st M Q) : AW d mm pc L (.inl y :: .inl x :: st) M Q := by
  intro p l e s m args below meth c D dA ad H locs ls C hP hS hl
  exact lv_icmp_le C.1 C.2.1 hd ht (fun q => kt ((am_le hx hy).mp q) p l e s m args below meth c D dA ad H locs ls C hP hS hl) (fun q => kf (Int.not_le.mp fun z => q ((am_le hx hy).mpr z)) p l e s m args below meth c D dA ad H locs ls C hP hS hl)
theorem aw_icmp_eq {x y off : Int} {tgt : Nat} (hd : decode mm.2.1 pc = .ok (.if_icmp .eq off, 3)) (ht : (pc : Int) + off = (tgt : Int)) (hx : -2147483648 ≤ x ∧ x < 2147483648) (hy : -2147483648 ≤ y ∧ y < 2147483648) (kt : x = y → AW d mm tgt L st M Q) (kf : x ≠ y → AW d mm (pc + 3) L st M Q) : AW d mm pc L (.inl y :: .inl x :: st) M Q := by
  intro p l e s m args below meth c D dA ad H locs ls C hP hS hl
  exact lv_icmp_eq C.1 C.2.1 hd ht (fun q => kt ((am_eq hx hy).mp q) p l e s m args below meth c D dA ad H locs ls C hP hS hl) (fun q => kf (fun z => q ((am_eq hx hy).mpr z)) p l e s m args below meth c D dA ad H locs ls C hP hS hl)
theorem aw_icmp_ne {x y off : Int} {tgt : Nat} (hd : decode mm.2.1 pc = .ok (.if_icmp .ne off, 3)) (ht : (pc : Int) + off = (tgt : Int)) (hx : -2147483648 ≤ x ∧ x < 2147483648) (hy : -2147483648 ≤ y ∧ y < 2147483648) (kt : x ≠ y → AW d mm tgt L st M Q) (kf : x = y → AW d mm (pc + 3) L st M Q) : AW d mm pc L (.inl y :: .inl x :: st) M Q := by
  intro p l e s m args below meth c D dA ad H locs ls C hP hS hl
  exact lv_icmp_ne C.1 C.2.1 hd ht (fun q => kt (fun z => q ((am_eq hx hy).mpr z)) p l e s m args below meth c D dA ad H locs ls C hP hS hl) (fun q => kf ((am_eq hx hy).mp q) p l e s m args below meth c D dA ad H locs ls C hP hS hl)
theorem am_r0 : -2147483648 ≤ (0 : Int) ∧ (0 : Int) < 2147483648 := by decide
theorem aw_if_lt {x off : Int} {tgt : Nat} (hd : decode mm.2.1 pc = .ok (.ifCond .lt off, 3)) (ht : (pc : Int) + off = (tgt : Int)) (hx : -2147483648 ≤ x ∧ x < 2147483648) (kt : x < 0 → AW d mm tgt L st M Q) (kf : 0 ≤ x → AW d mm (pc + 3) L st M Q) : AW d mm pc L (.inl x :: st) M Q := by
  intro p l e s m args below meth c D dA ad H locs ls C hP hS hl
  exact lv_if_lt C.1 C.2.1 hd ht (fun q => kt ((am_lt hx am_r0).mp q) p l e s m args below meth c D dA ad H locs ls C hP hS hl) (fun q => kf (Int.not_lt.mp fun z => q ((am_lt hx am_r0).mpr z)) p l e s m args below meth c D dA ad H locs ls C hP hS hl)
theorem aw_if_ge {x off : Int} {tgt : Nat} (hd : decode mm.2.1 pc = .ok (.ifCond .ge off, 3)) (ht : (pc : Int) + off = (tgt : Int)) (hx : -2147483648 ≤ x ∧ x < 2147483648) (kt : 0 ≤ x → AW d mm tgt L st M Q) (kf : x < 0 → AW d mm (pc + 3) L st M Q) : AW d mm pc L (.inl x :: st) M Q := by
  intro p l e s m args below meth c D dA ad H locs ls C hP hS hl
  exact lv_if_ge C.1 C.2.1 hd ht (fun q => kt ((am_le am_r0 hx).mp q) p l e s m args below meth c D dA ad H locs ls C hP hS hl) (fun q => kf (Int.not_le.mp fun z => q ((am_le am_r0 hx).mpr z)) p l e s m args below meth c D dA ad H locs ls C hP hS hl)
theorem aw_if_gt {x off : Int} {tgt : Nat} (hd : decode mm.2.1 pc = .ok (.ifCond .gt off, 3)) (ht : (pc : Int) + off = (tgt : Int)) (hx : -2147483648 ≤ x ∧ x < 2147483648) (kt : 0 < x → AW d mm tgt L st M Q) (kf : x ≤ 0 → AW d mm (pc + 3) L st M Q) : AW d mm pc L (.inl x :: st) M Q := by
  intro p l e s m args below meth c D dA ad H locs ls C hP hS hl
  exact lv_if_gt C.1 C.2.1 hd ht (fun q => kt ((am_lt am_r0 hx).mp q) p l e s m args below meth c D dA ad H locs ls C hP hS hl) (fun q => kf (Int.not_lt.mp fun z => q ((am_lt am_r0 hx).mpr z)) p l e s m args below meth c D dA ad H locs ls C hP hS hl)
theorem aw_if_le {x off : Int} {tgt : Nat} (hd : decode mm.2.1 pc = .ok (.ifCond .le off, 3)) (ht : (pc : Int) + off = (tgt : Int)) (hx : -2147483648 ≤ x ∧ x < 2147483648) (kt : x ≤ 0 → AW d mm tgt L st M Q) (kf : 0 < x → AW d mm (pc + 3) L st M Q) : AW d mm pc L (.inl x :: st) M Q := by
  intro p l e s m args below meth c D dA ad H locs ls C hP hS hl
  exact lv_if_le C.1 C.2.1 hd ht (fun q => kt ((am_le hx am_r0).mp q) p l e s m args below meth c D dA ad H locs ls C hP hS hl) (fun q => kf (Int.not_le.mp fun z => q ((am_le hx am_r0).mpr z)) p l e s m args below meth c D dA ad H locs ls C hP hS hl)
theorem aw_if_eq {x off : Int} {tgt : Nat} (hd : decode mm.2.1 pc = .ok (.ifCond .eq off, 3)) (ht : (pc : Int) + off = (tgt : Int)) (hx : -2147483648 ≤ x ∧ x < 2147483648) (kt : x = 0 → AW d mm tgt L st M Q) (kf : x ≠ 0 → AW d mm (pc + 3) L st M Q) : AW d mm pc L (.inl x :: st) M Q := by
  intro p l e s m args below meth c D dA ad H locs ls C hP hS hl
  exact lv_if_eq C.1 C.2.1 hd ht (fun q => kt ((am_eq hx am_r0).mp q) p l e s m args below meth c D dA ad H locs ls C hP hS hl) (fun q => kf (fun z => q ((am_eq hx am_r0).mpr z)) p l e s m args below meth c D dA ad H locs ls C hP hS hl)
theorem aw_if_ne {x off : Int} {tgt : Nat} (hd : decode mm.2.1 pc = .ok (.ifCond .ne off, 3)) (ht : (pc : Int) + off = (tgt : Int)) (hx : -2147483648 ≤ x ∧ x < 2147483648) (kt : x ≠ 0 → AW d mm tgt L st M Q) (kf : x = 0 → AW d mm (pc + 3) L st M Q) : AW d mm pc L (.inl x :: st) M Q := by
  intro p l e s m args below meth c D dA ad H locs ls C hP hS hl
  exact lv_if_ne C.1 C.2.1 hd ht (fun q => kt (fun z => q ((am_eq hx am_r0).mpr z)) p l e s m args below meth c D dA ad H locs ls C hP hS hl) (fun q => kf ((am_eq hx am_r0).mp q) p l e s m args below meth c D dA ad H locs ls C hP hS hl)
/-- tg: the targets, in their order -/
theorem aw_tsw {x dflt lo hi : Int} {offs : Array Int} {len tgt : Nat} (tg : List Nat) (hd : decode mm.2.1 pc = .ok (.tableswitch dflt lo hi offs, len)) (ht : (pc : Int) + dflt = (tgt : Int)) (ho : offs.toList = tg.map (fun t : Nat => (t : Int) - (pc : Int))) (hh : hi = lo + tg.length - 1) (hx : -2147483648 ≤ x ∧ x < 2147483648) (kd : x < lo ∨ hi < x → AW d mm tgt L st M Q) (kk : ∀ (j t : Nat), tg[j]? = some t → x = lo + j → AW d mm t L st M Q) : AW d mm pc L (.inl x :: st) M Q := by
  intro p l e s m args below meth c D dA ad H locs ls C hP hS hl
  have e1 : (Int32.ofInt x).toInt = x := Int32.toInt_ofInt_of_le (by omega) (by omega)
  by_cases hq : x < lo ∨ hi < x
  · exact lv_tableOut C.1 C.2.1 hd (by rw [e1]; exact hq) ht (kd hq p l e s m args below meth c D dA ad H locs ls C hP hS hl)
  · have hj : (x - lo).toNat < tg.length := by omega
    have e2 : offs[(x - lo).toNat]? = some ((tg[(x - lo).toNat] : Int) - pc) := by
      rw [← Array.getElem?_toList, ho, List.getElem?_map, List.getElem?_eq_getElem hj]
      rfl
    exact lv_tableIn C.1 C.2.1 hd (by rw [e1]; omega) (by rw [e1]; omega) (by rw [e1]; exact e2) (tgt := tg[(x - lo).toNat]) (by omega) (kk (x - lo).toNat _ (List.getElem?_eq_getElem hj) (by omega) p l e s m args below meth c D dA ad H locs ls C hP hS hl)
theorem aw_iret {z : Int} (hd : decode mm.2.1 pc = .ok (.ireturn, 1)) (hr : mm.2.2.2 = some .int) (h : Q (some z) M) : AW d mm pc L [.inl z] M Q := by
  intro p l e s m args below meth c D dA ad H locs ls C hP hS hl
  obtain ⟨hx, hb, hr', hml, hlk, hown, hts, hK, hinj, hC⟩ := id C
  exact W.iret (v := Int32.ofInt z) hx hb (hr'.trans hr) (fun t ht hW => ⟨⟨some z, M, rfl, h, by rw [ht]; exact hP⟩, hS.F ht⟩) hS.2.2 hd hlk
theorem aw_nret {z : Int} {ty : FieldType} (hd : decode mm.2.1 pc = .ok (.ireturn, 1)) (hr : mm.2.2.2 = some ty) (hn : narrow ty (.int (Int32.ofInt z)) = .int (Int32.ofInt z)) (h : Q (some z) M) : AW d mm pc L [.inl z] M Q := by
  intro p l e s m args below meth c D dA ad H locs ls C hP hS hl
  obtain ⟨hx, hb, hr', hml, hlk, hown, hts, hK, hinj, hC⟩ := id C
  exact W.zret (v := Int32.ofInt z) hx hb (hr'.trans hr) hn (fun t ht hW => ⟨⟨some z, M, rfl, h, by rw [ht]; exact hP⟩, hS.F ht⟩) hS.2.2 hd hlk
theorem aw_zret {z : Int} (hd : decode mm.2.1 pc = .ok (.ireturn, 1)) (hr : mm.2.2.2 = some .boolean) (hz : z = 0 ∨ z = 1) (h : Q (some z) M) : AW d mm pc L [.inl z] M Q :=
  aw_nret hd hr (by rcases hz with rfl | rfl <;> decide +kernel) h
theorem aw_vret (hd : decode mm.2.1 pc = .ok (.return_, 1)) (hr : mm.2.2.2 = none) (h : Q none M) : AW d mm pc L [] M Q := by
  intro p l e s m args below meth c D dA ad H locs ls C hP hS hl
  obtain ⟨hx, hb, hr', hml, hlk, hown, hts, hK, hinj, hC⟩ := id C
  exact W.vret hx hb (hr'.trans hr) (fun t ht hW => ⟨⟨none, M, rfl, h, by rw [ht]; exact hP⟩, hS.F ht⟩) hS.2.2 hd hlk
end AMS
end
section
/-! the abstract machine's steps over memory, and calls -/
def am_flB (own : String) (idx ci k : Nat) : Bool := match am_cl[ci]? with
  | some q => decide (k < q.2.2) && decide (Cond.fieldLink own idx (q.2.1 k).1 (q.2.1 k).2.1 (q.2.1 k).2.2.1 ∈ am_T)
  | none => false
/-- an int field that may be written -/
def am_pfB (own : String) (idx ci k : Nat) : Bool := am_flB own idx ci k && match am_cl[ci]? with
  | some q => decide ((q.2.1 k).2.2.2 = false) && decide (parseFieldDescriptor (q.2.1 k).2.2.1 = some .int)
  | none => false
theorem am_cw0 : ∀ w ∈ u_ws RX0 TX0 2, w ∈ am_T := by decide +kernel
theorem am_cw1 : ∀ w ∈ u_ws RX1 TX1 7, w ∈ am_T := by decide +kernel
theorem am_cw2 : ∀ w ∈ u_ws RX2 TX2 4, w ∈ am_T := by decide +kernel
theorem am_cw3 : ∀ w ∈ u_ws RX3 TX3 4, w ∈ am_T := by decide +kernel
theorem am_cw4 : ∀ w ∈ u_ws RX4 TX4 6, w ∈ am_T := by decide +kernel
theorem am_cw5 : ∀ w ∈ u_ws RX5 TX5 5, w ∈ am_T := by decide +kernel
theorem am_cw6 : ∀ w ∈ u_ws RX6 TX6 10, w ∈ am_T := by decide +kernel
theorem am_cw7 : ∀ w ∈ u_ws RX7 TX7 12, w ∈ am_T := by decide +kernel
theorem am_cw8 : ∀ w ∈ u_ws RX8 TX8 23, w ∈ am_T := by decide +kernel
/-- what is known of each class: its words, its types, its names apart -/
theorem am_cls : ∀ (ci : Nat) (q : vw_C), am_cl[ci]? = some q → (∀ w ∈ u_ws q.1 q.2.1 q.2.2, w ∈ am_T) ∧ (∃ ty0 : Nat → FieldType, ∀ k, k < q.2.2 → parseFieldDescriptor (q.2.1 k).2.2.1 = some (ty0 k)) ∧ (∀ a, a < q.2.2 → ∀ b, b < q.2.2 → a ≠ b → (q.2.1 a).2.1 ≠ (q.2.1 b).2.1) := by
  intro ci q h
  match ci, h with
  | 0, h => cases h; exact ⟨am_cw0, ⟨tyX0, tyX0_ok⟩, nmX0⟩
  | 1, h => cases h; exact ⟨am_cw1, ⟨tyX1, tyX1_ok⟩, nmX1⟩
  | 2, h => cases h; exact ⟨am_cw2, ⟨tyX2, tyX2_ok⟩, nmX2⟩
  | 3, h => cases h; exact ⟨am_cw3, ⟨tyX3, tyX3_ok⟩, nmX3⟩
  | 4, h => cases h; exact ⟨am_cw4, ⟨tyX4, tyX4_ok⟩, nmX4⟩
  | 5, h => cases h; exact ⟨am_cw5, ⟨tyX5, tyX5_ok⟩, nmX5⟩
  | 6, h => cases h; exact ⟨am_cw6, ⟨tyX6, tyX6_ok⟩, nmX6⟩
  | 7, h => cases h; exact ⟨am_cw7, ⟨tyX7, tyX7_ok⟩, nmX7⟩
  | 8, h => cases h; exact ⟨am_cw8, ⟨tyX8, tyX8_ok⟩, nmX8⟩
  | n + 9, h => simp [am_cl] at h
theorem am_fl_spec {own : String} {idx ci k : Nat} (h : am_flB own idx ci k = true) : ∃ q : vw_C, am_cl[ci]? = some q ∧ k < q.2.2 ∧ Cond.fieldLink own idx (q.2.1 k).1 (q.2.1 k).2.1 (q.2.1 k).2.2.1 ∈ am_T := by
  unfold am_flB at h
  cases hq : am_cl[ci]? with
  | none => rw [hq] at h; cases h
  | some q =>
    rw [hq] at h
    simp only [Bool.and_eq_true, decide_eq_true_eq] at h
    exact ⟨q, rfl, h.1, h.2⟩
theorem am_pf_spec {own : String} {idx ci k : Nat} (h : am_pfB own idx ci k = true) : ∃ q : vw_C, am_cl[ci]? = some q ∧ k < q.2.2 ∧ Cond.fieldLink own idx (q.2.1 k).1 (q.2.1 k).2.1 (q.2.1 k).2.2.1 ∈ am_T ∧ (q.2.1 k).2.2.2 = false ∧ parseFieldDescriptor (q.2.1 k).2.2.1 = some .int := by
  unfold am_pfB at h
  simp only [Bool.and_eq_true] at h
  obtain ⟨q, h1, h2, h3⟩ := am_fl_spec h.1
  have h4 := h.2
  rw [h1] at h4
  simp only [Bool.and_eq_true, decide_eq_true_eq] at h4
  exact ⟨q, h1, h2, h3, h4.1, h4.2⟩
/-- stretches copied -/
def am_cp (M : am_M) (a : Nat) (sp : Int) (b : Nat) (dp n : Int) : am_M := fun c j => if c = b then (if dp ≤ j ∧ j < dp + n then M a (sp + (j - dp)) else M c j) else M c j
def am_cpt (M : am_M) (xs : List Int) (b : Nat) (n : Int) : am_M := fun c j => if c = b then (if 0 ≤ j ∧ j < n then xs.getD j.toNat 0 else M c j) else M c j
section AMM
variable {d : Nat} {mm : am_mm} {pc : Nat} {L L' : List (Nat × am_v)} {st : List am_v} {M : am_M} {Q : Option Int → am_M → Prop}
theorem aw_getf {a idx ci k : Nat} {fs : List (Option Nat)} {kz : Int} (hd : decode mm.2.1 pc = .ok (.getfield idx, 3)) (hf : am_flB mm.1.cls idx ci k = true) (hs : am_sh[a]? = some (.inr (ci, fs))) (hk : fs[k]? = some none) (hz : (k : Int) = kz) (kk : AW d mm (pc + 3) L (.inl (M a kz) :: st) M Q) : AW d mm pc L (.inr a :: st) M Q := by
  intro p l e s m args below meth c D dA ad H locs ls C hP hS hl
  obtain ⟨hx, hb, hr, hml, hlk, hown, hts, hK, hinj, hC⟩ := id C
  obtain ⟨q, h1, h2, h3⟩ := am_fl_spec hf
  obtain ⟨g1, -, -⟩ := am_cls ci q h1
  subst hz
  exact va_get (C := q.1) (T := q.2.1) (N := q.2.2) hx hb hts (fun w hw => am_mem (g1 w hw)) hown hK hP a (am_ws_get hs) h1 k h2 (hts _ (am_mem h3)) (fun _ h => h) (v := .int (Int32.ofInt (M a k))) (by simp [List.getElem?_mapIdx, hk, am_fv]) hd (kk p l e s m args below meth c D dA ad H locs ls C hP hS hl)
theorem aw_getr {a idx ci k b : Nat} {fs : List (Option Nat)} (hd : decode mm.2.1 pc = .ok (.getfield idx, 3)) (hf : am_flB mm.1.cls idx ci k = true) (hs : am_sh[a]? = some (.inr (ci, fs))) (hk : fs[k]? = some (some b)) (kk : AW d mm (pc + 3) L (.inr b :: st) M Q) : AW d mm pc L (.inr a :: st) M Q := by
  intro p l e s m args below meth c D dA ad H locs ls C hP hS hl
  obtain ⟨hx, hb, hr, hml, hlk, hown, hts, hK, hinj, hC⟩ := id C
  obtain ⟨q, h1, h2, h3⟩ := am_fl_spec hf
  obtain ⟨g1, -, -⟩ := am_cls ci q h1
  exact va_get (C := q.1) (T := q.2.1) (N := q.2.2) hx hb hts (fun w hw => am_mem (g1 w hw)) hown hK hP a (am_ws_get hs) h1 k h2 (hts _ (am_mem h3)) (fun _ h => h) (v := .ref (ad b)) (by simp [List.getElem?_mapIdx, hk, am_fv]) hd (kk p l e s m args below meth c D dA ad H locs ls C hP hS hl)
theorem aw_putf {a idx ci k : Nat} {fs : List (Option Nat)} {kz z : Int} (hd : decode mm.2.1 pc = .ok (.putfield idx, 3)) (hf : am_pfB mm.1.cls idx ci k = true) (hs : am_sh[a]? = some (.inr (ci, fs))) (hk : fs[k]? = some none) (hz : (k : Int) = kz) (kk : AW d mm (pc + 3) L st (am_up M a kz z) Q) : AW d mm pc L (.inl z :: .inr a :: st) M Q := by
  intro p l e s m args below meth c D dA ad H locs ls C hP hS hl
  obtain ⟨hx, hb, hr, hml, hlk, hown, hts, hK, hinj, hC⟩ := id C
  obtain ⟨q, h1, h2, h3, h4, h5⟩ := am_pf_spec hf
  obtain ⟨g1, ⟨ty0, g2⟩, g3⟩ := am_cls ci q h1
  subst hz
  have hlen : k < fs.length := (List.getElem?_eq_some_iff.mp hk).1
  refine va_put (C := q.1) (T := q.2.1) (N := q.2.2) (ty := .int) hx hb hts (fun w hw => am_mem (g1 w hw)) ty0 g2 g3 hown hK hP (am_D hinj) hS a (am_ws_get hs) h1 k h2 (hts _ (am_mem h3)) (fun _ h => h) h4 (v := .int (Int32.ofInt z)) h5 rfl rfl (by simpa using hlen) hd (fun H1 locs1 hP1 _ hS1 => ?_)
  refine kk p l e s m args below meth c D dA ad H1 locs1 ls C (am_ws_put hs ?_ (am_up_ne M a k z) hP1) hS1 hl
  simp only [am_cell]
  congr 2
  apply List.ext_getElem?
  intro j
  by_cases hj : j = k
  · subst hj
    rw [List.getElem?_set_self (by simpa using hlen)]
    simp [List.getElem?_mapIdx, hk, am_fv, am_up]
  · rw [List.getElem?_set_ne (Ne.symm hj)]
    simp only [List.getElem?_mapIdx]
    cases fs[j]? with
    | none => rfl
    | some o =>
      have hj' : ¬ (j : Int) = (k : Int) := by omega
      cases o <;> simp [am_fv, am_up, hj']
theorem am_upd {M : am_M} {a n : Nat} {i z : Int} (h : 0 ≤ i ∧ i < n) : upd (fun j : Nat => Int32.ofInt (M a (j : Int))) i.toNat (Int32.ofInt z) = fun j : Nat => Int32.ofInt (am_up M a i z a (j : Int)) := by
  funext j
  by_cases hj : j = i.toNat
  · subst hj
    have : ((i.toNat : Nat) : Int) = i := by omega
    simp [upd, am_up, this]
  · have : ¬ (j : Int) = i := by omega
    simp [upd, am_up, this, hj]
theorem aw_iaload {a n : Nat} {i : Int} (hd : decode mm.2.1 pc = .ok (.iaload, 1)) (hs : am_sh[a]? = some (.inl (0, n))) (hi : 0 ≤ i ∧ i < n) (kk : AW d mm (pc + 1) L (.inl (M a i) :: st) M Q) : AW d mm pc L (.inl i :: .inr a :: st) M Q := by
  intro p l e s m args below meth c D dA ad H locs ls C hP hS hl
  obtain ⟨hx, hb, hr, hml, hlk, hown, hts, hK, hinj, hC⟩ := id C
  obtain ⟨g1, g2⟩ := am_in (am_small a 0 n hs) hi
  have h := kk p l e s m args below meth c D dA ad H locs ls C hP hS hl
  refine va_iald hx hb hK hP a 0 (f := fun j => Int32.ofInt (M a (j : Int))) (am_ws_get hs) rfl g1 hd ?_
  rw [g2, show ((i.toNat : Nat) : Int) = i by omega]
  exact h
theorem aw_caload {a n : Nat} {i : Int} (hd : decode mm.2.1 pc = .ok (.caload, 1)) (hs : am_sh[a]? = some (.inl (1, n))) (hi : 0 ≤ i ∧ i < n) (kk : AW d mm (pc + 1) L (.inl (M a i) :: st) M Q) : AW d mm pc L (.inl i :: .inr a :: st) M Q := by
  intro p l e s m args below meth c D dA ad H locs ls C hP hS hl
  obtain ⟨hx, hb, hr, hml, hlk, hown, hts, hK, hinj, hC⟩ := id C
  obtain ⟨g1, g2⟩ := am_in (am_small a 1 n hs) hi
  have h := kk p l e s m args below meth c D dA ad H locs ls C hP hS hl
  refine va_cald hx hb hK hP a 1 (f := fun j => Int32.ofInt (M a (j : Int))) (am_ws_get hs) rfl g1 hd ?_
  rw [g2, show ((i.toNat : Nat) : Int) = i by omega]
  exact h
theorem aw_zaload {a n : Nat} {i : Int} (hd : decode mm.2.1 pc = .ok (.baload, 1)) (hs : am_sh[a]? = some (.inl (2, n))) (hi : 0 ≤ i ∧ i < n) (kk : AW d mm (pc + 1) L (.inl (M a i) :: st) M Q) : AW d mm pc L (.inl i :: .inr a :: st) M Q := by
  intro p l e s m args below meth c D dA ad H locs ls C hP hS hl
  obtain ⟨hx, hb, hr, hml, hlk, hown, hts, hK, hinj, hC⟩ := id C
  obtain ⟨g1, g2⟩ := am_in (am_small a 2 n hs) hi
  have h := kk p l e s m args below meth c D dA ad H locs ls C hP hS hl
  refine va_zald hx hb hK hP a 2 (f := fun j => Int32.ofInt (M a (j : Int))) (am_ws_get hs) rfl g1 hd ?_
  rw [g2, show ((i.toNat : Nat) : Int) = i by omega]
  exact h
theorem aw_baload {a n : Nat} {i : Int} (hd : decode mm.2.1 pc = .ok (.baload, 1)) (hs : am_sh[a]? = some (.inl (3, n))) (hi : 0 ≤ i ∧ i < n) (kk : AW d mm (pc + 1) L (.inl (M a i) :: st) M Q) : AW d mm pc L (.inl i :: .inr a :: st) M Q := by
  intro p l e s m args below meth c D dA ad H locs ls C hP hS hl
  obtain ⟨hx, hb, hr, hml, hlk, hown, hts, hK, hinj, hC⟩ := id C
  obtain ⟨g1, g2⟩ := am_in (am_small a 3 n hs) hi
  have h := kk p l e s m args below meth c D dA ad H locs ls C hP hS hl
  refine va_bald hx hb hK hP a 3 (f := fun j => Int32.ofInt (M a (j : Int))) (am_ws_get hs) rfl g1 hd ?_
  rw [g2, show ((i.toNat : Nat) : Int) = i by omega]
  exact h
theorem aw_iastore {a n : Nat} {i z : Int} (hd : decode mm.2.1 pc = .ok (.iastore, 1)) (hs : am_sh[a]? = some (.inl (0, n))) (hi : 0 ≤ i ∧ i < n) (kk : AW d mm (pc + 1) L st (am_up M a i z) Q) : AW d mm pc L (.inl z :: .inl i :: .inr a :: st) M Q := by
  intro p l e s m args below meth c D dA ad H locs ls C hP hS hl
  obtain ⟨hx, hb, hr, hml, hlk, hown, hts, hK, hinj, hC⟩ := id C
  obtain ⟨g1, g2⟩ := am_in (am_small a 0 n hs) hi
  refine va_iast hx hb hK hP (am_D hinj) hS a 0 (f := fun j => Int32.ofInt (M a (j : Int))) (am_ws_get hs) rfl (x := Int32.ofInt z) g1 hd (fun H1 locs1 hP1 _ hS1 => ?_)
  refine kk p l e s m args below meth c D dA ad H1 locs1 ls C (am_ws_put hs ?_ (am_up_ne M a i z) hP1) hS1 hl
  rw [g2, am_upd hi]
  rfl
theorem aw_castore {a n : Nat} {i z : Int} (hd : decode mm.2.1 pc = .ok (.castore, 1)) (hs : am_sh[a]? = some (.inl (1, n))) (hi : 0 ≤ i ∧ i < n) (hz : 0 ≤ z ∧ z < 256) (kk : AW d mm (pc + 1) L st (am_up M a i z) Q) : AW d mm pc L (.inl z :: .inl i :: .inr a :: st) M Q := by
  intro p l e s m args below meth c D dA ad H locs ls C hP hS hl
  obtain ⟨hx, hb, hr, hml, hlk, hown, hts, hK, hinj, hC⟩ := id C
  obtain ⟨g1, g2⟩ := am_in (am_small a 1 n hs) hi
  refine va_cast hx hb hK hP (am_D hinj) hS a 1 (f := fun j => Int32.ofInt (M a (j : Int))) (am_ws_get hs) rfl (x := Int32.ofInt z) g1 hd (fun H1 locs1 hP1 _ hS1 => ?_)
  refine kk p l e s m args below meth c D dA ad H1 locs1 ls C (am_ws_put hs ?_ (am_up_ne M a i z) hP1) hS1 hl
  rw [g2, (am_byte hz).2.2.1, am_upd hi]
  rfl
theorem aw_bastore {a n : Nat} {i z : Int} (hd : decode mm.2.1 pc = .ok (.bastore, 1)) (hs : am_sh[a]? = some (.inl (3, n))) (hi : 0 ≤ i ∧ i < n) (hz : -128 ≤ z ∧ z < 128) (kk : AW d mm (pc + 1) L st (am_up M a i z) Q) : AW d mm pc L (.inl z :: .inl i :: .inr a :: st) M Q := by
  intro p l e s m args below meth c D dA ad H locs ls C hP hS hl
  obtain ⟨hx, hb, hr, hml, hlk, hown, hts, hK, hinj, hC⟩ := id C
  obtain ⟨g1, g2⟩ := am_in (am_small a 3 n hs) hi
  refine va_bast hx hb hK hP (am_D hinj) hS a 3 (f := fun j => Int32.ofInt (M a (j : Int))) (am_ws_get hs) rfl (x := Int32.ofInt z) g1 hd (fun H1 locs1 hP1 _ hS1 => ?_)
  refine kk p l e s m args below meth c D dA ad H1 locs1 ls C (am_ws_put hs ?_ (am_up_ne M a i z) hP1) hS1 hl
  rw [g2, (am_sbyte hz).2, am_upd hi]
  rfl
theorem aw_zastore {a n : Nat} {i : Int} (hd : decode mm.2.1 pc = .ok (.bastore, 1)) (hs : am_sh[a]? = some (.inl (2, n))) (hi : 0 ≤ i ∧ i < n) (kk : AW d mm (pc + 1) L st (am_up M a i 1) Q) : AW d mm pc L (.inl 1 :: .inl i :: .inr a :: st) M Q := by
  intro p l e s m args below meth c D dA ad H locs ls C hP hS hl
  obtain ⟨hx, hb, hr, hml, hlk, hown, hts, hK, hinj, hC⟩ := id C
  obtain ⟨g1, g2⟩ := am_in (am_small a 2 n hs) hi
  refine va_zast hx hb hK hP (am_D hinj) hS a 2 (f := fun j => Int32.ofInt (M a (j : Int))) (am_ws_get hs) rfl (x := Int32.ofInt 1) g1 hd (fun H1 locs1 hP1 _ hS1 => ?_)
  refine kk p l e s m args below meth c D dA ad H1 locs1 ls C (am_ws_put hs ?_ (am_up_ne M a i 1) hP1) hS1 hl
  rw [g2, show vp_nar .boolean (Int32.ofInt 1) = Int32.ofInt 1 by decide +kernel, am_upd hi]
  rfl
theorem aw_aaload {a n : Nat} {i : Int} (hd : decode mm.2.1 pc = .ok (.aaload, 1)) (hs : am_sh[a]? = some (.inl (4, n))) (hi : 0 ≤ i ∧ i < n) (kk : AW d mm (pc + 1) L (.inr (M a i).toNat :: st) M Q) : AW d mm pc L (.inl i :: .inr a :: st) M Q := by
  intro p l e s m args below meth c D dA ad H locs ls C hP hS hl
  obtain ⟨hx, hb, hr, hml, hlk, hown, hts, hK, hinj, hC⟩ := id C
  obtain ⟨g1, g2⟩ := am_in (am_small a 4 n hs) hi
  have h := kk p l e s m args below meth c D dA ad H locs ls C hP hS hl
  refine va_aldq hx hb hK hP a 4 (C := RX3) (f := fun j => some (ad (M a (j : Int)).toNat)) (am_ws_get hs) rfl g1 hd ?_
  rw [g2, show ((i.toNat : Nat) : Int) = i by omega]
  exact h
theorem aw_aastore {a n v : Nat} {i : Int} {fs : List (Option Nat)} (hd : decode mm.2.1 pc = .ok (.aastore, 1)) (hs : am_sh[a]? = some (.inl (4, n))) (hv : am_sh[v]? = some (.inr (3, fs))) (hi : 0 ≤ i ∧ i < n) (kk : AW d mm (pc + 1) L st (am_up M a i (v : Int)) Q) : AW d mm pc L (.inr v :: .inl i :: .inr a :: st) M Q := by
  intro p l e s m args below meth c D dA ad H locs ls C hP hS hl
  obtain ⟨hx, hb, hr, hml, hlk, hown, hts, hK, hinj, hC⟩ := id C
  obtain ⟨g1, g2⟩ := am_in (am_small a 4 n hs) hi
  refine va_astq hx hb hK hP (am_D hinj) hS a 4 v 3 (r := (RX3, TX3, 4)) (f := fun j => some (ad (M a (j : Int)).toNat)) (am_ws_get hs) rfl (am_ws_get hv) rfl g1 hd (fun H1 locs1 hP1 _ hS1 => ?_)
  refine kk p l e s m args below meth c D dA ad H1 locs1 ls C (am_ws_put hs ?_ (am_up_ne M a i (v : Int)) hP1) hS1 hl
  have e9 : va_up (fun j : Nat => some (ad (M a (j : Int)).toNat)) i.toNat (some (ad v)) = fun j : Nat => some (ad (am_up M a i (v : Int) a (j : Int)).toNat) := by
    funext j
    by_cases hj : j = i.toNat
    · subst hj
      have : ((i.toNat : Nat) : Int) = i := by omega
      simp [va_up, am_up, this]
    · have : ¬ (j : Int) = i := by omega
      simp [va_up, am_up, this, hj]
  rw [g2, e9]
  rfl
theorem aw_alen {a n : Nat} (hd : decode mm.2.1 pc = .ok (.arraylength, 1)) (hs : am_sh[a]? = some (.inl (0, n))) (kk : AW d mm (pc + 1) L (.inl (n : Int) :: st) M Q) : AW d mm pc L (.inr a :: st) M Q := by
  intro p l e s m args below meth c D dA ad H locs ls C hP hS hl
  obtain ⟨hx, hb, hr, hml, hlk, hown, hts, hK, hinj, hC⟩ := id C
  exact va_alen hx hb hK hP a 0 (am_ws_get hs) (ty := .int) rfl (am_ofNat n) hd (kk p l e s m args below meth c D dA ad H locs ls C hP hS hl)
/-- static rows of ints: SETTING_LOWEST, SETTING_HIGHEST -/
theorem aw_gets100 {idx : Nat} (hd : decode mm.2.1 pc = .ok (.getstatic idx, 3)) (hw : Cond.fieldLink mm.1.cls idx "FollowedPeaks" "SETTING_LOWEST" "[I" ∈ am_T) (kk : AW d mm (pc + 3) L (.inr 100 :: st) M Q) : AW d mm pc L st M Q := by
  intro p l e s m args below meth c D dA ad H locs ls C hP hS hl
  obtain ⟨hx, hb, hr, hml, hlk, hown, hts, hK, hinj, hC⟩ := id C
  exact va_gets hx hb hC.1.1 hS hown (hts _ (am_mem hw)) (fun _ h => h) hd (kk p l e s m args below meth c D dA ad H locs ls C hP hS hl)
theorem aw_gets101 {idx : Nat} (hd : decode mm.2.1 pc = .ok (.getstatic idx, 3)) (hw : Cond.fieldLink mm.1.cls idx "FollowedPeaks" "SETTING_HIGHEST" "[I" ∈ am_T) (kk : AW d mm (pc + 3) L (.inr 101 :: st) M Q) : AW d mm pc L st M Q := by
  intro p l e s m args below meth c D dA ad H locs ls C hP hS hl
  obtain ⟨hx, hb, hr, hml, hlk, hown, hts, hK, hinj, hC⟩ := id C
  exact va_gets hx hb hC.2.1.1 hS hown (hts _ (am_mem hw)) (fun _ h => h) hd (kk p l e s m args below meth c D dA ad H locs ls C hP hS hl)
theorem aw_gets102 (hcls : mm.1.cls = "FollowedPeaks$Scene") (hd : decode mm.2.1 pc = .ok (.getstatic 28, 3)) (kk : AW d mm (pc + 3) L (.inr 102 :: st) M Q) : AW d mm pc L st M Q := by
  intro p l e s m args below meth c D dA ad H locs ls C hP hS hl
  obtain ⟨hx, hb, hr, hml, hlk, hown, hts, hK, hinj, hC⟩ := id C
  rw [hcls] at hown
  exact va_getsN hx hb hC.2.2.1.1 hS hown (va_Nw.use rfl hC.2.2.2.1.1) (fun _ h => h) hd (kk p l e s m args below meth c D dA ad H locs ls C hP hS hl)
theorem aw_iald100 {i : Int} (hd : decode mm.2.1 pc = .ok (.iaload, 1)) (hi : 0 ≤ i ∧ i < 3) (kk : AW d mm (pc + 1) L (.inl (am_lo.getD i.toNat 0) :: st) M Q) : AW d mm pc L (.inl i :: .inr 100 :: st) M Q := by
  intro p l e s m args below meth c D dA ad H locs ls C hP hS hl
  obtain ⟨hx, hb, hr, hml, hlk, hown, hts, hK, hinj, hC⟩ := id C
  obtain ⟨g1, g2⟩ := am_in (n := 3) (by decide) hi
  exact va_ti hx hb hC.1.2 hS g1 (by rw [g2]; rfl) hd (kk p l e s m args below meth c D dA ad H locs ls C hP hS hl)
theorem aw_iald101 {i : Int} (hd : decode mm.2.1 pc = .ok (.iaload, 1)) (hi : 0 ≤ i ∧ i < 3) (kk : AW d mm (pc + 1) L (.inl (am_hi.getD i.toNat 0) :: st) M Q) : AW d mm pc L (.inl i :: .inr 101 :: st) M Q := by
  intro p l e s m args below meth c D dA ad H locs ls C hP hS hl
  obtain ⟨hx, hb, hr, hml, hlk, hown, hts, hK, hinj, hC⟩ := id C
  obtain ⟨g1, g2⟩ := am_in (n := 3) (by decide) hi
  exact va_ti hx hb hC.2.1.2 hS g1 (by rw [g2]; rfl) hd (kk p l e s m args below meth c D dA ad H locs ls C hP hS hl)
end AMM
end
section
/-! the abstract machine: calls -/
theorem AC.mono {d : Nat} {mm : am_mm} {as : List am_v} {M : am_M} {Q Q' : Option Int → am_M → Prop} (hQ : ∀ r M', Q r M' → Q' r M') (h : AC d mm as M Q) : AC d mm as M Q' := by
  intro l D dA ad hinj p e ha hc hk s m args below hf happ hpre hk2
  obtain ⟨k, o, h1, h2, h3, ⟨⟨r, M', h4, h5, h6⟩, h7⟩, h8⟩ := h l D dA ad hinj p e ha hc hk s m args below hf happ hpre hk2
  exact ⟨k, o, h1, h2, h3, ⟨⟨r, M', h4, hQ r M' h5, h6⟩, h7⟩, h8⟩
def am_cB (own : String) (idx : Nat) (y : am_mm) (n : Nat) : Bool :=
  decide (Cond.methodLink own idx y.1 ∈ am_T) && decide (Cond.initialized y.1.cls ∈ am_T) && decide (Cond.code y.1 y.2.1 y.2.2.1 y.2.2.2 ∈ am_T) && decide (y.1.cls ≠ "java/lang/invoke/MethodHandle" ∧ y.1.cls ≠ "java/lang/invoke/VarHandle" ∧ (parseMethodDescriptor y.1.desc).map (fun d => d.parameters.length) = some n) && decide (y.2.2.1 ≤ 20)
def am_cvB (own : String) (idx : Nat) (y : am_mm) (n : Nat) : Bool := am_cB own idx y n && decide (Cond.instanceMethod y.1 ∈ am_T) && decide (Cond.selects y.1.cls y.1 y.1 ∈ am_T)
def am_csB (own : String) (idx : Nat) (y : am_mm) (n : Nat) : Bool := am_cB own idx y n && decide (Cond.static y.1 ∈ am_T)
theorem am_goodT {w : Cond} (h : w ∈ am_T) : (w.onTables && w.keeps) = true ∨ ∃ ty, w = .arrayClass ty := good_of_word (List.mem_filter.mp h).2
theorem am_good {mm mm' : am_mm} (hc : Cond.code mm'.1 mm'.2.1 mm'.2.2.1 mm'.2.2.2 ∈ am_T) : GoodIn (am_w mm) (am_w mm') := by
  intro w hw
  rcases List.mem_cons.mp hw with rfl | hw
  · exact ⟨am_mem hc, am_goodT hc⟩
  · exact ⟨am_mem hw, am_goodT hw⟩
section AMC
variable {d : Nat} {mm : am_mm} {pc : Nat} {L L' : List (Nat × am_v)} {st : List am_v} {M : am_M} {Q : Option Int → am_M → Prop}
theorem am_go {p : Program} {l : Launch} {e : Env} {R : Room} {s : State} {m : MethodId} {args : Array Value} {below : List Frame} {meth : Method} {c : Code} {H : Heap} {locs : List Loc} {Qs : State → Prop} {ls : Array Slot} {st0 rest : List Value} {a : Array Value} {D : va_G} {dA : Nat → ClassId} {ad : Nat → Nat} {Q' : Option Int → am_M → Prop}
    (hr : va_Run p l e R s m args below meth c H locs 0 0 0 0 (F0 m pc ls st0) rest (am_Qc D dA ad Q' a) (am_A ad)) (hS : va_S (am_A ad) s.heap H locs)
    (kk : ∀ (r : Option Int) (M' : am_M) (H1 : Heap) (locs1 : List Loc), Q' r M' → va_P D am_cl (am_ws dA ad M') H1 → va_S (am_A ad) s.heap H1 locs1 → W p l e R s m args below meth c H1 locs1 0 0 Qs (F0 m (pc + 3) ls ((r.map am_iv).toList ++ rest))) : W p l e R s m args below meth c H locs 0 0 Qs (F0 m pc ls st0) := by
  intro T hT X
  obtain ⟨v, st₀, t, T', L9, h0, X', hL, e1, e2, ⟨⟨r, M', hv, hq, hp⟩, hz, hk⟩, st⟩ := hr T hT X
  cases hv
  rw [h0] at hz hk
  obtain ⟨t2, a1, b1⟩ := kk r M' T'.heap (locs ++ L9) hq (by rw [e1]; exact hp)
    ⟨Nat.le_trans hS.1 (by rw [e1]; exact hz), fun q h1 h2 => by rw [e1, hk q (Nat.lt_of_lt_of_le h1 hS.1) h2]; exact hS.2.1 q h1 h2, fun q hq => by
      rcases List.mem_append.mp hq with h | h
      · exact hS.2.2 q h
      · exact hL q h⟩ T' rfl X'
  exact ⟨t2, st t2 a1, b1⟩
theorem am_cats (ad : Nat → Nat) : ∀ rest : List am_v, ((rest.map (am_val ad)).map fun v => v.category).sum = rest.length
  | [] => rfl
  | v :: r => by
    have h := am_cats ad r
    simp only [List.map_cons, List.sum_cons, am_cat, List.length_cons, h]
    omega
theorem am_ret (ad : Nat → Nat) (r : Option Int) (rest : List am_v) : ((r.map am_iv).toList ++ rest.map (am_val ad)) = ((r.map (Sum.inl : Int → am_v)).toList ++ rest).map (am_val ad) := by
  cases r <;> rfl
theorem am_cB_spec {own : String} {idx : Nat} {y : am_mm} {n : Nat} (h : am_cB own idx y n = true) : Cond.methodLink own idx y.1 ∈ am_T ∧ Cond.initialized y.1.cls ∈ am_T ∧ Cond.code y.1 y.2.1 y.2.2.1 y.2.2.2 ∈ am_T ∧ (y.1.cls ≠ "java/lang/invoke/MethodHandle" ∧ y.1.cls ≠ "java/lang/invoke/VarHandle" ∧ (parseMethodDescriptor y.1.desc).map (fun d => d.parameters.length) = some n) ∧ y.2.2.1 ≤ 20 := by
  unfold am_cB at h
  simp only [Bool.and_eq_true, decide_eq_true_eq] at h
  obtain ⟨⟨⟨⟨h1, h2⟩, h3⟩, h4⟩, h5⟩ := h
  exact ⟨h1, h2, h3, h4, h5⟩
theorem am_pre_go {p : Program} {s : State} {m : MethodId} {args : Array Value} {meth : Method} {c : Code} {D : va_G} {dA : Nat → ClassId} {ad : Nat → Nat} {H : Heap} {locs : List Loc} {av : List Value} (C : am_Ctx mm p s m args meth c D dA ad) (hP : va_P D am_cl (am_ws dA ad M) H) (hS : va_S (am_A ad) s.heap H locs) : ∀ U : State, U.heap = H → s.WarmedH U.vm → va_Pc av (am_Pre D dA ad M) av.toArray U := by
  obtain ⟨hx, hb, hr, hml, hlk, hown, hts, hK, hinj, hC⟩ := C
  exact fun U hU hW => ⟨rfl, by rw [hU]; exact hP, va_K.moved hW.alike hK, hC.go hS hU hW⟩
theorem aw_invv {d' : Nat} {mm' : am_mm} {b ci n idx : Nat} {fs : List (Option Nat)} {as rest st0 : List am_v} {q : vw_C} (hd : decode mm.2.1 pc = .ok (.invokevirtual idx, 3)) (hw : am_cvB mm.1.cls idx mm' n = true) (hdd : d' < d) (hs : am_sh[b]? = some (.inr (ci, fs))) (hcl : am_cl[ci]? = some q) (hq : q.1 = mm'.1.cls) (hn : as.length = n) (hst : st0 = as.reverse ++ .inr b :: rest) (hrest : rest.length ≤ 8)
    (h : AC d' mm' (.inr b :: as) M (fun r M' => AW d mm (pc + 3) L ((r.map Sum.inl).toList ++ rest) M' Q)) : AW d mm pc L st0 M Q := by
  intro p l e s m args below meth c D dA ad H locs ls C hP hS hl
  obtain ⟨hx, hb, hr, hml, hlk, hown, hts, hK, hinj, hC⟩ := id C
  unfold am_cvB at hw
  simp only [Bool.and_eq_true, decide_eq_true_eq] at hw
  obtain ⟨⟨hw, w6⟩, w7⟩ := hw
  obtain ⟨w1, w2, w3, w4, w5⟩ := am_cB_spec hw
  subst hst
  have hG : GoodIn (am_w mm) (wsV mm.1.cls idx mm'.1.cls mm'.1 (am_w mm')) := by
    intro w hw
    rcases List.mem_append.mp hw with hw | hw
    · simp only [List.mem_cons, List.not_mem_nil, or_false] at hw
      rcases hw with rfl | rfl | rfl | rfl
      · exact ⟨am_mem w1, am_goodT w1⟩
      · exact ⟨am_mem w6, am_goodT w6⟩
      · exact ⟨am_mem w7, am_goodT w7⟩
      · exact ⟨am_mem w2, am_goodT w2⟩
    · exact am_good w3 w hw
  have hrun := va_runV (As := as.map (am_val ad)) (rest := rest.map (am_val ad)) (g := F0 m pc ls ((as.reverse ++ .inr b :: rest).map (am_val ad))) (locs := locs) (cells := 0) (slots := 0) (below := below) (e := e) (meth := meth) (R := am_room d) ⟨hx, hb, hml, hown, hts⟩ (h l D dA ad hinj) (cwV (R := am_room d) n hts hG rfl rfl rfl ⟨rfl, w4⟩ ⟨hdd, by show 8 + (_ + 11) + 39 * d' ≤ 39 * d; omega⟩)
    ⟨am_blind, by rw [← hq]; exact va_recv hK hP hcl (am_ws_get hs), am_pre_go (av := (.inr b :: as : List am_v).map (am_val ad)) C hP hS⟩ rfl (by simpa using hn) hl.1 (by simp [am_val]) (lv_room (by rw [am_cats]; exact hrest)) hd ⟨Nat.le_refl _, Nat.le_refl _⟩
  refine am_go hrun hS (fun r M' H1 locs1 hQ hP1 hS1 => ?_)
  rw [am_ret]
  exact hQ p l e s m args below meth c D dA ad H1 locs1 ls C hP1 hS1 hl
theorem aw_invs {d' : Nat} {mm' : am_mm} {n idx : Nat} {as rest st0 : List am_v} (hd : decode mm.2.1 pc = .ok (.invokestatic idx, 3)) (hw : am_csB mm.1.cls idx mm' n = true) (hdd : d' < d) (hn : as.length = n) (hst : st0 = as.reverse ++ rest) (hrest : rest.length ≤ 8)
    (h : AC d' mm' as M (fun r M' => AW d mm (pc + 3) L ((r.map Sum.inl).toList ++ rest) M' Q)) : AW d mm pc L st0 M Q := by
  intro p l e s m args below meth c D dA ad H locs ls C hP hS hl
  obtain ⟨hx, hb, hr, hml, hlk, hown, hts, hK, hinj, hC⟩ := id C
  unfold am_csB at hw
  simp only [Bool.and_eq_true, decide_eq_true_eq] at hw
  obtain ⟨hw, w6⟩ := hw
  obtain ⟨w1, w2, w3, w4, w5⟩ := am_cB_spec hw
  subst hst
  have hG : GoodIn (am_w mm) (va_wsS mm.1.cls idx mm'.1 (am_w mm')) := by
    intro w hw
    rcases List.mem_append.mp hw with hw | hw
    · simp only [List.mem_cons, List.not_mem_nil, or_false] at hw
      rcases hw with rfl | rfl | rfl
      · exact ⟨am_mem w1, am_goodT w1⟩
      · exact ⟨am_mem w6, am_goodT w6⟩
      · exact ⟨am_mem w2, am_goodT w2⟩
    · exact am_good w3 w hw
  have hrun := va_runS (As := as.map (am_val ad)) (rest := rest.map (am_val ad)) (g := F0 m pc ls ((as.reverse ++ rest).map (am_val ad))) (locs := locs) (cells := 0) (slots := 0) (below := below) (e := e) (meth := meth) (R := am_room d) ⟨hx, hb, hml, hown, hts⟩ (h l D dA ad hinj) (va_cwS (R := am_room d) n hts hG rfl rfl rfl w4 ⟨hdd, by show 8 + (_ + 11) + 39 * d' ≤ 39 * d; omega⟩)
    ⟨am_blind, am_pre_go (av := as.map (am_val ad)) C hP hS⟩ rfl (by simpa using hn) hl.1 (by simp) (lv_room (by rw [am_cats]; exact hrest)) hd ⟨Nat.le_refl _, Nat.le_refl _⟩
  refine am_go hrun hS (fun r M' H1 locs1 hQ hP1 hS1 => ?_)
  rw [am_ret]
  exact hQ p l e s m args below meth c D dA ad H1 locs1 ls C hP1 hS1 hl
end AMC
end
section
/-! the abstract machine: a nest mate's static method, System.arraycopy, String constants -/
abbrev mX7_isSetting : am_mm := (yX7_isSetting, cX7_isSetting, 2, some .boolean)
theorem am_isSetting_code : Cond.code mX7_isSetting.1 mX7_isSetting.2.1 mX7_isSetting.2.2.1 mX7_isSetting.2.2.2 ∈ am_T ∧ Cond.static yX7_isSetting ∈ am_T ∧ Cond.initialized yX7_isSetting.cls ∈ am_T := by decide +kernel
def am_cpB (own : String) (idx : Nat) : Bool := decide (Cond.methodLink own idx arraycopyName ∈ am_T) && decide (Cond.native arraycopyName ∈ am_T) && decide (Cond.static arraycopyName ∈ am_T) && decide (Cond.initialized "java/lang/System" ∈ am_T)
section AME
variable {d : Nat} {mm : am_mm} {pc : Nat} {L L' : List (Nat × am_v)} {st : List am_v} {M : am_M} {Q : Option Int → am_M → Prop}
theorem aw_isSetting {d' : Nat} {x y : Int} {rest : List am_v} (hcls : mm.1.cls = "FollowedPeaks$Text") (hd : decode mm.2.1 pc = .ok (.invokestatic 71, 3)) (hdd : d' < d) (hrest : rest.length ≤ 8)
    (h : AC d' mX7_isSetting [.inl x, .inl y] M (fun r M' => AW d mm (pc + 3) L ((r.map Sum.inl).toList ++ rest) M' Q)) : AW d mm pc L (.inl y :: .inl x :: rest) M Q := by
  intro p l e s m args below meth c D dA ad H locs ls C hP hS hl
  obtain ⟨hx, hb, hr, hml, hlk, hown, hts, hK, hinj, hC⟩ := id C
  obtain ⟨w3, w6, w2⟩ := am_isSetting_code
  rw [hcls] at hown
  have hrun := va_runSN (As := [am_val ad (.inl x), am_val ad (.inl y)]) (rest := rest.map (am_val ad)) (g := F0 m pc ls ((.inl y :: .inl x :: rest : List am_v).map (am_val ad))) (locs := locs) (cells := 0) (slots := 0) (below := below) (e := e) (meth := meth) (R := am_room d) ⟨hx, hb, hml, hown, hts⟩ (h l D dA ad hinj)
    ⟨va_cnB (R := am_room d) 2 hts (am_good w3) rfl rfl rfl hC.2.2.2.1.2 (hts _ (am_mem w2)) (by decide +kernel) ⟨hdd, by show 8 + (2 + 11) + 39 * d' ≤ 39 * d; omega⟩, hts _ (am_mem w6), trivial⟩
    ⟨am_blind, am_pre_go (av := [am_val ad (.inl x), am_val ad (.inl y)]) C hP hS⟩ rfl rfl hl.1 rfl (lv_room (by rw [am_cats]; exact hrest)) hd ⟨Nat.le_refl _, Nat.le_refl _⟩
  refine am_go hrun hS (fun r M' H1 locs1 hQ hP1 hS1 => ?_)
  rw [am_ret]
  exact hQ p l e s m args below meth c D dA ad H1 locs1 ls C hP1 hS1 hl
theorem am_nn {x : Int} {n : Nat} (hn : n < 1000) (h : 0 ≤ x ∧ x ≤ n) : ¬ Int32.ofInt x < 0 ∧ (Int32.ofInt x).toNatClampNeg = x.toNat := by
  refine ⟨fun q => ?_, Int32.toNatClampNeg_ofInt_of_le (by omega) (by omega)⟩
  have := (am_lt (x := x) (y := 0) (by omega) (by omega)).mp q
  omega
theorem am_cpy {M : am_M} {a b na nb : Nat} {sp dp n : Int} (h1 : 0 ≤ sp ∧ 0 ≤ dp ∧ 0 ≤ n) : va_cpy (fun j : Nat => Int32.ofInt (M a (j : Int))) (fun j : Nat => Int32.ofInt (M b (j : Int))) sp.toNat dp.toNat n.toNat = fun j : Nat => Int32.ofInt (am_cp M a sp b dp n b (j : Int)) := by
  funext j
  simp only [va_cpy, am_cp, if_true]
  by_cases hj : dp ≤ (j : Int) ∧ (j : Int) < dp + n
  · rw [if_pos (by omega), if_pos hj]
    congr 2
    omega
  · rw [if_neg (by omega), if_neg hj]
theorem am_cp_ne (M : am_M) (a : Nat) (sp : Int) (b : Nat) (dp n : Int) (x : Nat) (h : x ≠ b) : am_cp M a sp b dp n x = M x := by
  funext j
  simp [am_cp, h]
theorem aw_copy {idx a b na nb : Nat} {sp dp n : Int} {rest : List am_v} (hd : decode mm.2.1 pc = .ok (.invokestatic idx, 3)) (hw : am_cpB mm.1.cls idx = true) (hdd : 0 < d) (ha : am_sh[a]? = some (.inl (0, na))) (hb0 : am_sh[b]? = some (.inl (0, nb))) (hr : rest.length ≤ 8) (hz : 0 ≤ sp ∧ 0 ≤ dp ∧ 0 ≤ n ∧ sp + n ≤ na ∧ dp + n ≤ nb)
    (kk : AW d mm (pc + 3) L rest (am_cp M a sp b dp n) Q) : AW d mm pc L (.inl n :: .inl dp :: .inr b :: .inl sp :: .inr a :: rest) M Q := by
  intro p l e s m args below meth c D dA ad H locs ls C hP hS hl
  obtain ⟨hx, hb, hr', hml, hlk, hown, hts, hK, hinj, hC⟩ := id C
  unfold am_cpB at hw
  simp only [Bool.and_eq_true, decide_eq_true_eq] at hw
  obtain ⟨⟨⟨w1, w2⟩, w3⟩, w4⟩ := hw
  have sa := am_small a 0 na ha
  have sb := am_small b 0 nb hb0
  obtain ⟨e1, e2⟩ := am_nn (x := sp) sa ⟨by omega, by omega⟩
  obtain ⟨e3, e4⟩ := am_nn (x := dp) sb ⟨by omega, by omega⟩
  obtain ⟨e5, e6⟩ := am_nn (x := n) sa ⟨by omega, by omega⟩
  refine va_copyi hx hb (hml.trans hl.1.symm) hown (hts _ (am_mem w1)) (hts _ (am_mem w2)) (hts _ (am_mem w3)) (hts _ (am_mem w4)) hK hP (am_D hinj) hS a b 0 0 (f := fun j => Int32.ofInt (M a (j : Int))) (g := fun j => Int32.ofInt (M b (j : Int))) (am_ws_get ha) (am_ws_get hb0) rfl rfl rfl e1 e3 e5 (by show _ ≤ na; rw [e2, e6]; omega) (by show _ ≤ nb; rw [e4, e6]; omega) (fun i _ => rfl) (by show 1 ≤ d; omega) (by rw [am_cats]; show _ + (7 + 11) ≤ 39 * d; omega) hd (fun H1 locs1 hP1 _ hS1 => ?_)
  rw [e2, e4, e6, am_cpy (na := na) (nb := nb) (by omega)] at hP1
  exact kk p l e s m args below meth c D dA ad H1 locs1 ls C (am_ws_put hb0 rfl (am_cp_ne M a sp b dp n) hP1) hS1 hl
theorem am_cpyt {M : am_M} {b : Nat} (xs : List Int) : va_cpy (fun j : Nat => Int32.ofInt (xs.getD j 0)) (fun j : Nat => Int32.ofInt (M b (j : Int))) 0 0 3 = fun j : Nat => Int32.ofInt (am_cpt M xs b 3 b (j : Int)) := by
  funext j
  simp only [va_cpy, am_cpt, if_true]
  by_cases hj : j < 3
  · rw [if_pos (by omega), if_pos (by omega)]
    congr 2
    omega
  · rw [if_neg (by omega), if_neg (by omega)]
theorem am_cpt_ne (M : am_M) (xs : List Int) (b : Nat) (n : Int) (x : Nat) (h : x ≠ b) : am_cpt M xs b n x = M x := by
  funext j
  simp [am_cpt, h]
/-- System.arraycopy(SETTING_AT_FIRST, 0, b, 0, 3) -/
theorem aw_copyt {idx b : Nat} {rest : List am_v} (hd : decode mm.2.1 pc = .ok (.invokestatic idx, 3)) (hw : am_cpB mm.1.cls idx = true) (hdd : 0 < d) (hb0 : am_sh[b]? = some (.inl (0, 3))) (hr : rest.length ≤ 8)
    (kk : AW d mm (pc + 3) L rest (am_cpt M am_fi b 3) Q) : AW d mm pc L (.inl 3 :: .inl 0 :: .inr b :: .inl 0 :: .inr 102 :: rest) M Q := by
  intro p l e s m args below meth c D dA ad H locs ls C hP hS hl T hT X
  obtain ⟨hx, hb, hr', hml, hlk, hown, hts, hK, hinj, hC⟩ := id C
  unfold am_cpB at hw
  simp only [Bool.and_eq_true, decide_eq_true_eq] at hw
  obtain ⟨⟨⟨w1, w2⟩, w3⟩, w4⟩ := hw
  obtain ⟨scr, hs1, hs2, hs3, hs4, -, hs5, hs7⟩ := hC.2.2.1.2
  have hD := am_D (dA := dA) (M := M) hinj
  have hc0 : H[ad 102]? = some scr := by rw [hS.2.1 (ad 102) (Array.getElem?_eq_some_iff.mp hs1).1 hs7]; exact hs1
  have ha1 := am_ws_get (dA := dA) (ad := ad) (M := M) hb0
  have hc1 : H[ad b]? = some (vp_cell (dA 0) (3, .inl (fun j : Nat => Int32.ofInt (M b (j : Int))))) := hP b _ ha1
  obtain ⟨hs6, k0, hk0, cm0, hkk0⟩ := hs2
  obtain ⟨-, k1, hk1, cm1, hkk1⟩ := (hK.2 0 (dA 0, .int) rfl).1 3 (fun j : Nat => .int (Int32.ofInt (M b (j : Int))))
  obtain ⟨vm', X', step⟩ := X.arraycopy hx hown (hts _ (am_mem w1)) (hts _ (am_mem w2)) (hts _ (am_mem w3)) (hts _ (am_mem w4)) (src := ad 102) (dst := ad b) (cs := scr) (cd := vp_cell (dA 0) (3, .inl (fun j : Nat => Int32.ofInt (M b (j : Int))))) (srcPos := 0) (destPos := 0) (n := 3) (by rw [hT]; exact hc0) (by rw [hT]; exact hc1)
    hs6 (fun _ h => by cases h) hs3 (fun h => by cases h) hk0 hk1 hkk0 hkk1 (by simp [refKind]) (by decide) (by decide) (by decide)
    (by show ¬ (0 : Int) + 3 > _; omega)
    (by show ¬ (0 : Int) + 3 > ((arrV (dA 0) 3 (fun j : Nat => .int (Int32.ofInt (M b (j : Int))))).slots.size : Int); rw [arrV_size]; decide)
    (fun vm₁ _ i hi => by
      have hi3 : i < 3 := hi
      have e9 : scr.slots.getD ((0 : Int32).toNatClampNeg + i) .null = .int (Int32.ofInt (am_fi.getD i 0)) := by
        rw [Array.getD_eq_getD_getElem?, show (0 : Int32).toNatClampNeg + i = i from Nat.zero_add i, hs5 i hi3]
        rfl
      refine ⟨?_, ?_⟩
      · rw [e9]
        rfl
      · rw [e9]
        exact trivial)
    (g := F0 m pc ls (.int 3 :: .int 0 :: .ref (ad b) :: .int 0 :: .ref (ad 102) :: rest.map (am_val ad))) rfl (by rw [hml]; exact hl.1) (rest := rest.map (am_val ad)) rfl (by rw [hb]; exact hd) (by show 1 ≤ d; omega) (by show 2 * 0 + _ + (7 + 11) ≤ 39 * d; rw [am_cats]; omega)
  have e1 : copied scr (vp_cell (dA 0) (3, .inl (fun j : Nat => Int32.ofInt (M b (j : Int))))) 0 0 3 = vp_cell (dA 0) (3, .inl (va_cpy (fun j : Nat => Int32.ofInt (am_fi.getD j 0)) (fun j : Nat => Int32.ofInt (M b (j : Int))) 0 0 3)) := va_copiedX (fun z => .int z) scr (dA 0) (fun j : Nat => Int32.ofInt (am_fi.getD j 0)) (fun j : Nat => Int32.ofInt (M b (j : Int))) hs5 (Nat.le_refl 3)
  rw [am_cpyt] at e1
  rw [e1] at X' step
  have hl9 : ad b < H.size := (Array.getElem?_eq_some_iff.mp hc1).1
  generalize hcc : vp_cell (dA 0) (3, .inl (fun j : Nat => Int32.ofInt (am_cpt M am_fi b 3 b (j : Int)))) = cc9 at X' step
  have hheap : ((T.setVm vm').setCell (ad b) cc9).heap = H.setIfInBounds (ad b) cc9 := by rw [← hT]; rfl
  have oq : ∀ q : Nat, q ≠ ad b → (H.setIfInBounds (ad b) cc9)[q]? = H[q]? := fun q hq => by simp [Array.getElem?_setIfInBounds, Ne.symm hq]
  have hP1 : va_P D am_cl ((am_ws dA ad M).set b (ad b, am_cell dA ad (am_cpt M am_fi b 3) b (.inl (0, 3)))) (H.setIfInBounds (ad b) cc9) := hP.set hD ha1 (show (H.setIfInBounds (ad b) _)[ad b]? = some _ by rw [← hcc]; simp [Array.getElem?_setIfInBounds, hl9, am_cell]) oq
  obtain ⟨t, a1, b1⟩ := kk p l e s m args below meth c D dA ad _ _ ls C (am_ws_put hb0 rfl (am_cpt_ne M am_fi b 3) hP1) ⟨by simp; exact hS.1, fun q g1 g2 => by
      rw [oq q (fun e => g2 (by rw [e]; exact hD.2 b _ ha1))]
      exact hS.2.1 q g1 g2, fun q hq => by
      rcases List.mem_append.mp hq with h | h
      · exact hS.2.2 q h
      · obtain ⟨z, -, hz⟩ := List.mem_map.mp h
        rw [← hz]
        exact hD.2 b _ ha1⟩ hl _ hheap X'
  exact ⟨t, step t a1, b1⟩
end AME
end
section
/-! String constants: their length and letters, by the JDK's own methods -/
abbrev mJ0_length : am_mm := (yJ0_length_8abf5, cJ0_length_8abf5, 1, some .int)
abbrev mJ0_coder : am_mm := (yJ0_coder_7d493, cJ0_coder_7d493, 1, some .byte)
abbrev mJ0_charAt : am_mm := (yJ0_charAt_5068e, cJ0_charAt_5068e, 2, some .char)
abbrev mJ0_isLatin1 : am_mm := (yJ0_isLatin1_aae02, cJ0_isLatin1_aae02, 1, some .boolean)
abbrev mJ0_checkIndex : am_mm := (yJ0_checkIndex_df160, cJ0_checkIndex_df160, 2, none)
abbrev mJ1_charAt : am_mm := (yJ1_charAt_3b067, cJ1_charAt_3b067, 2, some .char)
abbrev mJ3_checkIndex : am_mm := (yJ3_checkIndex_8e157, cJ3_checkIndex_8e157, 3, some .int)
/-- the letters of the four words -/
def am_chr (i : Nat) (j : Int) : Int := (([[102, 114, 97, 109, 101], [102, 108, 111, 111, 114], [114, 101, 97, 99, 104], [108, 101, 97, 115, 116]] : List (List Int)).getD i []).getD j.toNat 0
theorem am_chr_ok : ∀ i : Fin 4, ∀ j : Fin 5, (am_byt.getD i.val []).getD j.val 0 = Int32.ofInt (am_chr i.val (j.val : Int)) ∧ -128 ≤ am_chr i.val (j.val : Int) ∧ am_chr i.val (j.val : Int) < 128 ∧ 0 ≤ am_chr i.val (j.val : Int) := by decide +kernel
theorem am_sl_ok : ∀ i : Fin 4, ([5, 5, 5, 5] : List Nat).getD i.val 0 = 5 := by decide +kernel
section AMF
variable {d : Nat} {mm : am_mm} {pc : Nat} {L L' : List (Nat × am_v)} {st : List am_v} {M : am_M} {Q : Option Int → am_M → Prop}
theorem aw_sval {b i idx : Nat} (hi : i < 4) (hbi : b = 110 + i) (hd : decode mm.2.1 pc = .ok (.getfield idx, 3)) (hw : Cond.fieldLink mm.1.cls idx "java/lang/String" "value" "[B" ∈ am_T) (kk : AW d mm (pc + 3) L (.inr (120 + i) :: st) M Q) : AW d mm pc L (.inr b :: st) M Q := by
  intro p l e s m args below meth c D dA ad H locs ls C hP hS hl
  obtain ⟨hx, hb, hr, hml, hlk, hown, hts, hK, hinj, hC⟩ := id C
  subst hbi
  exact vk_getf hx hb (hC.2.2.2.2.1.1.1 i hi).2.2.1 hS hown (hts _ (am_mem hw)) (fun _ h => h) hd (kk p l e s m args below meth c D dA ad H locs ls C hP hS hl)
theorem aw_scod {b i idx : Nat} (hi : i < 4) (hbi : b = 110 + i) (hd : decode mm.2.1 pc = .ok (.getfield idx, 3)) (hw : Cond.fieldLink mm.1.cls idx "java/lang/String" "coder" "B" ∈ am_T) (kk : AW d mm (pc + 3) L (.inl 0 :: st) M Q) : AW d mm pc L (.inr b :: st) M Q := by
  intro p l e s m args below meth c D dA ad H locs ls C hP hS hl
  obtain ⟨hx, hb, hr, hml, hlk, hown, hts, hK, hinj, hC⟩ := id C
  subst hbi
  exact vk_getf hx hb (hC.2.2.2.2.1.1.1 i hi).2.1 hS hown (hts _ (am_mem hw)) (fun _ h => h) hd (kk p l e s m args below meth c D dA ad H locs ls C hP hS hl)
theorem aw_salen {b i : Nat} (hi : i < 4) (hbi : b = 120 + i) (hd : decode mm.2.1 pc = .ok (.arraylength, 1)) (kk : AW d mm (pc + 1) L (.inl 5 :: st) M Q) : AW d mm pc L (.inr b :: st) M Q := by
  intro p l e s m args below meth c D dA ad H locs ls C hP hS hl
  obtain ⟨hx, hb, hr, hml, hlk, hown, hts, hK, hinj, hC⟩ := id C
  subst hbi
  exact va_tlen hx hb (hC.2.2.2.2.1.1.1 i hi).2.2.2 hS (v := Int32.ofInt 5) (by rw [am_sl_ok ⟨i, hi⟩]; rfl) hd (kk p l e s m args below meth c D dA ad H locs ls C hP hS hl)
theorem aw_sbald {b i : Nat} {j : Int} (hi : i < 4) (hbi : b = 120 + i) (hj : 0 ≤ j ∧ j < 5) (hd : decode mm.2.1 pc = .ok (.baload, 1)) (kk : AW d mm (pc + 1) L (.inl (am_chr i j) :: st) M Q) : AW d mm pc L (.inl j :: .inr b :: st) M Q := by
  intro p l e s m args below meth c D dA ad H locs ls C hP hS hl
  obtain ⟨hx, hb, hr, hml, hlk, hown, hts, hK, hinj, hC⟩ := id C
  subst hbi
  obtain ⟨g1, g2⟩ := am_in (n := 5) (by decide) hj
  refine va_tb hx hb (hC.2.2.2.2.1.1.1 i hi).2.2.2 hS (v := .int (Int32.ofInt (am_chr i j))) (by rw [am_sl_ok ⟨i, hi⟩]; exact g1) ?_ hd (kk p l e s m args below meth c D dA ad H locs ls C hP hS hl)
  have h9 := (am_chr_ok ⟨i, hi⟩ ⟨j.toNat, by omega⟩).1
  simp only [show ((j.toNat : Nat) : Int) = j by omega] at h9
  rw [g2, h9]
theorem aw_gcs {idx : Nat} (hd : decode mm.2.1 pc = .ok (.getstatic idx, 3)) (hw : Cond.fieldLink mm.1.cls idx "java/lang/String" "COMPACT_STRINGS" "Z" ∈ am_T) (kk : AW d mm (pc + 3) L (.inl 1 :: st) M Q) : AW d mm pc L st M Q := by
  intro p l e s m args below meth c D dA ad H locs ls C hP hS hl
  obtain ⟨hx, hb, hr, hml, hlk, hown, hts, hK, hinj, hC⟩ := id C
  exact va_gets hx hb hC.2.2.2.2.2.1 hS hown (hts _ (am_mem hw)) (fun _ h => h) hd (kk p l e s m args below meth c D dA ad H locs ls C hP hS hl)
theorem aw_ldcS {idx a : Nat} (hR : ∀ (ad : Nat → Nat) (s : State), am_K ad s → ∃ tx, vk_R mm.1.cls idx tx (ad a) s) (hd : decode mm.2.1 pc = .ok (.ldc idx, 2)) (kk : AW d mm (pc + 2) L (.inr a :: st) M Q) : AW d mm pc L st M Q := by
  intro p l e s m args below meth c D dA ad H locs ls C hP hS hl
  obtain ⟨hx, hb, hr, hml, hlk, hown, hts, hK, hinj, hC⟩ := id C
  obtain ⟨tx, h9⟩ := hR ad s hC
  exact va_ldcS hx hb hown h9 hd (kk p l e s m args below meth c D dA ad H locs ls C hP hS hl)
theorem aw_invvS {d' : Nat} {mm' : am_mm} {b i n idx : Nat} {as rest st0 : List am_v} (hd : decode mm.2.1 pc = .ok (.invokevirtual idx, 3)) (hw : am_cvB mm.1.cls idx mm' n = true) (hdd : d' < d) (hi : i < 4) (hbi : b = 110 + i) (hq : mm'.1.cls = "java/lang/String") (hn : as.length = n) (hst : st0 = as.reverse ++ .inr b :: rest) (hrest : rest.length ≤ 8)
    (h : AC d' mm' (.inr b :: as) M (fun r M' => AW d mm (pc + 3) L ((r.map Sum.inl).toList ++ rest) M' Q)) : AW d mm pc L st0 M Q := by
  intro p l e s m args below meth c D dA ad H locs ls C hP hS hl
  obtain ⟨hx, hb, hr, hml, hlk, hown, hts, hK, hinj, hC⟩ := id C
  unfold am_cvB at hw
  simp only [Bool.and_eq_true, decide_eq_true_eq] at hw
  obtain ⟨⟨hw, w6⟩, w7⟩ := hw
  obtain ⟨w1, w2, w3, w4, w5⟩ := am_cB_spec hw
  subst hst
  have hG : GoodIn (am_w mm) (wsV mm.1.cls idx mm'.1.cls mm'.1 (am_w mm')) := by
    intro w hw
    rcases List.mem_append.mp hw with hw | hw
    · simp only [List.mem_cons, List.not_mem_nil, or_false] at hw
      rcases hw with rfl | rfl | rfl | rfl
      · exact ⟨am_mem w1, am_goodT w1⟩
      · exact ⟨am_mem w6, am_goodT w6⟩
      · exact ⟨am_mem w7, am_goodT w7⟩
      · exact ⟨am_mem w2, am_goodT w2⟩
    · exact am_good w3 w hw
  have hrun := va_runV (As := as.map (am_val ad)) (rest := rest.map (am_val ad)) (g := F0 m pc ls ((as.reverse ++ .inr b :: rest).map (am_val ad))) (locs := locs) (cells := 0) (slots := 0) (below := below) (e := e) (meth := meth) (R := am_room d) ⟨hx, hb, hml, hown, hts⟩ (h l D dA ad hinj) (cwV (R := am_room d) n hts hG rfl rfl rfl ⟨rfl, w4⟩ ⟨hdd, by show 8 + (_ + 11) + 39 * d' ≤ 39 * d; omega⟩)
    ⟨am_blind, by rw [hq, hbi]; exact vk_recv (adK := fun i => ad (110 + i)) (i := i) hC.2.2.2.2.1.1 hi hS, am_pre_go (av := (.inr b :: as : List am_v).map (am_val ad)) C hP hS⟩ rfl (by simpa using hn) hl.1 (by simp [am_val]) (lv_room (by rw [am_cats]; exact hrest)) hd ⟨Nat.le_refl _, Nat.le_refl _⟩
  refine am_go hrun hS (fun r M' H1 locs1 hQ hP1 hS1 => ?_)
  rw [am_ret]
  exact hQ p l e s m args below meth c D dA ad H1 locs1 ls C hP1 hS1 hl
end AMF
theorem am_w9 : Cond.fieldLink "java/lang/String" 9 "java/lang/String" "value" "[B" ∈ am_T := by decide +kernel
theorem am_w15 : Cond.fieldLink "java/lang/String" 15 "java/lang/String" "coder" "B" ∈ am_T := by decide +kernel
theorem am_w38 : Cond.fieldLink "java/lang/String" 38 "java/lang/String" "COMPACT_STRINGS" "Z" ∈ am_T := by decide +kernel
theorem am_w1053 : Cond.fieldLink "java/lang/String" 1053 "jdk/internal/util/Preconditions" "SIOOBE_FORMATTER" "Ljava/util/function/BiFunction;" ∈ am_T := by decide +kernel
theorem am_c335 : am_cvB "java/lang/String" 335 mJ0_coder 0 = true := by decide +kernel
theorem am_c492 : am_cvB "java/lang/String" 492 mJ0_isLatin1 0 = true := by decide +kernel
theorem am_c495 : am_csB "java/lang/String" 495 mJ1_charAt 2 = true := by decide +kernel
theorem am_c9 : am_csB "java/lang/StringLatin1" 9 mJ0_checkIndex 2 = true := by decide +kernel
theorem am_c1059 : am_csB "java/lang/String" 1059 mJ3_checkIndex 3 = true := by decide +kernel
theorem sc_coder {d i : Nat} {M : am_M} {Q : Option Int → am_M → Prop} (hi : i < 4) (h : Q (some 0) M) : AC d mJ0_coder [.inr (110 + i)] M Q := by
  refine aw_body (by decide) (Nat.le_of_ble_eq_true rfl) rfl ?_
  refine aw_gcs dJ0_coder_7d493_0 am_w38 ?_
  refine aw_if_eq dJ0_coder_7d493_3 (tgt := 13) rfl (by decide) (fun c => absurd c (by decide)) (fun c => ?_)
  refine aw_aload_n dJ0_coder_7d493_6 rfl (j := 0) rfl ?_
  refine aw_scod hi rfl dJ0_coder_7d493_7 am_w15 ?_
  refine aw_goto dJ0_coder_7d493_10 (tgt := 14) rfl ?_
  exact aw_nret dJ0_coder_7d493_14 rfl (by decide +kernel) h
theorem sc_length {d i : Nat} {M : am_M} {Q : Option Int → am_M → Prop} (hi : i < 4) (h : Q (some 5) M) : AC (d + 1) mJ0_length [.inr (110 + i)] M Q := by
  refine aw_body (by decide) (Nat.le_of_ble_eq_true rfl) rfl ?_
  refine aw_aload_n dJ0_length_8abf5_0 rfl (j := 0) rfl ?_
  refine aw_sval hi rfl dJ0_length_8abf5_1 am_w9 ?_
  refine aw_salen hi rfl dJ0_length_8abf5_4 ?_
  refine aw_aload_n dJ0_length_8abf5_5 rfl (j := 0) rfl ?_
  refine aw_invvS (d' := d) (as := []) (rest := [.inl 5]) dJ0_length_8abf5_6 am_c335 (Nat.lt_succ_self d) hi rfl rfl rfl rfl (by decide) (sc_coder hi ?_)
  refine aw_ishr0 dJ0_length_8abf5_9 ?_
  exact aw_iret dJ0_length_8abf5_10 rfl h
theorem sc_latin {d i : Nat} {M : am_M} {Q : Option Int → am_M → Prop} (hi : i < 4) (h : Q (some 1) M) : AC d mJ0_isLatin1 [.inr (110 + i)] M Q := by
  refine aw_body (by decide) (Nat.le_of_ble_eq_true rfl) rfl ?_
  refine aw_gcs dJ0_isLatin1_aae02_0 am_w38 ?_
  refine aw_if_eq dJ0_isLatin1_aae02_3 (tgt := 17) rfl (by decide) (fun c => absurd c (by decide)) (fun c => ?_)
  refine aw_aload_n dJ0_isLatin1_aae02_6 rfl (j := 0) rfl ?_
  refine aw_scod hi rfl dJ0_isLatin1_aae02_7 am_w15 ?_
  refine aw_if_ne dJ0_isLatin1_aae02_10 (tgt := 17) rfl (by decide) (fun c => absurd rfl c) (fun c => ?_)
  refine aw_iconst dJ0_isLatin1_aae02_13 ?_
  refine aw_goto dJ0_isLatin1_aae02_14 (tgt := 18) rfl ?_
  exact aw_zret dJ0_isLatin1_aae02_18 rfl (Or.inr rfl) h
/-- Preconditions.checkIndex of an index that is in range, with any third argument -/
theorem sc_pci {l : Launch} {D : va_G} {dA : Nat → ClassId} {ad : Nat → Nat} (hinj : am_inj ad) {d : Nat} {M : am_M} {i n : Int} {v : Value} (hv : v.category = 1) (hi : 0 ≤ i ∧ i < n ∧ n < 1000) : Met l yJ3_checkIndex_8e157 (am_w mJ3_checkIndex) (am_room d) (va_Pc [.int (Int32.ofInt i), .int (Int32.ofInt n), v] (am_Pre D dA ad M)) (am_Qc D dA ad (fun r M' => r = some i ∧ M' = M)) 0 0 (am_A ad) := by
  refine Met.ofW (cc := mJ3_checkIndex.2.1) (maxL := 3) (ret := some .int) (by decide) rfl ?_
  intro p e s m args below meth c s₁ B hml hv9
  obtain ⟨rfl, hP, hK, hC⟩ := hv9
  have hts := atoms_spec (ws := am_w mJ3_checkIndex) B.pre
  have hown : s.vm.findClass mJ3_checkIndex.1.cls = some m.cls := findClass_of_methodNamed B.named
  have hl := lv_entry [.int (Int32.ofInt i), .int (Int32.ofInt n), v] (n := 3) (by simp [lg_sl, hv, show ∀ z, (Value.int z).category = 1 from fun _ => rfl])
  rw [lg_entry_eq]
  generalize (lg_sl [.int (Int32.ofInt i), .int (Int32.ofInt n), v] ++ List.replicate (3 - (lg_sl [.int (Int32.ofInt i), .int (Int32.ofInt n), v]).length) Slot.unset).toArray = ls at hl ⊢
  have hb0 : AW d mJ3_checkIndex 0 [(0, .inl i), (1, .inl n)] [] M (fun r M' => r = some i ∧ M' = M) := by
    refine aw_iload_n dJ3_checkIndex_8e157_0 rfl (j := 0) rfl ?_
    refine aw_if_lt dJ3_checkIndex_8e157_1 (tgt := 9) rfl (by omega) (fun c => absurd c (by omega)) (fun c => ?_)
    refine aw_iload_n dJ3_checkIndex_8e157_4 rfl (j := 0) rfl ?_
    refine aw_iload_n dJ3_checkIndex_8e157_5 rfl (j := 1) rfl ?_
    refine aw_icmp_lt dJ3_checkIndex_8e157_6 (tgt := 16) rfl (by omega) (by omega) (fun c => ?_) (fun c => absurd c (by omega))
    refine aw_iload_n dJ3_checkIndex_8e157_16 rfl (j := 0) rfl ?_
    exact aw_iret dJ3_checkIndex_8e157_17 rfl ⟨rfl, rfl⟩
  exact hb0 p l e s m _ below meth c D dA ad s.heap [] ls ⟨B.exec, B.bytes, B.returns, hml, B.notSynchronized, hown, hts, hK, hinj, hC⟩ hP va_S.rf (lv_sub hl [0, 1] rfl)
theorem sc_check {d : Nat} {M : am_M} {Q : Option Int → am_M → Prop} {i n : Int} (hi : 0 ≤ i ∧ i < n ∧ n < 1000) (h : Q none M) : AC (d + 1) mJ0_checkIndex [.inl i, .inl n] M Q := by
  refine aw_body (by decide) (Nat.le_of_ble_eq_true rfl) rfl ?_
  refine aw_iload_n dJ0_checkIndex_df160_0 rfl (j := 0) rfl ?_
  refine aw_iload_n dJ0_checkIndex_df160_1 rfl (j := 1) rfl ?_
  intro p l e s m args below meth c D dA ad H locs ls C hP hS hl
  obtain ⟨hx, hb, hr, hml, hlk, hown, hts, hK, hinj, hC⟩ := id C
  have key : ∀ v : Value, v.category = 1 → va_Z "jdk/internal/util/Preconditions" "SIOOBE_FORMATTER" "Ljava/util/function/BiFunction;" v (am_A ad) s s.heap → W p l e (am_room (d + 1)) s m args below meth c H locs 0 0 (MQ below (am_Qc D dA ad Q) args s 0 0 (am_A ad)) (F0 m (0 + 1 + 1) ls [.int (Int32.ofInt n), .int (Int32.ofInt i)]) := by
    intro v hv hZ
    refine va_gets hx hb hZ hS hown (hts _ (am_mem am_w1053)) (fun _ h => h) dJ0_checkIndex_df160_2 ?_
    have hw := am_c1059
    unfold am_csB at hw
    simp only [Bool.and_eq_true, decide_eq_true_eq] at hw
    obtain ⟨hw, w6⟩ := hw
    obtain ⟨w1, w2, w3, w4, w5⟩ := am_cB_spec hw
    have hG : GoodIn (am_w mJ0_checkIndex) (va_wsS mJ0_checkIndex.1.cls 1059 mJ3_checkIndex.1 (am_w mJ3_checkIndex)) := by
      intro w hw
      rcases List.mem_append.mp hw with hw | hw
      · simp only [List.mem_cons, List.not_mem_nil, or_false] at hw
        rcases hw with rfl | rfl | rfl
        · exact ⟨am_mem w1, am_goodT w1⟩
        · exact ⟨am_mem w6, am_goodT w6⟩
        · exact ⟨am_mem w2, am_goodT w2⟩
      · exact am_good w3 w hw
    have hrun := va_runS (As := [.int (Int32.ofInt i), .int (Int32.ofInt n), v]) (rest := []) (g := F0 m 5 ls [v, .int (Int32.ofInt n), .int (Int32.ofInt i)]) (locs := locs) (cells := 0) (slots := 0) (below := below) (e := e) (meth := meth) (R := am_room (d + 1)) ⟨hx, hb, hml, hown, hts⟩ (sc_pci (l := l) (D := D) (dA := dA) hinj (d := d) (M := M) hv hi) (va_cwS (R := am_room (d + 1)) 3 hts hG rfl rfl rfl w4 ⟨Nat.le_refl _, by show 8 + (3 + 11) + 39 * d ≤ 39 * (d + 1); omega⟩)
      ⟨am_blind, am_pre_go (av := [.int (Int32.ofInt i), .int (Int32.ofInt n), v]) C hP hS⟩ rfl rfl hl.1 rfl (lv_room (by decide)) dJ0_checkIndex_df160_5 ⟨Nat.le_refl _, Nat.le_refl _⟩
    refine am_go hrun hS (fun r M' H1 locs1 hQ hP1 hS1 => ?_)
    obtain ⟨rfl, rfl⟩ := hQ
    have hz : AW (d + 1) mJ0_checkIndex 8 [(0, .inl i), (1, .inl n)] [.inl i] M' Q := aw_pop dJ0_checkIndex_df160_8 (aw_vret dJ0_checkIndex_df160_9 rfl h)
    exact hz p l e s m args below meth c D dA ad H1 locs1 ls C hP1 hS1 hl
  rcases hC.2.2.2.2.2.2 with hZ | ⟨t, hZ⟩
  · exact key .null rfl hZ
  · exact key (.ref t) rfl hZ
theorem sc_latinAt {d i : Nat} {M : am_M} {Q : Option Int → am_M → Prop} {j : Int} (hi : i < 4) (hj : 0 ≤ j ∧ j < 5) (h : Q (some (am_chr i j)) M) : AC (d + 2) mJ1_charAt [.inr (120 + i), .inl j] M Q := by
  have h9 := (am_chr_ok ⟨i, hi⟩ ⟨j.toNat, by omega⟩).2
  simp only [show ((j.toNat : Nat) : Int) = j by omega] at h9
  refine aw_body (by decide) (Nat.le_of_ble_eq_true rfl) rfl ?_
  refine aw_iload_n dJ1_charAt_3b067_0 rfl (j := 1) rfl ?_
  refine aw_aload_n dJ1_charAt_3b067_1 rfl (j := 0) rfl ?_
  refine aw_salen hi rfl dJ1_charAt_3b067_2 ?_
  refine aw_invs (d' := d + 1) (as := [.inl j, .inl 5]) (rest := []) dJ1_charAt_3b067_3 am_c9 (Nat.lt_succ_self _) rfl rfl (by decide) (sc_check ⟨hj.1, hj.2, by decide⟩ ?_)
  refine aw_aload_n dJ1_charAt_3b067_6 rfl (j := 0) rfl ?_
  refine aw_iload_n dJ1_charAt_3b067_7 rfl (j := 1) rfl ?_
  refine aw_sbald hi rfl hj dJ1_charAt_3b067_8 ?_
  refine aw_sipush dJ1_charAt_3b067_9 (by decide) ?_
  refine aw_iand255 dJ1_charAt_3b067_12 ⟨h9.1, h9.2.1⟩ ?_
  rw [show am_chr i j % 256 = am_chr i j by omega]
  refine aw_i2c dJ1_charAt_3b067_13 (by omega) ?_
  exact aw_nret dJ1_charAt_3b067_14 rfl (am_byte (by omega)).2.2.2 h
theorem sc_charAt {d i : Nat} {M : am_M} {Q : Option Int → am_M → Prop} {j : Int} (hi : i < 4) (hj : 0 ≤ j ∧ j < 5) (h : Q (some (am_chr i j)) M) : AC (d + 3) mJ0_charAt [.inr (110 + i), .inl j] M Q := by
  have h9 := (am_chr_ok ⟨i, hi⟩ ⟨j.toNat, by omega⟩).2
  simp only [show ((j.toNat : Nat) : Int) = j by omega] at h9
  refine aw_body (by decide) (Nat.le_of_ble_eq_true rfl) rfl ?_
  refine aw_aload_n dJ0_charAt_5068e_0 rfl (j := 0) rfl ?_
  refine aw_invvS (d' := d + 2) (as := []) (rest := []) dJ0_charAt_5068e_1 am_c492 (Nat.lt_succ_self _) hi rfl rfl rfl rfl (by decide) (sc_latin hi ?_)
  refine aw_if_eq dJ0_charAt_5068e_4 (tgt := 16) rfl (by decide) (fun c => absurd c (by decide)) (fun c => ?_)
  refine aw_aload_n dJ0_charAt_5068e_7 rfl (j := 0) rfl ?_
  refine aw_sval hi rfl dJ0_charAt_5068e_8 am_w9 ?_
  refine aw_iload_n dJ0_charAt_5068e_11 rfl (j := 1) rfl ?_
  refine aw_invs (d' := d + 2) (as := [.inr (120 + i), .inl j]) (rest := []) dJ0_charAt_5068e_12 am_c495 (Nat.lt_succ_self _) rfl rfl (by decide) (sc_latinAt hi hj ?_)
  exact aw_nret dJ0_charAt_5068e_15 rfl (am_byte (by omega)).2.2.2 h
end
section
/-! methods, and what the tables say of the links that they use -/
theorem am_tm (i : Nat) {w : Cond} (h : tables_1[i]? = some w) (hg : goodWord w = true) : w ∈ am_T := List.mem_filter.mpr ⟨List.mem_append_right _ (List.mem_of_getElem? h), hg⟩
theorem am_tp (i : Nat) {y : MethodName} {n : Nat} (h : lw_privs[i]? = some (y, n)) (hg : goodWord (Cond.selects y.cls y y) = true) : Cond.selects y.cls y y ∈ am_T := List.mem_filter.mpr ⟨List.mem_append_left _ (List.mem_map.mpr ⟨(y, n), List.mem_of_getElem? h, rfl⟩), hg⟩
theorem am_fl_of {own : String} {idx ci k : Nat} {q : vw_C} (hq : am_cl[ci]? = some q) (hk : k < q.2.2) (h : Cond.fieldLink own idx (q.2.1 k).1 (q.2.1 k).2.1 (q.2.1 k).2.2.1 ∈ am_T) : am_flB own idx ci k = true := by
  unfold am_flB
  rw [hq]
  simp [hk, h]
theorem am_pf_of {own : String} {idx ci k : Nat} {q : vw_C} (hq : am_cl[ci]? = some q) (hk : k < q.2.2) (h : Cond.fieldLink own idx (q.2.1 k).1 (q.2.1 k).2.1 (q.2.1 k).2.2.1 ∈ am_T) (h1 : (q.2.1 k).2.2.2 = false) (h2 : parseFieldDescriptor (q.2.1 k).2.2.1 = some .int) : am_pfB own idx ci k = true := by
  unfold am_pfB
  rw [am_fl_of hq hk h, hq]
  simp [h1, h2]
def am_yB (y : am_mm) (n : Nat) : Prop := Cond.initialized y.1.cls ∈ am_T ∧ Cond.code y.1 y.2.1 y.2.2.1 y.2.2.2 ∈ am_T ∧ (y.1.cls ≠ "java/lang/invoke/MethodHandle" ∧ y.1.cls ≠ "java/lang/invoke/VarHandle" ∧ (parseMethodDescriptor y.1.desc).map (fun d => d.parameters.length) = some n) ∧ y.2.2.1 ≤ 20
theorem am_cv_of {own : String} {idx n : Nat} {y : am_mm} (h : am_yB y n) (h1 : Cond.instanceMethod y.1 ∈ am_T) (h2 : Cond.selects y.1.cls y.1 y.1 ∈ am_T) (h3 : Cond.methodLink own idx y.1 ∈ am_T) : am_cvB own idx y n = true := by
  obtain ⟨a, b, c, e⟩ := h
  unfold am_cvB am_cB
  simp only [Bool.and_eq_true, decide_eq_true_eq]
  exact ⟨⟨⟨⟨⟨⟨h3, a⟩, b⟩, c⟩, e⟩, h1⟩, h2⟩
theorem am_cs_of {own : String} {idx n : Nat} {y : am_mm} (h : am_yB y n) (h1 : Cond.static y.1 ∈ am_T) (h3 : Cond.methodLink own idx y.1 ∈ am_T) : am_csB own idx y n = true := by
  obtain ⟨a, b, c, e⟩ := h
  unfold am_csB am_cB
  simp only [Bool.and_eq_true, decide_eq_true_eq]
  exact ⟨⟨⟨⟨⟨h3, a⟩, b⟩, c⟩, e⟩, h1⟩
abbrev mX0_init : am_mm := (yX0_init, cX0_init, 2, none)
abbrev mX0_remember : am_mm := (yX0_remember, cX0_remember, 2, none)
abbrev mX0_giveLatest : am_mm := (yX0_giveLatest, cX0_giveLatest, 2, none)
abbrev mX0_loseOldest : am_mm := (yX0_loseOldest, cX0_loseOldest, 3, none)
abbrev mX1_init : am_mm := (yX1_init, cX1_init, 1, none)
abbrev mX1_join : am_mm := (yX1_join, cX1_join, 4, some .int)
abbrev mX1_copyPitches : am_mm := (yX1_copyPitches, cX1_copyPitches, 4, some .int)
abbrev mX1_scoreAll : am_mm := (yX1_scoreAll, cX1_scoreAll, 4, none)
abbrev mX1_pairedScore : am_mm := (yX1_pairedScore, cX1_pairedScore, 4, some .int)
abbrev mX1_chooseMates : am_mm := (yX1_chooseMates, cX1_chooseMates, 5, some .int)
abbrev mX1_lowestMate : am_mm := (yX1_lowestMate, cX1_lowestMate, 4, some .int)
abbrev mX2_init : am_mm := (yX2_init, cX2_init, 1, none)
abbrev mX2_find : am_mm := (yX2_find, cX2_find, 4, none)
abbrev mX2_lookAt : am_mm := (yX2_lookAt, cX2_lookAt, 9, none)
abbrev mX3_init : am_mm := (yX3_init, cX3_init, 1, none)
abbrev mX3_makeFirst : am_mm := (yX3_makeFirst, cX3_makeFirst, 1, none)
abbrev mX3_makeEmpty : am_mm := (yX3_makeEmpty, cX3_makeEmpty, 1, none)
abbrev mX3_takeFrom : am_mm := (yX3_takeFrom, cX3_takeFrom, 2, none)
abbrev mX3_hasFrame : am_mm := (yX3_hasFrame, cX3_hasFrame, 2, some .boolean)
abbrev mX3_hasPlace : am_mm := (yX3_hasPlace, cX3_hasPlace, 3, some .boolean)
abbrev mX3_levelAt : am_mm := (yX3_levelAt, cX3_levelAt, 3, some .int)
abbrev mX3_putLevel : am_mm := (yX3_putLevel, cX3_putLevel, 4, none)
abbrev mX4_init : am_mm := (yX4_init, cX4_init, 1, none)
abbrev mX4_append : am_mm := (yX4_append, cX4_append, 3, none)
abbrev mX4_gather : am_mm := (yX4_gather, cX4_gather, 3, none)
abbrev mX4_fits : am_mm := (yX4_fits, cX4_fits, 4, some .boolean)
abbrev mX4_mostAlike : am_mm := (yX4_mostAlike, cX4_mostAlike, 6, some .int)
abbrev mX5_init : am_mm := (yX5_init, cX5_init, 1, none)
abbrev mX5_append : am_mm := (yX5_append, cX5_append, 2, none)
abbrev mX5_readAll : am_mm := (yX5_readAll, cX5_readAll, 4, some .int)
abbrev mX5_readItem : am_mm := (yX5_readItem, cX5_readItem, 3, some .boolean)
abbrev mX5_readFrame : am_mm := (yX5_readFrame, cX5_readFrame, 4, some .boolean)
abbrev mX5_readSetting : am_mm := (yX5_readSetting, cX5_readSetting, 5, some .boolean)
abbrev mX5_namedSetting : am_mm := (yX5_namedSetting, cX5_namedSetting, 1, some .int)
abbrev mX5_nextToken : am_mm := (yX5_nextToken, cX5_nextToken, 2, none)
abbrev mX5_kindAt : am_mm := (yX5_kindAt, cX5_kindAt, 3, some .int)
abbrev mX5_figureAt : am_mm := (yX5_figureAt, cX5_figureAt, 2, some .int)
abbrev mX5_isWord : am_mm := (yX5_isWord, cX5_isWord, 3, some .boolean)
abbrev mX6_init : am_mm := (yX6_init, cX6_init, 1, none)
abbrev mX6_follow : am_mm := (yX6_follow, cX6_follow, 7, none)
abbrev mX6_begin : am_mm := (yX6_begin, cX6_begin, 3, none)
abbrev mX6_addPeak : am_mm := (yX6_addPeak, cX6_addPeak, 5, none)
abbrev mX6_measure : am_mm := (yX6_measure, cX6_measure, 9, none)
abbrev mX6_kindBy : am_mm := (yX6_kindBy, cX6_kindBy, 3, some .int)
abbrev mX6_worthOf : am_mm := (yX6_worthOf, cX6_worthOf, 2, some .int)
abbrev mX6_pitchIn : am_mm := (yX6_pitchIn, cX6_pitchIn, 3, some .int)
abbrev mX6_bornIn : am_mm := (yX6_bornIn, cX6_bornIn, 4, some .int)
abbrev mX6_endingIn : am_mm := (yX6_endingIn, cX6_endingIn, 4, some .int)
abbrev mX6_longest : am_mm := (yX6_longest, cX6_longest, 4, some .int)
abbrev mX7_init : am_mm := (yX7_init, cX7_init, 2, none)
abbrev mX7_type : am_mm := (yX7_type, cX7_type, 2, some .int)
abbrev mX7_clear : am_mm := (yX7_clear, cX7_clear, 2, some .int)
abbrev mX7_tells : am_mm := (yX7_tells, cX7_tells, 2, some .int)
abbrev mX7_levels : am_mm := (yX7_levels, cX7_levels, 5, some .int)
abbrev mX7_sets : am_mm := (yX7_sets, cX7_sets, 4, some .int)
abbrev mX7_undo : am_mm := (yX7_undo, cX7_undo, 1, some .int)
abbrev mX7_level : am_mm := (yX7_level, cX7_level, 3, some .int)
abbrev mX7_peak : am_mm := (yX7_peak, cX7_peak, 5, some .int)
abbrev mX7_frame : am_mm := (yX7_frame, cX7_frame, 3, some .int)
abbrev mX7_track : am_mm := (yX7_track, cX7_track, 3, some .int)
abbrev mX7_pitch : am_mm := (yX7_pitch, cX7_pitch, 3, some .int)
abbrev mX7_best : am_mm := (yX7_best, cX7_best, 4, some .int)
abbrev mX7_sees : am_mm := (yX7_sees, cX7_sees, 4, some .int)
abbrev mX7_forget : am_mm := (yX7_forget, cX7_forget, 2, some .int)
abbrev mX7_which : am_mm := (yX7_which, cX7_which, 2, some .int)
abbrev mX7_listen : am_mm := (yX7_listen, cX7_listen, 5, some .int)
abbrev mX7_keep : am_mm := (yX7_keep, cX7_keep, 2, some .int)
abbrev mX7_back : am_mm := (yX7_back, cX7_back, 2, some .int)
abbrev mX7_count : am_mm := (yX7_count, cX7_count, 2, some .int)
abbrev mX7_followAnew : am_mm := (yX7_followAnew, cX7_followAnew, 1, none)
abbrev mX7_isKept : am_mm := (yX7_isKept, cX7_isKept, 2, some .boolean)
abbrev mX7_keptTracks : am_mm := (yX7_keptTracks, cX7_keptTracks, 3, some .int)
abbrev mX7_loudTogether : am_mm := (yX7_loudTogether, cX7_loudTogether, 6, some .int)
abbrev mX7_tracksByReach : am_mm := (yX7_tracksByReach, cX7_tracksByReach, 4, some .int)
abbrev mX8_init : am_mm := (yX8_init, cX8_init, 1, none)
abbrev mX8_plain : am_mm := (yX8_plain, cX8_plain, 2, none)
abbrev mX8_in : am_mm := (yX8_in, cX8_in, 3, some .boolean)
abbrev mX8_type : am_mm := (yX8_type, cX8_type, 2, some .int)
abbrev mX8_clear : am_mm := (yX8_clear, cX8_clear, 2, some .int)
abbrev mX8_at : am_mm := (yX8_at, cX8_at, 2, some .int)
abbrev mX8_isWord : am_mm := (yX8_isWord, cX8_isWord, 6, some .boolean)
abbrev mX8_wordOf : am_mm := (yX8_wordOf, cX8_wordOf, 1, some .int)
abbrev mX8_steps : am_mm := (yX8_steps, cX8_steps, 1, none)
abbrev mX8_takes : am_mm := (yX8_takes, cX8_takes, 2, none)
abbrev mX8_readsFrame : am_mm := (yX8_readsFrame, cX8_readsFrame, 4, none)
abbrev mX8_readsNumber : am_mm := (yX8_readsNumber, cX8_readsNumber, 6, none)
abbrev mX8_reads : am_mm := (yX8_reads, cX8_reads, 2, some .int)
abbrev mX8_tells : am_mm := (yX8_tells, cX8_tells, 3, some .int)
abbrev mX8_notes : am_mm := (yX8_notes, cX8_notes, 2, none)
abbrev mX8_becomes : am_mm := (yX8_becomes, cX8_becomes, 4, some .int)
abbrev mX8_isPlace : am_mm := (yX8_isPlace, cX8_isPlace, 3, some .boolean)
abbrev mX8_levels : am_mm := (yX8_levels, cX8_levels, 4, some .int)
abbrev mX8_sets : am_mm := (yX8_sets, cX8_sets, 4, some .int)
abbrev mX8_undo : am_mm := (yX8_undo, cX8_undo, 2, some .int)
abbrev mX8_levelAt : am_mm := (yX8_levelAt, cX8_levelAt, 3, some .int)
abbrev mX8_laysPeaks : am_mm := (yX8_laysPeaks, cX8_laysPeaks, 4, none)
abbrev mX8_pitchOf : am_mm := (yX8_pitchOf, cX8_pitchOf, 6, some .int)
abbrev mX8_loudOf : am_mm := (yX8_loudOf, cX8_loudOf, 3, some .int)
abbrev mX8_apart : am_mm := (yX8_apart, cX8_apart, 5, some .int)
abbrev mX8_worthOf : am_mm := (yX8_worthOf, cX8_worthOf, 3, some .int)
abbrev mX8_pairWorth : am_mm := (yX8_pairWorth, cX8_pairWorth, 6, some .int)
abbrev mX8_laysWorth : am_mm := (yX8_laysWorth, cX8_laysWorth, 6, none)
abbrev mX8_joins : am_mm := (yX8_joins, cX8_joins, 7, none)
abbrev mX8_laysTracks : am_mm := (yX8_laysTracks, cX8_laysTracks, 4, none)
abbrev mX8_follows : am_mm := (yX8_follows, cX8_follows, 5, none)
abbrev mX8_lays : am_mm := (yX8_lays, cX8_lays, 1, none)
abbrev mX8_peakOf : am_mm := (yX8_peakOf, cX8_peakOf, 5, some .int)
abbrev mX8_bornOf : am_mm := (yX8_bornOf, cX8_bornOf, 3, some .int)
abbrev mX8_longOf : am_mm := (yX8_longOf, cX8_longOf, 4, some .int)
abbrev mX8_depthOf : am_mm := (yX8_depthOf, cX8_depthOf, 7, some .int)
abbrev mX8_laysSteps : am_mm := (yX8_laysSteps, cX8_laysSteps, 8, none)
abbrev mX8_turnsOf : am_mm := (yX8_turnsOf, cX8_turnsOf, 2, some .int)
abbrev mX8_kindOf : am_mm := (yX8_kindOf, cX8_kindOf, 2, some .int)
abbrev mX8_worthOfTrack : am_mm := (yX8_worthOfTrack, cX8_worthOfTrack, 5, some .int)
abbrev mX8_level : am_mm := (yX8_level, cX8_level, 3, some .int)
abbrev mX8_peak : am_mm := (yX8_peak, cX8_peak, 4, some .int)
abbrev mX8_sumOf : am_mm := (yX8_sumOf, cX8_sumOf, 6, some .int)
abbrev mX8_bornIn : am_mm := (yX8_bornIn, cX8_bornIn, 6, some .int)
abbrev mX8_frame : am_mm := (yX8_frame, cX8_frame, 3, some .int)
abbrev mX8_track : am_mm := (yX8_track, cX8_track, 4, some .int)
abbrev mX8_pitchIn : am_mm := (yX8_pitchIn, cX8_pitchIn, 4, some .int)
abbrev mX8_pitch : am_mm := (yX8_pitch, cX8_pitch, 3, some .int)
abbrev mX8_best : am_mm := (yX8_best, cX8_best, 5, some .int)
abbrev mX8_sees : am_mm := (yX8_sees, cX8_sees, 3, some .int)
abbrev mX8_forget : am_mm := (yX8_forget, cX8_forget, 2, some .int)
abbrev mX8_isSo : am_mm := (yX8_isSo, cX8_isSo, 4, some .boolean)
abbrev mX8_which : am_mm := (yX8_which, cX8_which, 5, some .int)
abbrev mX8_mostAlike : am_mm := (yX8_mostAlike, cX8_mostAlike, 6, some .int)
abbrev mX8_listen : am_mm := (yX8_listen, cX8_listen, 6, some .int)
abbrev mX8_keep : am_mm := (yX8_keep, cX8_keep, 3, some .int)
abbrev mX8_back : am_mm := (yX8_back, cX8_back, 3, some .int)
abbrev mX8_tracksNow : am_mm := (yX8_tracksNow, cX8_tracksNow, 1, some .int)
abbrev mX8_keptMany : am_mm := (yX8_keptMany, cX8_keptMany, 3, some .int)
abbrev mX8_longest : am_mm := (yX8_longest, cX8_longest, 3, some .int)
abbrev mX8_count : am_mm := (yX8_count, cX8_count, 2, some .int)
abbrev mJ6_compare_7cf53 : am_mm := (yJ6_compare_7cf53, cJ6_compare_7cf53, 2, some .int)
abbrev mJ9_abs_0f7a4 : am_mm := (yJ9_abs_0f7a4, cJ9_abs_0f7a4, 1, some .int)
abbrev mJ9_max_7cf53 : am_mm := (yJ9_max_7cf53, cJ9_max_7cf53, 2, some .int)
abbrev mJ9_min_7cf53 : am_mm := (yJ9_min_7cf53, cJ9_min_7cf53, 2, some .int)
abbrev mJ7_fill_53178 : am_mm := (yJ7_fill_53178, cJ7_fill_53178, 4, none)
theorem fl_X0_18 : am_flB RX0 18 0 0 = true := am_fl_of rfl (Nat.le_of_ble_eq_true rfl) (am_tm 87 (by decide +kernel) rfl)
theorem yb_X0_loseOldest : am_yB mX0_loseOldest 0 := ⟨am_tm 4 (by decide +kernel) rfl, am_tm 490 (by decide +kernel) rfl, by decide +kernel, Nat.le_of_ble_eq_true rfl⟩
theorem yi_X0_loseOldest : Cond.instanceMethod mX0_loseOldest.1 ∈ am_T := am_tm 489 (by decide +kernel) rfl
theorem yl_X0_loseOldest : Cond.selects mX0_loseOldest.1.cls mX0_loseOldest.1 mX0_loseOldest.1 ∈ am_T := am_tp 17 (n := 2) (by decide +kernel) rfl
theorem cv_X0_22 : am_cvB RX0 22 mX0_loseOldest 0 = true := am_cv_of yb_X0_loseOldest yi_X0_loseOldest yl_X0_loseOldest (am_tm 487 (by decide +kernel) rfl)
theorem fl_X0_11 : am_flB RX0 11 0 1 = true := am_fl_of rfl (Nat.le_of_ble_eq_true rfl) (am_tm 89 (by decide +kernel) rfl)
theorem yb_X3_takeFrom : am_yB mX3_takeFrom 1 := ⟨am_tm 2 (by decide +kernel) rfl, am_tm 494 (by decide +kernel) rfl, by decide +kernel, Nat.le_of_ble_eq_true rfl⟩
theorem yi_X3_takeFrom : Cond.instanceMethod mX3_takeFrom.1 ∈ am_T := am_tm 492 (by decide +kernel) rfl
theorem yl_X3_takeFrom : Cond.selects mX3_takeFrom.1.cls mX3_takeFrom.1 mX3_takeFrom.1 ∈ am_T := am_tm 493 (by decide +kernel) rfl
theorem cv_X0_25 : am_cvB RX0 25 mX3_takeFrom 1 = true := am_cv_of yb_X3_takeFrom yi_X3_takeFrom yl_X3_takeFrom (am_tm 491 (by decide +kernel) rfl)
theorem pf_X0_18 : am_pfB RX0 18 0 0 = true := am_pf_of rfl (Nat.le_of_ble_eq_true rfl) (am_tm 87 (by decide +kernel) rfl) rfl (by decide +kernel)
theorem pf_X1_24 : am_pfB RX1 24 1 6 = true := am_pf_of rfl (Nat.le_of_ble_eq_true rfl) (am_tm 137 (by decide +kernel) rfl) rfl (by decide +kernel)
theorem fl_X1_15 : am_flB RX1 15 1 1 = true := am_fl_of rfl (Nat.le_of_ble_eq_true rfl) (am_tm 132 (by decide +kernel) rfl)
theorem yb_X1_copyPitches : am_yB mX1_copyPitches 3 := ⟨am_tm 6 (by decide +kernel) rfl, am_tm 281 (by decide +kernel) rfl, by decide +kernel, Nat.le_of_ble_eq_true rfl⟩
theorem ys_X1_copyPitches : Cond.static mX1_copyPitches.1 ∈ am_T := am_tm 280 (by decide +kernel) rfl
theorem cs_X1_28 : am_csB RX1 28 mX1_copyPitches 3 = true := am_cs_of yb_X1_copyPitches ys_X1_copyPitches (am_tm 279 (by decide +kernel) rfl)
theorem pf_X1_32 : am_pfB RX1 32 1 4 = true := am_pf_of rfl (Nat.le_of_ble_eq_true rfl) (am_tm 135 (by decide +kernel) rfl) rfl (by decide +kernel)
theorem fl_X1_18 : am_flB RX1 18 1 2 = true := am_fl_of rfl (Nat.le_of_ble_eq_true rfl) (am_tm 133 (by decide +kernel) rfl)
theorem pf_X1_35 : am_pfB RX1 35 1 5 = true := am_pf_of rfl (Nat.le_of_ble_eq_true rfl) (am_tm 136 (by decide +kernel) rfl) rfl (by decide +kernel)
theorem yb_X1_scoreAll : am_yB mX1_scoreAll 0 := ⟨am_tm 6 (by decide +kernel) rfl, am_tm 286 (by decide +kernel) rfl, by decide +kernel, Nat.le_of_ble_eq_true rfl⟩
theorem yi_X1_scoreAll : Cond.instanceMethod mX1_scoreAll.1 ∈ am_T := am_tm 285 (by decide +kernel) rfl
theorem yl_X1_scoreAll : Cond.selects mX1_scoreAll.1.cls mX1_scoreAll.1 mX1_scoreAll.1 ∈ am_T := am_tp 2 (n := 7) (by decide +kernel) rfl
theorem cv_X1_38 : am_cvB RX1 38 mX1_scoreAll 0 = true := am_cv_of yb_X1_scoreAll yi_X1_scoreAll yl_X1_scoreAll (am_tm 283 (by decide +kernel) rfl)
theorem yb_X1_chooseMates : am_yB mX1_chooseMates 0 := ⟨am_tm 6 (by decide +kernel) rfl, am_tm 301 (by decide +kernel) rfl, by decide +kernel, Nat.le_of_ble_eq_true rfl⟩
theorem yi_X1_chooseMates : Cond.instanceMethod mX1_chooseMates.1 ∈ am_T := am_tm 300 (by decide +kernel) rfl
theorem yl_X1_chooseMates : Cond.selects mX1_chooseMates.1.cls mX1_chooseMates.1 mX1_chooseMates.1 ∈ am_T := am_tp 4 (n := 7) (by decide +kernel) rfl
theorem cv_X1_41 : am_cvB RX1 41 mX1_chooseMates 0 = true := am_cv_of yb_X1_chooseMates yi_X1_chooseMates yl_X1_chooseMates (am_tm 298 (by decide +kernel) rfl)
theorem fl_X1_45 : am_flB RX1 45 2 0 = true := am_fl_of rfl (Nat.le_of_ble_eq_true rfl) (am_tm 103 (by decide +kernel) rfl)
theorem fl_X1_50 : am_flB RX1 50 2 2 = true := am_fl_of rfl (Nat.le_of_ble_eq_true rfl) (am_tm 108 (by decide +kernel) rfl)
theorem cp_X1_53 : am_cpB RX1 53 = true := by decide +kernel
theorem fl_X1_21 : am_flB RX1 21 1 3 = true := am_fl_of rfl (Nat.le_of_ble_eq_true rfl) (am_tm 134 (by decide +kernel) rfl)
theorem yb_J7_fill_53178 : am_yB mJ7_fill_53178 2 := ⟨am_tm 10 (by decide +kernel) rfl, am_tm 242 (by decide +kernel) rfl, by decide +kernel, Nat.le_of_ble_eq_true rfl⟩
theorem ys_J7_fill_53178 : Cond.static mJ7_fill_53178.1 ∈ am_T := am_tm 241 (by decide +kernel) rfl
theorem cs_X1_59 : am_csB RX1 59 mJ7_fill_53178 2 = true := am_cs_of yb_J7_fill_53178 ys_J7_fill_53178 (am_tm 287 (by decide +kernel) rfl)
theorem fl_X1_32 : am_flB RX1 32 1 4 = true := am_fl_of rfl (Nat.le_of_ble_eq_true rfl) (am_tm 135 (by decide +kernel) rfl)
theorem fl_X1_35 : am_flB RX1 35 1 5 = true := am_fl_of rfl (Nat.le_of_ble_eq_true rfl) (am_tm 136 (by decide +kernel) rfl)
theorem yb_J9_max_7cf53 : am_yB mJ9_max_7cf53 2 := ⟨am_tm 12 (by decide +kernel) rfl, am_tm 290 (by decide +kernel) rfl, by decide +kernel, Nat.le_of_ble_eq_true rfl⟩
theorem ys_J9_max_7cf53 : Cond.static mJ9_max_7cf53.1 ∈ am_T := am_tm 289 (by decide +kernel) rfl
theorem cs_X1_65 : am_csB RX1 65 mJ9_max_7cf53 2 = true := am_cs_of yb_J9_max_7cf53 ys_J9_max_7cf53 (am_tm 288 (by decide +kernel) rfl)
theorem yb_X1_pairedScore : am_yB mX1_pairedScore 2 := ⟨am_tm 6 (by decide +kernel) rfl, am_tm 294 (by decide +kernel) rfl, by decide +kernel, Nat.le_of_ble_eq_true rfl⟩
theorem yi_X1_pairedScore : Cond.instanceMethod mX1_pairedScore.1 ∈ am_T := am_tm 293 (by decide +kernel) rfl
theorem yl_X1_pairedScore : Cond.selects mX1_pairedScore.1.cls mX1_pairedScore.1 mX1_pairedScore.1 ∈ am_T := am_tp 3 (n := 7) (by decide +kernel) rfl
theorem cv_X1_71 : am_cvB RX1 71 mX1_pairedScore 2 = true := am_cv_of yb_X1_pairedScore yi_X1_pairedScore yl_X1_pairedScore (am_tm 291 (by decide +kernel) rfl)
theorem yb_J9_abs_0f7a4 : am_yB mJ9_abs_0f7a4 1 := ⟨am_tm 12 (by decide +kernel) rfl, am_tm 297 (by decide +kernel) rfl, by decide +kernel, Nat.le_of_ble_eq_true rfl⟩
theorem ys_J9_abs_0f7a4 : Cond.static mJ9_abs_0f7a4.1 ∈ am_T := am_tm 296 (by decide +kernel) rfl
theorem cs_X1_74 : am_csB RX1 74 mJ9_abs_0f7a4 1 = true := am_cs_of yb_J9_abs_0f7a4 ys_J9_abs_0f7a4 (am_tm 295 (by decide +kernel) rfl)
theorem fl_X1_24 : am_flB RX1 24 1 6 = true := am_fl_of rfl (Nat.le_of_ble_eq_true rfl) (am_tm 137 (by decide +kernel) rfl)
theorem fl_X1_9 : am_flB RX1 9 1 0 = true := am_fl_of rfl (Nat.le_of_ble_eq_true rfl) (am_tm 130 (by decide +kernel) rfl)
theorem yb_X1_lowestMate : am_yB mX1_lowestMate 2 := ⟨am_tm 6 (by decide +kernel) rfl, am_tm 305 (by decide +kernel) rfl, by decide +kernel, Nat.le_of_ble_eq_true rfl⟩
theorem yi_X1_lowestMate : Cond.instanceMethod mX1_lowestMate.1 ∈ am_T := am_tm 304 (by decide +kernel) rfl
theorem yl_X1_lowestMate : Cond.selects mX1_lowestMate.1.cls mX1_lowestMate.1 mX1_lowestMate.1 ∈ am_T := am_tp 5 (n := 7) (by decide +kernel) rfl
theorem cv_X1_78 : am_cvB RX1 78 mX1_lowestMate 2 = true := am_cv_of yb_X1_lowestMate yi_X1_lowestMate yl_X1_lowestMate (am_tm 302 (by decide +kernel) rfl)
theorem fl_X2_9 : am_flB RX2 9 2 0 = true := am_fl_of rfl (Nat.le_of_ble_eq_true rfl) (am_tm 101 (by decide +kernel) rfl)
theorem fl_X2_24 : am_flB RX2 24 3 1 = true := am_fl_of rfl (Nat.le_of_ble_eq_true rfl) (am_tm 36 (by decide +kernel) rfl)
theorem yb_X2_lookAt : am_yB mX2_lookAt 3 := ⟨am_tm 5 (by decide +kernel) rfl, am_tm 254 (by decide +kernel) rfl, by decide +kernel, Nat.le_of_ble_eq_true rfl⟩
theorem yi_X2_lookAt : Cond.instanceMethod mX2_lookAt.1 ∈ am_T := am_tm 253 (by decide +kernel) rfl
theorem yl_X2_lookAt : Cond.selects mX2_lookAt.1.cls mX2_lookAt.1 mX2_lookAt.1 ∈ am_T := am_tp 1 (n := 4) (by decide +kernel) rfl
theorem cv_X2_29 : am_cvB RX2 29 mX2_lookAt 3 = true := am_cv_of yb_X2_lookAt yi_X2_lookAt yl_X2_lookAt (am_tm 251 (by decide +kernel) rfl)
theorem yb_X3_levelAt : am_yB mX3_levelAt 2 := ⟨am_tm 2 (by decide +kernel) rfl, am_tm 258 (by decide +kernel) rfl, by decide +kernel, Nat.le_of_ble_eq_true rfl⟩
theorem yi_X3_levelAt : Cond.instanceMethod mX3_levelAt.1 ∈ am_T := am_tm 256 (by decide +kernel) rfl
theorem yl_X3_levelAt : Cond.selects mX3_levelAt.1.cls mX3_levelAt.1 mX3_levelAt.1 ∈ am_T := am_tm 257 (by decide +kernel) rfl
theorem cv_X2_33 : am_cvB RX2 33 mX3_levelAt 2 = true := am_cv_of yb_X3_levelAt yi_X3_levelAt yl_X3_levelAt (am_tm 255 (by decide +kernel) rfl)
theorem fl_X2_37 : am_flB RX2 37 3 2 = true := am_fl_of rfl (Nat.le_of_ble_eq_true rfl) (am_tm 40 (by decide +kernel) rfl)
theorem fl_X2_15 : am_flB RX2 15 2 1 = true := am_fl_of rfl (Nat.le_of_ble_eq_true rfl) (am_tm 105 (by decide +kernel) rfl)
theorem fl_X2_18 : am_flB RX2 18 2 2 = true := am_fl_of rfl (Nat.le_of_ble_eq_true rfl) (am_tm 107 (by decide +kernel) rfl)
theorem yb_J6_compare_7cf53 : am_yB mJ6_compare_7cf53 2 := ⟨am_tm 11 (by decide +kernel) rfl, am_tm 269 (by decide +kernel) rfl, by decide +kernel, Nat.le_of_ble_eq_true rfl⟩
theorem ys_J6_compare_7cf53 : Cond.static mJ6_compare_7cf53.1 ∈ am_T := am_tm 268 (by decide +kernel) rfl
theorem cs_X2_40 : am_csB RX2 40 mJ6_compare_7cf53 2 = true := am_cs_of yb_J6_compare_7cf53 ys_J6_compare_7cf53 (am_tm 267 (by decide +kernel) rfl)
theorem fl_X2_21 : am_flB RX2 21 2 3 = true := am_fl_of rfl (Nat.le_of_ble_eq_true rfl) (am_tm 111 (by decide +kernel) rfl)
theorem yb_X3_makeEmpty : am_yB mX3_makeEmpty 0 := ⟨am_tm 2 (by decide +kernel) rfl, am_tm 234 (by decide +kernel) rfl, by decide +kernel, Nat.le_of_ble_eq_true rfl⟩
theorem yi_X3_makeEmpty : Cond.instanceMethod mX3_makeEmpty.1 ∈ am_T := am_tm 232 (by decide +kernel) rfl
theorem yl_X3_makeEmpty : Cond.selects mX3_makeEmpty.1.cls mX3_makeEmpty.1 mX3_makeEmpty.1 ∈ am_T := am_tm 233 (by decide +kernel) rfl
theorem cv_X3_18 : am_cvB RX3 18 mX3_makeEmpty 0 = true := am_cv_of yb_X3_makeEmpty yi_X3_makeEmpty yl_X3_makeEmpty (am_tm 231 (by decide +kernel) rfl)
theorem pf_X3_21 : am_pfB RX3 21 3 0 = true := am_pf_of rfl (Nat.le_of_ble_eq_true rfl) (am_tm 32 (by decide +kernel) rfl) rfl (by decide +kernel)
theorem pf_X3_25 : am_pfB RX3 25 3 1 = true := am_pf_of rfl (Nat.le_of_ble_eq_true rfl) (am_tm 35 (by decide +kernel) rfl) rfl (by decide +kernel)
theorem fl_X3_9 : am_flB RX3 9 3 2 = true := am_fl_of rfl (Nat.le_of_ble_eq_true rfl) (am_tm 39 (by decide +kernel) rfl)
theorem cp_X3_31 : am_cpB RX3 31 = true := by decide +kernel
theorem fl_X3_15 : am_flB RX3 15 3 3 = true := am_fl_of rfl (Nat.le_of_ble_eq_true rfl) (am_tm 43 (by decide +kernel) rfl)
theorem cs_X3_37 : am_csB RX3 37 mJ7_fill_53178 2 = true := am_cs_of yb_J7_fill_53178 ys_J7_fill_53178 (am_tm 240 (by decide +kernel) rfl)
theorem fl_X3_21 : am_flB RX3 21 3 0 = true := am_fl_of rfl (Nat.le_of_ble_eq_true rfl) (am_tm 32 (by decide +kernel) rfl)
theorem fl_X3_25 : am_flB RX3 25 3 1 = true := am_fl_of rfl (Nat.le_of_ble_eq_true rfl) (am_tm 35 (by decide +kernel) rfl)
theorem yb_X3_hasFrame : am_yB mX3_hasFrame 1 := ⟨am_tm 2 (by decide +kernel) rfl, am_tm 266 (by decide +kernel) rfl, by decide +kernel, Nat.le_of_ble_eq_true rfl⟩
theorem yi_X3_hasFrame : Cond.instanceMethod mX3_hasFrame.1 ∈ am_T := am_tm 264 (by decide +kernel) rfl
theorem yl_X3_hasFrame : Cond.selects mX3_hasFrame.1.cls mX3_hasFrame.1 mX3_hasFrame.1 ∈ am_T := am_tm 265 (by decide +kernel) rfl
theorem cv_X3_43 : am_cvB RX3 43 mX3_hasFrame 1 = true := am_cv_of yb_X3_hasFrame yi_X3_hasFrame yl_X3_hasFrame (am_tm 263 (by decide +kernel) rfl)
theorem yb_X3_hasPlace : am_yB mX3_hasPlace 2 := ⟨am_tm 2 (by decide +kernel) rfl, am_tm 262 (by decide +kernel) rfl, by decide +kernel, Nat.le_of_ble_eq_true rfl⟩
theorem yi_X3_hasPlace : Cond.instanceMethod mX3_hasPlace.1 ∈ am_T := am_tm 260 (by decide +kernel) rfl
theorem yl_X3_hasPlace : Cond.selects mX3_hasPlace.1.cls mX3_hasPlace.1 mX3_hasPlace.1 ∈ am_T := am_tm 261 (by decide +kernel) rfl
theorem cv_X3_47 : am_cvB RX3 47 mX3_hasPlace 2 = true := am_cv_of yb_X3_hasPlace yi_X3_hasPlace yl_X3_hasPlace (am_tm 259 (by decide +kernel) rfl)
theorem fl_X4_24 : am_flB RX4 24 4 0 = true := am_fl_of rfl (Nat.le_of_ble_eq_true rfl) (am_tm 205 (by decide +kernel) rfl)
theorem fl_X4_9 : am_flB RX4 9 4 1 = true := am_fl_of rfl (Nat.le_of_ble_eq_true rfl) (am_tm 207 (by decide +kernel) rfl)
theorem fl_X4_15 : am_flB RX4 15 4 2 = true := am_fl_of rfl (Nat.le_of_ble_eq_true rfl) (am_tm 208 (by decide +kernel) rfl)
theorem pf_X4_24 : am_pfB RX4 24 4 0 = true := am_pf_of rfl (Nat.le_of_ble_eq_true rfl) (am_tm 205 (by decide +kernel) rfl) rfl (by decide +kernel)
theorem pf_X4_28 : am_pfB RX4 28 4 3 = true := am_pf_of rfl (Nat.le_of_ble_eq_true rfl) (am_tm 209 (by decide +kernel) rfl) rfl (by decide +kernel)
theorem fl_X4_31 : am_flB RX4 31 6 0 = true := am_fl_of rfl (Nat.le_of_ble_eq_true rfl) (am_tm 160 (by decide +kernel) rfl)
theorem yb_X4_fits : am_yB mX4_fits 2 := ⟨am_tm 8 (by decide +kernel) rfl, am_tm 592 (by decide +kernel) rfl, by decide +kernel, Nat.le_of_ble_eq_true rfl⟩
theorem yi_X4_fits : Cond.instanceMethod mX4_fits.1 ∈ am_T := am_tm 591 (by decide +kernel) rfl
theorem yl_X4_fits : Cond.selects mX4_fits.1.cls mX4_fits.1 mX4_fits.1 ∈ am_T := am_tp 21 (n := 6) (by decide +kernel) rfl
theorem cv_X4_34 : am_cvB RX4 34 mX4_fits 2 = true := am_cv_of yb_X4_fits yi_X4_fits yl_X4_fits (am_tm 589 (by decide +kernel) rfl)
theorem fl_X4_18 : am_flB RX4 18 4 4 = true := am_fl_of rfl (Nat.le_of_ble_eq_true rfl) (am_tm 211 (by decide +kernel) rfl)
theorem fl_X4_28 : am_flB RX4 28 4 3 = true := am_fl_of rfl (Nat.le_of_ble_eq_true rfl) (am_tm 209 (by decide +kernel) rfl)
theorem yb_X6_pitchIn : am_yB mX6_pitchIn 2 := ⟨am_tm 7 (by decide +kernel) rfl, am_tm 321 (by decide +kernel) rfl, by decide +kernel, Nat.le_of_ble_eq_true rfl⟩
theorem yi_X6_pitchIn : Cond.instanceMethod mX6_pitchIn.1 ∈ am_T := am_tm 319 (by decide +kernel) rfl
theorem yl_X6_pitchIn : Cond.selects mX6_pitchIn.1.cls mX6_pitchIn.1 mX6_pitchIn.1 ∈ am_T := am_tm 320 (by decide +kernel) rfl
theorem cv_X4_38 : am_cvB RX4 38 mX6_pitchIn 2 = true := am_cv_of yb_X6_pitchIn yi_X6_pitchIn yl_X6_pitchIn (am_tm 593 (by decide +kernel) rfl)
theorem fl_X4_21 : am_flB RX4 21 4 5 = true := am_fl_of rfl (Nat.le_of_ble_eq_true rfl) (am_tm 213 (by decide +kernel) rfl)
theorem cs_X4_42 : am_csB RX4 42 mJ7_fill_53178 2 = true := am_cs_of yb_J7_fill_53178 ys_J7_fill_53178 (am_tm 602 (by decide +kernel) rfl)
theorem cs_X4_48 : am_csB RX4 48 mJ9_max_7cf53 2 = true := am_cs_of yb_J9_max_7cf53 ys_J9_max_7cf53 (am_tm 603 (by decide +kernel) rfl)
theorem fl_X5_15 : am_flB RX5 15 5 0 = true := am_fl_of rfl (Nat.le_of_ble_eq_true rfl) (am_tm 60 (by decide +kernel) rfl)
theorem fl_X5_9 : am_flB RX5 9 5 1 = true := am_fl_of rfl (Nat.le_of_ble_eq_true rfl) (am_tm 62 (by decide +kernel) rfl)
theorem pf_X5_15 : am_pfB RX5 15 5 0 = true := am_pf_of rfl (Nat.le_of_ble_eq_true rfl) (am_tm 60 (by decide +kernel) rfl) rfl (by decide +kernel)
theorem cv_X5_19 : am_cvB RX5 19 mX3_makeEmpty 0 = true := am_cv_of yb_X3_makeEmpty yi_X3_makeEmpty yl_X3_makeEmpty (am_tm 387 (by decide +kernel) rfl)
theorem pf_X5_24 : am_pfB RX5 24 5 4 = true := am_pf_of rfl (Nat.le_of_ble_eq_true rfl) (am_tm 65 (by decide +kernel) rfl) rfl (by decide +kernel)
theorem yb_X5_nextToken : am_yB mX5_nextToken 0 := ⟨am_tm 3 (by decide +kernel) rfl, am_tm 391 (by decide +kernel) rfl, by decide +kernel, Nat.le_of_ble_eq_true rfl⟩
theorem yi_X5_nextToken : Cond.instanceMethod mX5_nextToken.1 ∈ am_T := am_tm 390 (by decide +kernel) rfl
theorem yl_X5_nextToken : Cond.selects mX5_nextToken.1.cls mX5_nextToken.1 mX5_nextToken.1 ∈ am_T := am_tp 9 (n := 5) (by decide +kernel) rfl
theorem cv_X5_27 : am_cvB RX5 27 mX5_nextToken 0 = true := am_cv_of yb_X5_nextToken yi_X5_nextToken yl_X5_nextToken (am_tm 388 (by decide +kernel) rfl)
theorem fl_X5_30 : am_flB RX5 30 5 2 = true := am_fl_of rfl (Nat.le_of_ble_eq_true rfl) (am_tm 63 (by decide +kernel) rfl)
theorem fl_X5_33 : am_flB RX5 33 3 0 = true := am_fl_of rfl (Nat.le_of_ble_eq_true rfl) (am_tm 33 (by decide +kernel) rfl)
theorem yb_X5_readItem : am_yB mX5_readItem 1 := ⟨am_tm 3 (by decide +kernel) rfl, am_tm 399 (by decide +kernel) rfl, by decide +kernel, Nat.le_of_ble_eq_true rfl⟩
theorem yi_X5_readItem : Cond.instanceMethod mX5_readItem.1 ∈ am_T := am_tm 398 (by decide +kernel) rfl
theorem yl_X5_readItem : Cond.selects mX5_readItem.1.cls mX5_readItem.1 mX5_readItem.1 ∈ am_T := am_tp 11 (n := 5) (by decide +kernel) rfl
theorem cv_X5_36 : am_cvB RX5 36 mX5_readItem 1 = true := am_cv_of yb_X5_readItem yi_X5_readItem yl_X5_readItem (am_tm 396 (by decide +kernel) rfl)
theorem fl_X5_40 : am_flB RX5 40 5 3 = true := am_fl_of rfl (Nat.le_of_ble_eq_true rfl) (am_tm 64 (by decide +kernel) rfl)
theorem yb_X5_isWord : am_yB mX5_isWord 1 := ⟨am_tm 3 (by decide +kernel) rfl, am_tm 404 (by decide +kernel) rfl, by decide +kernel, Nat.le_of_ble_eq_true rfl⟩
theorem yi_X5_isWord : Cond.instanceMethod mX5_isWord.1 ∈ am_T := am_tm 403 (by decide +kernel) rfl
theorem yl_X5_isWord : Cond.selects mX5_isWord.1.cls mX5_isWord.1 mX5_isWord.1 ∈ am_T := am_tp 12 (n := 5) (by decide +kernel) rfl
theorem cv_X5_45 : am_cvB RX5 45 mX5_isWord 1 = true := am_cv_of yb_X5_isWord yi_X5_isWord yl_X5_isWord (am_tm 401 (by decide +kernel) rfl)
theorem yb_X5_readFrame : am_yB mX5_readFrame 1 := ⟨am_tm 3 (by decide +kernel) rfl, am_tm 456 (by decide +kernel) rfl, by decide +kernel, Nat.le_of_ble_eq_true rfl⟩
theorem yi_X5_readFrame : Cond.instanceMethod mX5_readFrame.1 ∈ am_T := am_tm 455 (by decide +kernel) rfl
theorem yl_X5_readFrame : Cond.selects mX5_readFrame.1.cls mX5_readFrame.1 mX5_readFrame.1 ∈ am_T := am_tp 13 (n := 5) (by decide +kernel) rfl
theorem cv_X5_49 : am_cvB RX5 49 mX5_readFrame 1 = true := am_cv_of yb_X5_readFrame yi_X5_readFrame yl_X5_readFrame (am_tm 453 (by decide +kernel) rfl)
theorem yb_X5_namedSetting : am_yB mX5_namedSetting 0 := ⟨am_tm 3 (by decide +kernel) rfl, am_tm 468 (by decide +kernel) rfl, by decide +kernel, Nat.le_of_ble_eq_true rfl⟩
theorem yi_X5_namedSetting : Cond.instanceMethod mX5_namedSetting.1 ∈ am_T := am_tm 467 (by decide +kernel) rfl
theorem yl_X5_namedSetting : Cond.selects mX5_namedSetting.1.cls mX5_namedSetting.1 mX5_namedSetting.1 ∈ am_T := am_tp 15 (n := 5) (by decide +kernel) rfl
theorem cv_X5_52 : am_cvB RX5 52 mX5_namedSetting 0 = true := am_cv_of yb_X5_namedSetting yi_X5_namedSetting yl_X5_namedSetting (am_tm 465 (by decide +kernel) rfl)
theorem yb_X5_readSetting : am_yB mX5_readSetting 2 := ⟨am_tm 3 (by decide +kernel) rfl, am_tm 475 (by decide +kernel) rfl, by decide +kernel, Nat.le_of_ble_eq_true rfl⟩
theorem yi_X5_readSetting : Cond.instanceMethod mX5_readSetting.1 ∈ am_T := am_tm 474 (by decide +kernel) rfl
theorem yl_X5_readSetting : Cond.selects mX5_readSetting.1.cls mX5_readSetting.1 mX5_readSetting.1 ∈ am_T := am_tp 16 (n := 5) (by decide +kernel) rfl
theorem cv_X5_56 : am_cvB RX5 56 mX5_readSetting 2 = true := am_cv_of yb_X5_readSetting yi_X5_readSetting yl_X5_readSetting (am_tm 472 (by decide +kernel) rfl)
theorem fl_X5_24 : am_flB RX5 24 5 4 = true := am_fl_of rfl (Nat.le_of_ble_eq_true rfl) (am_tm 65 (by decide +kernel) rfl)
theorem fl_X5_60 : am_flB RX5 60 3 1 = true := am_fl_of rfl (Nat.le_of_ble_eq_true rfl) (am_tm 37 (by decide +kernel) rfl)
theorem pf_X5_60 : am_pfB RX5 60 3 1 = true := am_pf_of rfl (Nat.le_of_ble_eq_true rfl) (am_tm 37 (by decide +kernel) rfl) rfl (by decide +kernel)
theorem pf_X5_33 : am_pfB RX5 33 3 0 = true := am_pf_of rfl (Nat.le_of_ble_eq_true rfl) (am_tm 33 (by decide +kernel) rfl) rfl (by decide +kernel)
theorem yb_X5_figureAt : am_yB mX5_figureAt 1 := ⟨am_tm 3 (by decide +kernel) rfl, am_tm 460 (by decide +kernel) rfl, by decide +kernel, Nat.le_of_ble_eq_true rfl⟩
theorem yi_X5_figureAt : Cond.instanceMethod mX5_figureAt.1 ∈ am_T := am_tm 459 (by decide +kernel) rfl
theorem yl_X5_figureAt : Cond.selects mX5_figureAt.1.cls mX5_figureAt.1 mX5_figureAt.1 ∈ am_T := am_tp 14 (n := 5) (by decide +kernel) rfl
theorem cv_X5_63 : am_cvB RX5 63 mX5_figureAt 1 = true := am_cv_of yb_X5_figureAt yi_X5_figureAt yl_X5_figureAt (am_tm 457 (by decide +kernel) rfl)
theorem yb_X3_putLevel : am_yB mX3_putLevel 3 := ⟨am_tm 2 (by decide +kernel) rfl, am_tm 464 (by decide +kernel) rfl, by decide +kernel, Nat.le_of_ble_eq_true rfl⟩
theorem yi_X3_putLevel : Cond.instanceMethod mX3_putLevel.1 ∈ am_T := am_tm 462 (by decide +kernel) rfl
theorem yl_X3_putLevel : Cond.selects mX3_putLevel.1.cls mX3_putLevel.1 mX3_putLevel.1 ∈ am_T := am_tm 463 (by decide +kernel) rfl
theorem cv_X5_67 : am_cvB RX5 67 mX3_putLevel 3 = true := am_cv_of yb_X3_putLevel yi_X3_putLevel yl_X3_putLevel (am_tm 461 (by decide +kernel) rfl)
theorem fl_X5_75 : am_flB RX5 75 3 2 = true := am_fl_of rfl (Nat.le_of_ble_eq_true rfl) (am_tm 42 (by decide +kernel) rfl)
theorem pf_X5_40 : am_pfB RX5 40 5 3 = true := am_pf_of rfl (Nat.le_of_ble_eq_true rfl) (am_tm 64 (by decide +kernel) rfl) rfl (by decide +kernel)
theorem yb_X5_kindAt : am_yB mX5_kindAt 1 := ⟨am_tm 3 (by decide +kernel) rfl, am_tm 395 (by decide +kernel) rfl, by decide +kernel, Nat.le_of_ble_eq_true rfl⟩
theorem yi_X5_kindAt : Cond.instanceMethod mX5_kindAt.1 ∈ am_T := am_tm 394 (by decide +kernel) rfl
theorem yl_X5_kindAt : Cond.selects mX5_kindAt.1.cls mX5_kindAt.1 mX5_kindAt.1 ∈ am_T := am_tp 10 (n := 5) (by decide +kernel) rfl
theorem cv_X5_85 : am_cvB RX5 85 mX5_kindAt 1 = true := am_cv_of yb_X5_kindAt yi_X5_kindAt yl_X5_kindAt (am_tm 392 (by decide +kernel) rfl)
theorem pf_X5_30 : am_pfB RX5 30 5 2 = true := am_pf_of rfl (Nat.le_of_ble_eq_true rfl) (am_tm 63 (by decide +kernel) rfl) rfl (by decide +kernel)
theorem yb_J0_length : am_yB mJ0_length 0 := ⟨am_tm 14 (by decide +kernel) rfl, am_tm 408 (by decide +kernel) rfl, by decide +kernel, Nat.le_of_ble_eq_true rfl⟩
theorem yi_J0_length : Cond.instanceMethod mJ0_length.1 ∈ am_T := am_tm 406 (by decide +kernel) rfl
theorem yl_J0_length : Cond.selects mJ0_length.1.cls mJ0_length.1 mJ0_length.1 ∈ am_T := am_tm 407 (by decide +kernel) rfl
theorem cv_X5_88 : am_cvB RX5 88 mJ0_length 0 = true := am_cv_of yb_J0_length yi_J0_length yl_J0_length (am_tm 405 (by decide +kernel) rfl)
theorem yb_J0_charAt : am_yB mJ0_charAt 1 := ⟨am_tm 14 (by decide +kernel) rfl, am_tm 418 (by decide +kernel) rfl, by decide +kernel, Nat.le_of_ble_eq_true rfl⟩
theorem yi_J0_charAt : Cond.instanceMethod mJ0_charAt.1 ∈ am_T := am_tm 416 (by decide +kernel) rfl
theorem yl_J0_charAt : Cond.selects mJ0_charAt.1.cls mJ0_charAt.1 mJ0_charAt.1 ∈ am_T := am_tm 417 (by decide +kernel) rfl
theorem cv_X5_92 : am_cvB RX5 92 mJ0_charAt 1 = true := am_cv_of yb_J0_charAt yi_J0_charAt yl_J0_charAt (am_tm 415 (by decide +kernel) rfl)
theorem pf_X6_39 : am_pfB RX6 39 6 0 = true := am_pf_of rfl (Nat.le_of_ble_eq_true rfl) (am_tm 159 (by decide +kernel) rfl) rfl (by decide +kernel)
theorem fl_X6_30 : am_flB RX6 30 6 7 = true := am_fl_of rfl (Nat.le_of_ble_eq_true rfl) (am_tm 173 (by decide +kernel) rfl)
theorem cs_X6_43 : am_csB RX6 43 mJ7_fill_53178 2 = true := am_cs_of yb_J7_fill_53178 ys_J7_fill_53178 (am_tm 274 (by decide +kernel) rfl)
theorem fl_X6_33 : am_flB RX6 33 6 8 = true := am_fl_of rfl (Nat.le_of_ble_eq_true rfl) (am_tm 174 (by decide +kernel) rfl)
theorem yb_X1_join : am_yB mX1_join 3 := ⟨am_tm 6 (by decide +kernel) rfl, am_tm 278 (by decide +kernel) rfl, by decide +kernel, Nat.le_of_ble_eq_true rfl⟩
theorem yi_X1_join : Cond.instanceMethod mX1_join.1 ∈ am_T := am_tm 276 (by decide +kernel) rfl
theorem yl_X1_join : Cond.selects mX1_join.1.cls mX1_join.1 mX1_join.1 ∈ am_T := am_tm 277 (by decide +kernel) rfl
theorem cv_X6_49 : am_cvB RX6 49 mX1_join 3 = true := am_cv_of yb_X1_join yi_X1_join yl_X1_join (am_tm 275 (by decide +kernel) rfl)
theorem fl_X6_55 : am_flB RX6 55 2 0 = true := am_fl_of rfl (Nat.le_of_ble_eq_true rfl) (am_tm 102 (by decide +kernel) rfl)
theorem yb_X6_begin : am_yB mX6_begin 2 := ⟨am_tm 7 (by decide +kernel) rfl, am_tm 309 (by decide +kernel) rfl, by decide +kernel, Nat.le_of_ble_eq_true rfl⟩
theorem yi_X6_begin : Cond.instanceMethod mX6_begin.1 ∈ am_T := am_tm 308 (by decide +kernel) rfl
theorem yl_X6_begin : Cond.selects mX6_begin.1.cls mX6_begin.1 mX6_begin.1 ∈ am_T := am_tp 6 (n := 10) (by decide +kernel) rfl
theorem cv_X6_59 : am_cvB RX6 59 mX6_begin 2 = true := am_cv_of yb_X6_begin yi_X6_begin yl_X6_begin (am_tm 306 (by decide +kernel) rfl)
theorem fl_X6_36 : am_flB RX6 36 6 9 = true := am_fl_of rfl (Nat.le_of_ble_eq_true rfl) (am_tm 176 (by decide +kernel) rfl)
theorem fl_X6_63 : am_flB RX6 63 1 0 = true := am_fl_of rfl (Nat.le_of_ble_eq_true rfl) (am_tm 131 (by decide +kernel) rfl)
theorem yb_X6_addPeak : am_yB mX6_addPeak 3 := ⟨am_tm 7 (by decide +kernel) rfl, am_tm 313 (by decide +kernel) rfl, by decide +kernel, Nat.le_of_ble_eq_true rfl⟩
theorem yi_X6_addPeak : Cond.instanceMethod mX6_addPeak.1 ∈ am_T := am_tm 312 (by decide +kernel) rfl
theorem yl_X6_addPeak : Cond.selects mX6_addPeak.1.cls mX6_addPeak.1 mX6_addPeak.1 ∈ am_T := am_tp 7 (n := 10) (by decide +kernel) rfl
theorem cv_X6_66 : am_cvB RX6 66 mX6_addPeak 3 = true := am_cv_of yb_X6_addPeak yi_X6_addPeak yl_X6_addPeak (am_tm 310 (by decide +kernel) rfl)
theorem fl_X6_39 : am_flB RX6 39 6 0 = true := am_fl_of rfl (Nat.le_of_ble_eq_true rfl) (am_tm 159 (by decide +kernel) rfl)
theorem yb_X6_measure : am_yB mX6_measure 1 := ⟨am_tm 7 (by decide +kernel) rfl, am_tm 317 (by decide +kernel) rfl, by decide +kernel, Nat.le_of_ble_eq_true rfl⟩
theorem yi_X6_measure : Cond.instanceMethod mX6_measure.1 ∈ am_T := am_tm 316 (by decide +kernel) rfl
theorem yl_X6_measure : Cond.selects mX6_measure.1.cls mX6_measure.1 mX6_measure.1 ∈ am_T := am_tp 8 (n := 10) (by decide +kernel) rfl
theorem cv_X6_70 : am_cvB RX6 70 mX6_measure 1 = true := am_cv_of yb_X6_measure yi_X6_measure yl_X6_measure (am_tm 314 (by decide +kernel) rfl)
theorem fl_X6_9 : am_flB RX6 9 6 1 = true := am_fl_of rfl (Nat.le_of_ble_eq_true rfl) (am_tm 162 (by decide +kernel) rfl)
theorem fl_X6_15 : am_flB RX6 15 6 2 = true := am_fl_of rfl (Nat.le_of_ble_eq_true rfl) (am_tm 164 (by decide +kernel) rfl)
theorem fl_X6_27 : am_flB RX6 27 6 6 = true := am_fl_of rfl (Nat.le_of_ble_eq_true rfl) (am_tm 172 (by decide +kernel) rfl)
theorem fl_X6_74 : am_flB RX6 74 2 3 = true := am_fl_of rfl (Nat.le_of_ble_eq_true rfl) (am_tm 112 (by decide +kernel) rfl)
theorem fl_X6_75 : am_flB RX6 75 2 2 = true := am_fl_of rfl (Nat.le_of_ble_eq_true rfl) (am_tm 109 (by decide +kernel) rfl)
theorem cv_X6_76 : am_cvB RX6 76 mX6_pitchIn 2 = true := am_cv_of yb_X6_pitchIn yi_X6_pitchIn yl_X6_pitchIn (am_tm 318 (by decide +kernel) rfl)
theorem fl_X6_21 : am_flB RX6 21 6 4 = true := am_fl_of rfl (Nat.le_of_ble_eq_true rfl) (am_tm 168 (by decide +kernel) rfl)
theorem cs_X6_80 : am_csB RX6 80 mJ6_compare_7cf53 2 = true := am_cs_of yb_J6_compare_7cf53 ys_J6_compare_7cf53 (am_tm 322 (by decide +kernel) rfl)
theorem yb_J9_min_7cf53 : am_yB mJ9_min_7cf53 2 := ⟨am_tm 12 (by decide +kernel) rfl, am_tm 325 (by decide +kernel) rfl, by decide +kernel, Nat.le_of_ble_eq_true rfl⟩
theorem ys_J9_min_7cf53 : Cond.static mJ9_min_7cf53.1 ∈ am_T := am_tm 324 (by decide +kernel) rfl
theorem cs_X6_85 : am_csB RX6 85 mJ9_min_7cf53 2 = true := am_cs_of yb_J9_min_7cf53 ys_J9_min_7cf53 (am_tm 323 (by decide +kernel) rfl)
theorem cs_X6_90 : am_csB RX6 90 mJ9_max_7cf53 2 = true := am_cs_of yb_J9_max_7cf53 ys_J9_max_7cf53 (am_tm 326 (by decide +kernel) rfl)
theorem fl_X6_18 : am_flB RX6 18 6 3 = true := am_fl_of rfl (Nat.le_of_ble_eq_true rfl) (am_tm 166 (by decide +kernel) rfl)
theorem fl_X6_24 : am_flB RX6 24 6 5 = true := am_fl_of rfl (Nat.le_of_ble_eq_true rfl) (am_tm 170 (by decide +kernel) rfl)
theorem yb_X6_kindBy : am_yB mX6_kindBy 3 := ⟨am_tm 7 (by decide +kernel) rfl, am_tm 329 (by decide +kernel) rfl, by decide +kernel, Nat.le_of_ble_eq_true rfl⟩
theorem ys_X6_kindBy : Cond.static mX6_kindBy.1 ∈ am_T := am_tm 328 (by decide +kernel) rfl
theorem cs_X6_93 : am_csB RX6 93 mX6_kindBy 3 = true := am_cs_of yb_X6_kindBy ys_X6_kindBy (am_tm 327 (by decide +kernel) rfl)
theorem fl_X7_22 : am_flB RX7 22 7 2 = true := am_fl_of rfl (Nat.le_of_ble_eq_true rfl) (am_tm 332 (by decide +kernel) rfl)
theorem fl_X7_79 : am_flB RX7 79 5 0 = true := am_fl_of rfl (Nat.le_of_ble_eq_true rfl) (am_tm 61 (by decide +kernel) rfl)
theorem yb_X5_append : am_yB mX5_append 1 := ⟨am_tm 3 (by decide +kernel) rfl, am_tm 374 (by decide +kernel) rfl, by decide +kernel, Nat.le_of_ble_eq_true rfl⟩
theorem yi_X5_append : Cond.instanceMethod mX5_append.1 ∈ am_T := am_tm 372 (by decide +kernel) rfl
theorem yl_X5_append : Cond.selects mX5_append.1.cls mX5_append.1 mX5_append.1 ∈ am_T := am_tm 373 (by decide +kernel) rfl
theorem cv_X7_82 : am_cvB RX7 82 mX5_append 1 = true := am_cv_of yb_X5_append yi_X5_append yl_X5_append (am_tm 371 (by decide +kernel) rfl)
theorem pf_X7_79 : am_pfB RX7 79 5 0 = true := am_pf_of rfl (Nat.le_of_ble_eq_true rfl) (am_tm 61 (by decide +kernel) rfl) rfl (by decide +kernel)
theorem fl_X7_16 : am_flB RX7 16 7 1 = true := am_fl_of rfl (Nat.le_of_ble_eq_true rfl) (am_tm 331 (by decide +kernel) rfl)
theorem yb_X5_readAll : am_yB mX5_readAll 1 := ⟨am_tm 3 (by decide +kernel) rfl, am_tm 386 (by decide +kernel) rfl, by decide +kernel, Nat.le_of_ble_eq_true rfl⟩
theorem yi_X5_readAll : Cond.instanceMethod mX5_readAll.1 ∈ am_T := am_tm 384 (by decide +kernel) rfl
theorem yl_X5_readAll : Cond.selects mX5_readAll.1.cls mX5_readAll.1 mX5_readAll.1 ∈ am_T := am_tm 385 (by decide +kernel) rfl
theorem cv_X7_86 : am_cvB RX7 86 mX5_readAll 1 = true := am_cv_of yb_X5_readAll yi_X5_readAll yl_X5_readAll (am_tm 383 (by decide +kernel) rfl)
theorem fl_X7_29 : am_flB RX7 29 7 3 = true := am_fl_of rfl (Nat.le_of_ble_eq_true rfl) (am_tm 333 (by decide +kernel) rfl)
theorem fl_X7_10 : am_flB RX7 10 7 0 = true := am_fl_of rfl (Nat.le_of_ble_eq_true rfl) (am_tm 330 (by decide +kernel) rfl)
theorem yb_X0_remember : am_yB mX0_remember 1 := ⟨am_tm 4 (by decide +kernel) rfl, am_tm 486 (by decide +kernel) rfl, by decide +kernel, Nat.le_of_ble_eq_true rfl⟩
theorem yi_X0_remember : Cond.instanceMethod mX0_remember.1 ∈ am_T := am_tm 484 (by decide +kernel) rfl
theorem yl_X0_remember : Cond.selects mX0_remember.1.cls mX0_remember.1 mX0_remember.1 ∈ am_T := am_tm 485 (by decide +kernel) rfl
theorem cv_X7_90 : am_cvB RX7 90 mX0_remember 1 = true := am_cv_of yb_X0_remember yi_X0_remember yl_X0_remember (am_tm 483 (by decide +kernel) rfl)
theorem cv_X7_94 : am_cvB RX7 94 mX3_takeFrom 1 = true := am_cv_of yb_X3_takeFrom yi_X3_takeFrom yl_X3_takeFrom (am_tm 495 (by decide +kernel) rfl)
theorem yb_X7_followAnew : am_yB mX7_followAnew 0 := ⟨am_tm 1 (by decide +kernel) rfl, am_tm 246 (by decide +kernel) rfl, by decide +kernel, Nat.le_of_ble_eq_true rfl⟩
theorem yi_X7_followAnew : Cond.instanceMethod mX7_followAnew.1 ∈ am_T := am_tm 245 (by decide +kernel) rfl
theorem yl_X7_followAnew : Cond.selects mX7_followAnew.1.cls mX7_followAnew.1 mX7_followAnew.1 ∈ am_T := am_tp 0 (n := 12) (by decide +kernel) rfl
theorem cv_X7_76 : am_cvB RX7 76 mX7_followAnew 0 = true := am_cv_of yb_X7_followAnew yi_X7_followAnew yl_X7_followAnew (am_tm 243 (by decide +kernel) rfl)
theorem cv_X7_97 : am_cvB RX7 97 mX3_hasPlace 2 = true := am_cv_of yb_X3_hasPlace yi_X3_hasPlace yl_X3_hasPlace (am_tm 501 (by decide +kernel) rfl)
theorem cv_X7_101 : am_cvB RX7 101 mX3_levelAt 2 = true := am_cv_of yb_X3_levelAt yi_X3_levelAt yl_X3_levelAt (am_tm 502 (by decide +kernel) rfl)
theorem cv_X7_105 : am_cvB RX7 105 mX3_putLevel 3 = true := am_cv_of yb_X3_putLevel yi_X3_putLevel yl_X3_putLevel (am_tm 503 (by decide +kernel) rfl)
theorem yb_X7_isSetting : am_yB mX7_isSetting 2 := ⟨am_tm 1 (by decide +kernel) rfl, am_tm 478 (by decide +kernel) rfl, by decide +kernel, Nat.le_of_ble_eq_true rfl⟩
theorem ys_X7_isSetting : Cond.static mX7_isSetting.1 ∈ am_T := am_tm 477 (by decide +kernel) rfl
theorem cs_X7_109 : am_csB RX7 109 mX7_isSetting 2 = true := am_cs_of yb_X7_isSetting ys_X7_isSetting (am_tm 508 (by decide +kernel) rfl)
theorem fl_X7_112 : am_flB RX7 112 3 2 = true := am_fl_of rfl (Nat.le_of_ble_eq_true rfl) (am_tm 41 (by decide +kernel) rfl)
theorem fl_X7_116 : am_flB RX7 116 0 0 = true := am_fl_of rfl (Nat.le_of_ble_eq_true rfl) (am_tm 88 (by decide +kernel) rfl)
theorem yb_X0_giveLatest : am_yB mX0_giveLatest 1 := ⟨am_tm 4 (by decide +kernel) rfl, am_tm 516 (by decide +kernel) rfl, by decide +kernel, Nat.le_of_ble_eq_true rfl⟩
theorem yi_X0_giveLatest : Cond.instanceMethod mX0_giveLatest.1 ∈ am_T := am_tm 514 (by decide +kernel) rfl
theorem yl_X0_giveLatest : Cond.selects mX0_giveLatest.1.cls mX0_giveLatest.1 mX0_giveLatest.1 ∈ am_T := am_tm 515 (by decide +kernel) rfl
theorem cv_X7_119 : am_cvB RX7 119 mX0_giveLatest 1 = true := am_cv_of yb_X0_giveLatest yi_X0_giveLatest yl_X0_giveLatest (am_tm 513 (by decide +kernel) rfl)
theorem cv_X7_122 : am_cvB RX7 122 mX3_hasFrame 1 = true := am_cv_of yb_X3_hasFrame yi_X3_hasFrame yl_X3_hasFrame (am_tm 525 (by decide +kernel) rfl)
theorem lc_X7_126 : Cond.constant RX7 126 (Int32.ofInt (-1000000)) ∈ am_T := by decide +kernel
theorem fl_X7_44 : am_flB RX7 44 7 6 = true := am_fl_of rfl (Nat.le_of_ble_eq_true rfl) (am_tm 336 (by decide +kernel) rfl)
theorem fl_X7_127 : am_flB RX7 127 2 0 = true := am_fl_of rfl (Nat.le_of_ble_eq_true rfl) (am_tm 104 (by decide +kernel) rfl)
theorem fl_X7_130 : am_flB RX7 130 2 1 = true := am_fl_of rfl (Nat.le_of_ble_eq_true rfl) (am_tm 106 (by decide +kernel) rfl)
theorem fl_X7_133 : am_flB RX7 133 2 2 = true := am_fl_of rfl (Nat.le_of_ble_eq_true rfl) (am_tm 110 (by decide +kernel) rfl)
theorem fl_X7_136 : am_flB RX7 136 2 3 = true := am_fl_of rfl (Nat.le_of_ble_eq_true rfl) (am_tm 113 (by decide +kernel) rfl)
theorem fl_X7_58 : am_flB RX7 58 7 8 = true := am_fl_of rfl (Nat.le_of_ble_eq_true rfl) (am_tm 338 (by decide +kernel) rfl)
theorem fl_X7_139 : am_flB RX7 139 6 8 = true := am_fl_of rfl (Nat.le_of_ble_eq_true rfl) (am_tm 175 (by decide +kernel) rfl)
theorem fl_X7_142 : am_flB RX7 142 6 9 = true := am_fl_of rfl (Nat.le_of_ble_eq_true rfl) (am_tm 177 (by decide +kernel) rfl)
theorem yb_X7_loudTogether : am_yB mX7_loudTogether 2 := ⟨am_tm 1 (by decide +kernel) rfl, am_tm 534 (by decide +kernel) rfl, by decide +kernel, Nat.le_of_ble_eq_true rfl⟩
theorem yi_X7_loudTogether : Cond.instanceMethod mX7_loudTogether.1 ∈ am_T := am_tm 533 (by decide +kernel) rfl
theorem yl_X7_loudTogether : Cond.selects mX7_loudTogether.1.cls mX7_loudTogether.1 mX7_loudTogether.1 ∈ am_T := am_tp 18 (n := 12) (by decide +kernel) rfl
theorem cv_X7_145 : am_cvB RX7 145 mX7_loudTogether 2 = true := am_cv_of yb_X7_loudTogether yi_X7_loudTogether yl_X7_loudTogether (am_tm 531 (by decide +kernel) rfl)
theorem yb_X6_bornIn : am_yB mX6_bornIn 1 := ⟨am_tm 7 (by decide +kernel) rfl, am_tm 542 (by decide +kernel) rfl, by decide +kernel, Nat.le_of_ble_eq_true rfl⟩
theorem yi_X6_bornIn : Cond.instanceMethod mX6_bornIn.1 ∈ am_T := am_tm 540 (by decide +kernel) rfl
theorem yl_X6_bornIn : Cond.selects mX6_bornIn.1.cls mX6_bornIn.1 mX6_bornIn.1 ∈ am_T := am_tm 541 (by decide +kernel) rfl
theorem cv_X7_149 : am_cvB RX7 149 mX6_bornIn 1 = true := am_cv_of yb_X6_bornIn yi_X6_bornIn yl_X6_bornIn (am_tm 539 (by decide +kernel) rfl)
theorem yb_X6_endingIn : am_yB mX6_endingIn 1 := ⟨am_tm 7 (by decide +kernel) rfl, am_tm 546 (by decide +kernel) rfl, by decide +kernel, Nat.le_of_ble_eq_true rfl⟩
theorem yi_X6_endingIn : Cond.instanceMethod mX6_endingIn.1 ∈ am_T := am_tm 544 (by decide +kernel) rfl
theorem yl_X6_endingIn : Cond.selects mX6_endingIn.1.cls mX6_endingIn.1 mX6_endingIn.1 ∈ am_T := am_tm 545 (by decide +kernel) rfl
theorem cv_X7_153 : am_cvB RX7 153 mX6_endingIn 1 = true := am_cv_of yb_X6_endingIn yi_X6_endingIn yl_X6_endingIn (am_tm 543 (by decide +kernel) rfl)
theorem fl_X7_156 : am_flB RX7 156 6 0 = true := am_fl_of rfl (Nat.le_of_ble_eq_true rfl) (am_tm 161 (by decide +kernel) rfl)
theorem fl_X7_158 : am_flB RX7 158 6 1 = true := am_fl_of rfl (Nat.le_of_ble_eq_true rfl) (am_tm 163 (by decide +kernel) rfl)
theorem fl_X7_161 : am_flB RX7 161 6 2 = true := am_fl_of rfl (Nat.le_of_ble_eq_true rfl) (am_tm 165 (by decide +kernel) rfl)
theorem yb_X7_isKept : am_yB mX7_isKept 1 := ⟨am_tm 1 (by decide +kernel) rfl, am_tm 538 (by decide +kernel) rfl, by decide +kernel, Nat.le_of_ble_eq_true rfl⟩
theorem yi_X7_isKept : Cond.instanceMethod mX7_isKept.1 ∈ am_T := am_tm 537 (by decide +kernel) rfl
theorem yl_X7_isKept : Cond.selects mX7_isKept.1.cls mX7_isKept.1 mX7_isKept.1 ∈ am_T := am_tp 19 (n := 12) (by decide +kernel) rfl
theorem cv_X7_164 : am_cvB RX7 164 mX7_isKept 1 = true := am_cv_of yb_X7_isKept yi_X7_isKept yl_X7_isKept (am_tm 535 (by decide +kernel) rfl)
theorem fl_X7_167 : am_flB RX7 167 6 3 = true := am_fl_of rfl (Nat.le_of_ble_eq_true rfl) (am_tm 167 (by decide +kernel) rfl)
theorem fl_X7_170 : am_flB RX7 170 6 4 = true := am_fl_of rfl (Nat.le_of_ble_eq_true rfl) (am_tm 169 (by decide +kernel) rfl)
theorem fl_X7_173 : am_flB RX7 173 6 5 = true := am_fl_of rfl (Nat.le_of_ble_eq_true rfl) (am_tm 171 (by decide +kernel) rfl)
theorem yb_X6_worthOf : am_yB mX6_worthOf 1 := ⟨am_tm 7 (by decide +kernel) rfl, am_tm 554 (by decide +kernel) rfl, by decide +kernel, Nat.le_of_ble_eq_true rfl⟩
theorem yi_X6_worthOf : Cond.instanceMethod mX6_worthOf.1 ∈ am_T := am_tm 552 (by decide +kernel) rfl
theorem yl_X6_worthOf : Cond.selects mX6_worthOf.1.cls mX6_worthOf.1 mX6_worthOf.1 ∈ am_T := am_tm 553 (by decide +kernel) rfl
theorem cv_X7_176 : am_cvB RX7 176 mX6_worthOf 1 = true := am_cv_of yb_X6_worthOf yi_X6_worthOf yl_X6_worthOf (am_tm 551 (by decide +kernel) rfl)
theorem cv_X7_179 : am_cvB RX7 179 mX6_pitchIn 2 = true := am_cv_of yb_X6_pitchIn yi_X6_pitchIn yl_X6_pitchIn (am_tm 555 (by decide +kernel) rfl)
theorem fl_X7_69 : am_flB RX7 69 7 10 = true := am_fl_of rfl (Nat.le_of_ble_eq_true rfl) (am_tm 340 (by decide +kernel) rfl)
theorem pf_X7_182 : am_pfB RX7 182 7 11 = true := am_pf_of rfl (Nat.le_of_ble_eq_true rfl) (am_tm 341 (by decide +kernel) rfl) rfl (by decide +kernel)
theorem gs_X7_185 : Cond.fieldLink RX7 185 "FollowedPeaks" "SETTING_LOWEST" "[I" ∈ am_T := am_tm 479 (by decide +kernel) rfl
theorem gs_X7_188 : Cond.fieldLink RX7 188 "FollowedPeaks" "SETTING_HIGHEST" "[I" ∈ am_T := am_tm 481 (by decide +kernel) rfl
theorem yb_X7_tracksByReach : am_yB mX7_tracksByReach 1 := ⟨am_tm 1 (by decide +kernel) rfl, am_tm 567 (by decide +kernel) rfl, by decide +kernel, Nat.le_of_ble_eq_true rfl⟩
theorem yi_X7_tracksByReach : Cond.instanceMethod mX7_tracksByReach.1 ∈ am_T := am_tm 566 (by decide +kernel) rfl
theorem yl_X7_tracksByReach : Cond.selects mX7_tracksByReach.1.cls mX7_tracksByReach.1 mX7_tracksByReach.1 ∈ am_T := am_tp 20 (n := 12) (by decide +kernel) rfl
theorem cv_X7_191 : am_cvB RX7 191 mX7_tracksByReach 1 = true := am_cv_of yb_X7_tracksByReach yi_X7_tracksByReach yl_X7_tracksByReach (am_tm 564 (by decide +kernel) rfl)
theorem fl_X7_182 : am_flB RX7 182 7 11 = true := am_fl_of rfl (Nat.le_of_ble_eq_true rfl) (am_tm 341 (by decide +kernel) rfl)
theorem pf_X7_69 : am_pfB RX7 69 7 10 = true := am_pf_of rfl (Nat.le_of_ble_eq_true rfl) (am_tm 340 (by decide +kernel) rfl) rfl (by decide +kernel)
theorem fl_X7_65 : am_flB RX7 65 7 9 = true := am_fl_of rfl (Nat.le_of_ble_eq_true rfl) (am_tm 339 (by decide +kernel) rfl)
theorem fl_X7_194 : am_flB RX7 194 4 0 = true := am_fl_of rfl (Nat.le_of_ble_eq_true rfl) (am_tm 206 (by decide +kernel) rfl)
theorem yb_X4_append : am_yB mX4_append 2 := ⟨am_tm 8 (by decide +kernel) rfl, am_tm 576 (by decide +kernel) rfl, by decide +kernel, Nat.le_of_ble_eq_true rfl⟩
theorem yi_X4_append : Cond.instanceMethod mX4_append.1 ∈ am_T := am_tm 574 (by decide +kernel) rfl
theorem yl_X4_append : Cond.selects mX4_append.1.cls mX4_append.1 mX4_append.1 ∈ am_T := am_tm 575 (by decide +kernel) rfl
theorem cv_X7_195 : am_cvB RX7 195 mX4_append 2 = true := am_cv_of yb_X4_append yi_X4_append yl_X4_append (am_tm 573 (by decide +kernel) rfl)
theorem pf_X7_194 : am_pfB RX7 194 4 0 = true := am_pf_of rfl (Nat.le_of_ble_eq_true rfl) (am_tm 206 (by decide +kernel) rfl) rfl (by decide +kernel)
theorem yb_X4_gather : am_yB mX4_gather 1 := ⟨am_tm 8 (by decide +kernel) rfl, am_tm 588 (by decide +kernel) rfl, by decide +kernel, Nat.le_of_ble_eq_true rfl⟩
theorem yi_X4_gather : Cond.instanceMethod mX4_gather.1 ∈ am_T := am_tm 586 (by decide +kernel) rfl
theorem yl_X4_gather : Cond.selects mX4_gather.1.cls mX4_gather.1 mX4_gather.1 ∈ am_T := am_tm 587 (by decide +kernel) rfl
theorem cv_X7_198 : am_cvB RX7 198 mX4_gather 1 = true := am_cv_of yb_X4_gather yi_X4_gather yl_X4_gather (am_tm 585 (by decide +kernel) rfl)
theorem fl_X7_202 : am_flB RX7 202 4 3 = true := am_fl_of rfl (Nat.le_of_ble_eq_true rfl) (am_tm 210 (by decide +kernel) rfl)
theorem fl_X7_205 : am_flB RX7 205 4 4 = true := am_fl_of rfl (Nat.le_of_ble_eq_true rfl) (am_tm 212 (by decide +kernel) rfl)
theorem yb_X4_mostAlike : am_yB mX4_mostAlike 2 := ⟨am_tm 8 (by decide +kernel) rfl, am_tm 601 (by decide +kernel) rfl, by decide +kernel, Nat.le_of_ble_eq_true rfl⟩
theorem yi_X4_mostAlike : Cond.instanceMethod mX4_mostAlike.1 ∈ am_T := am_tm 599 (by decide +kernel) rfl
theorem yl_X4_mostAlike : Cond.selects mX4_mostAlike.1.cls mX4_mostAlike.1 mX4_mostAlike.1 ∈ am_T := am_tm 600 (by decide +kernel) rfl
theorem cv_X7_208 : am_cvB RX7 208 mX4_mostAlike 2 = true := am_cv_of yb_X4_mostAlike yi_X4_mostAlike yl_X4_mostAlike (am_tm 598 (by decide +kernel) rfl)
theorem fl_X7_212 : am_flB RX7 212 3 0 = true := am_fl_of rfl (Nat.le_of_ble_eq_true rfl) (am_tm 34 (by decide +kernel) rfl)
theorem fl_X7_33 : am_flB RX7 33 7 4 = true := am_fl_of rfl (Nat.le_of_ble_eq_true rfl) (am_tm 334 (by decide +kernel) rfl)
theorem fl_X7_37 : am_flB RX7 37 7 5 = true := am_fl_of rfl (Nat.le_of_ble_eq_true rfl) (am_tm 335 (by decide +kernel) rfl)
theorem pf_X7_116 : am_pfB RX7 116 0 0 = true := am_pf_of rfl (Nat.le_of_ble_eq_true rfl) (am_tm 88 (by decide +kernel) rfl) rfl (by decide +kernel)
theorem fl_X7_215 : am_flB RX7 215 3 1 = true := am_fl_of rfl (Nat.le_of_ble_eq_true rfl) (am_tm 38 (by decide +kernel) rfl)
theorem yb_X7_keptTracks : am_yB mX7_keptTracks 0 := ⟨am_tm 1 (by decide +kernel) rfl, am_tm 619 (by decide +kernel) rfl, by decide +kernel, Nat.le_of_ble_eq_true rfl⟩
theorem yi_X7_keptTracks : Cond.instanceMethod mX7_keptTracks.1 ∈ am_T := am_tm 618 (by decide +kernel) rfl
theorem yl_X7_keptTracks : Cond.selects mX7_keptTracks.1.cls mX7_keptTracks.1 mX7_keptTracks.1 ∈ am_T := am_tp 22 (n := 12) (by decide +kernel) rfl
theorem cv_X7_217 : am_cvB RX7 217 mX7_keptTracks 0 = true := am_cv_of yb_X7_keptTracks yi_X7_keptTracks yl_X7_keptTracks (am_tm 616 (by decide +kernel) rfl)
theorem yb_X6_longest : am_yB mX6_longest 0 := ⟨am_tm 7 (by decide +kernel) rfl, am_tm 623 (by decide +kernel) rfl, by decide +kernel, Nat.le_of_ble_eq_true rfl⟩
theorem yi_X6_longest : Cond.instanceMethod mX6_longest.1 ∈ am_T := am_tm 621 (by decide +kernel) rfl
theorem yl_X6_longest : Cond.selects mX6_longest.1.cls mX6_longest.1 mX6_longest.1 ∈ am_T := am_tm 622 (by decide +kernel) rfl
theorem cv_X7_221 : am_cvB RX7 221 mX6_longest 0 = true := am_cv_of yb_X6_longest yi_X6_longest yl_X6_longest (am_tm 620 (by decide +kernel) rfl)
theorem yb_X2_find : am_yB mX2_find 1 := ⟨am_tm 5 (by decide +kernel) rfl, am_tm 250 (by decide +kernel) rfl, by decide +kernel, Nat.le_of_ble_eq_true rfl⟩
theorem yi_X2_find : Cond.instanceMethod mX2_find.1 ∈ am_T := am_tm 248 (by decide +kernel) rfl
theorem yl_X2_find : Cond.selects mX2_find.1.cls mX2_find.1 mX2_find.1 ∈ am_T := am_tm 249 (by decide +kernel) rfl
theorem cv_X7_224 : am_cvB RX7 224 mX2_find 1 = true := am_cv_of yb_X2_find yi_X2_find yl_X2_find (am_tm 247 (by decide +kernel) rfl)
theorem fl_X7_51 : am_flB RX7 51 7 7 = true := am_fl_of rfl (Nat.le_of_ble_eq_true rfl) (am_tm 337 (by decide +kernel) rfl)
theorem yb_X6_follow : am_yB mX6_follow 3 := ⟨am_tm 7 (by decide +kernel) rfl, am_tm 273 (by decide +kernel) rfl, by decide +kernel, Nat.le_of_ble_eq_true rfl⟩
theorem yi_X6_follow : Cond.instanceMethod mX6_follow.1 ∈ am_T := am_tm 271 (by decide +kernel) rfl
theorem yl_X6_follow : Cond.selects mX6_follow.1.cls mX6_follow.1 mX6_follow.1 ∈ am_T := am_tm 272 (by decide +kernel) rfl
theorem cv_X7_227 : am_cvB RX7 227 mX6_follow 3 = true := am_cv_of yb_X6_follow yi_X6_follow yl_X6_follow (am_tm 270 (by decide +kernel) rfl)
theorem cv_X7_231 : am_cvB RX7 231 mX1_join 3 = true := am_cv_of yb_X1_join yi_X1_join yl_X1_join (am_tm 568 (by decide +kernel) rfl)
theorem pf_X8_52 : am_pfB RX8 52 8 0 = true := am_pf_of rfl (Nat.le_of_ble_eq_true rfl) (am_tm 633 (by decide +kernel) rfl) rfl (by decide +kernel)
theorem yb_X8_in : am_yB mX8_in 3 := ⟨am_tm 13 (by decide +kernel) rfl, am_tm 709 (by decide +kernel) rfl, by decide +kernel, Nat.le_of_ble_eq_true rfl⟩
theorem ys_X8_in : Cond.static mX8_in.1 ∈ am_T := am_tm 708 (by decide +kernel) rfl
theorem cs_X8_56 : am_csB RX8 56 mX8_in 3 = true := am_cs_of yb_X8_in ys_X8_in (am_tm 707 (by decide +kernel) rfl)
theorem fl_X8_60 : am_flB RX8 60 8 10 = true := am_fl_of rfl (Nat.le_of_ble_eq_true rfl) (am_tm 643 (by decide +kernel) rfl)
theorem fl_X8_29 : am_flB RX8 29 8 9 = true := am_fl_of rfl (Nat.le_of_ble_eq_true rfl) (am_tm 642 (by decide +kernel) rfl)
theorem pf_X8_60 : am_pfB RX8 60 8 10 = true := am_pf_of rfl (Nat.le_of_ble_eq_true rfl) (am_tm 643 (by decide +kernel) rfl) rfl (by decide +kernel)
theorem fl_X8_63 : am_flB RX8 63 8 12 = true := am_fl_of rfl (Nat.le_of_ble_eq_true rfl) (am_tm 645 (by decide +kernel) rfl)
theorem fl_X8_66 : am_flB RX8 66 8 11 = true := am_fl_of rfl (Nat.le_of_ble_eq_true rfl) (am_tm 644 (by decide +kernel) rfl)
theorem yb_X8_at : am_yB mX8_at 1 := ⟨am_tm 13 (by decide +kernel) rfl, am_tm 729 (by decide +kernel) rfl, by decide +kernel, Nat.le_of_ble_eq_true rfl⟩
theorem yi_X8_at : Cond.instanceMethod mX8_at.1 ∈ am_T := am_tm 728 (by decide +kernel) rfl
theorem yl_X8_at : Cond.selects mX8_at.1.cls mX8_at.1 mX8_at.1 ∈ am_T := am_tp 25 (n := 23) (by decide +kernel) rfl
theorem cv_X8_69 : am_cvB RX8 69 mX8_at 1 = true := am_cv_of yb_X8_at yi_X8_at yl_X8_at (am_tm 726 (by decide +kernel) rfl)
theorem yb_X8_isWord : am_yB mX8_isWord 5 := ⟨am_tm 13 (by decide +kernel) rfl, am_tm 737 (by decide +kernel) rfl, by decide +kernel, Nat.le_of_ble_eq_true rfl⟩
theorem yi_X8_isWord : Cond.instanceMethod mX8_isWord.1 ∈ am_T := am_tm 736 (by decide +kernel) rfl
theorem yl_X8_isWord : Cond.selects mX8_isWord.1.cls mX8_isWord.1 mX8_isWord.1 ∈ am_T := am_tp 27 (n := 23) (by decide +kernel) rfl
theorem cv_X8_73 : am_cvB RX8 73 mX8_isWord 5 = true := am_cv_of yb_X8_isWord yi_X8_isWord yl_X8_isWord (am_tm 734 (by decide +kernel) rfl)
theorem pf_X8_66 : am_pfB RX8 66 8 11 = true := am_pf_of rfl (Nat.le_of_ble_eq_true rfl) (am_tm 644 (by decide +kernel) rfl) rfl (by decide +kernel)
theorem pf_X8_63 : am_pfB RX8 63 8 12 = true := am_pf_of rfl (Nat.le_of_ble_eq_true rfl) (am_tm 645 (by decide +kernel) rfl) rfl (by decide +kernel)
theorem pf_X8_77 : am_pfB RX8 77 8 13 = true := am_pf_of rfl (Nat.le_of_ble_eq_true rfl) (am_tm 646 (by decide +kernel) rfl) rfl (by decide +kernel)
theorem yb_X8_wordOf : am_yB mX8_wordOf 0 := ⟨am_tm 13 (by decide +kernel) rfl, am_tm 733 (by decide +kernel) rfl, by decide +kernel, Nat.le_of_ble_eq_true rfl⟩
theorem yi_X8_wordOf : Cond.instanceMethod mX8_wordOf.1 ∈ am_T := am_tm 732 (by decide +kernel) rfl
theorem yl_X8_wordOf : Cond.selects mX8_wordOf.1.cls mX8_wordOf.1 mX8_wordOf.1 ∈ am_T := am_tp 26 (n := 23) (by decide +kernel) rfl
theorem cv_X8_80 : am_cvB RX8 80 mX8_wordOf 0 = true := am_cv_of yb_X8_wordOf yi_X8_wordOf yl_X8_wordOf (am_tm 730 (by decide +kernel) rfl)
theorem fl_X8_84 : am_flB RX8 84 8 14 = true := am_fl_of rfl (Nat.le_of_ble_eq_true rfl) (am_tm 647 (by decide +kernel) rfl)
theorem yb_X8_steps : am_yB mX8_steps 0 := ⟨am_tm 13 (by decide +kernel) rfl, am_tm 725 (by decide +kernel) rfl, by decide +kernel, Nat.le_of_ble_eq_true rfl⟩
theorem yi_X8_steps : Cond.instanceMethod mX8_steps.1 ∈ am_T := am_tm 724 (by decide +kernel) rfl
theorem yl_X8_steps : Cond.selects mX8_steps.1.cls mX8_steps.1 mX8_steps.1 ∈ am_T := am_tp 24 (n := 23) (by decide +kernel) rfl
theorem cv_X8_87 : am_cvB RX8 87 mX8_steps 0 = true := am_cv_of yb_X8_steps yi_X8_steps yl_X8_steps (am_tm 722 (by decide +kernel) rfl)
theorem pf_X8_84 : am_pfB RX8 84 8 14 = true := am_pf_of rfl (Nat.le_of_ble_eq_true rfl) (am_tm 647 (by decide +kernel) rfl) rfl (by decide +kernel)
theorem fl_X8_13 : am_flB RX8 13 8 2 = true := am_fl_of rfl (Nat.le_of_ble_eq_true rfl) (am_tm 635 (by decide +kernel) rfl)
theorem yb_X8_takes : am_yB mX8_takes 1 := ⟨am_tm 13 (by decide +kernel) rfl, am_tm 745 (by decide +kernel) rfl, by decide +kernel, Nat.le_of_ble_eq_true rfl⟩
theorem yi_X8_takes : Cond.instanceMethod mX8_takes.1 ∈ am_T := am_tm 744 (by decide +kernel) rfl
theorem yl_X8_takes : Cond.selects mX8_takes.1.cls mX8_takes.1 mX8_takes.1 ∈ am_T := am_tp 29 (n := 23) (by decide +kernel) rfl
theorem cv_X8_90 : am_cvB RX8 90 mX8_takes 1 = true := am_cv_of yb_X8_takes yi_X8_takes yl_X8_takes (am_tm 742 (by decide +kernel) rfl)
theorem fl_X8_77 : am_flB RX8 77 8 13 = true := am_fl_of rfl (Nat.le_of_ble_eq_true rfl) (am_tm 646 (by decide +kernel) rfl)
theorem yb_X8_plain : am_yB mX8_plain 1 := ⟨am_tm 13 (by decide +kernel) rfl, am_tm 632 (by decide +kernel) rfl, by decide +kernel, Nat.le_of_ble_eq_true rfl⟩
theorem ys_X8_plain : Cond.static mX8_plain.1 ∈ am_T := am_tm 631 (by decide +kernel) rfl
theorem cs_X8_48 : am_csB RX8 48 mX8_plain 1 = true := am_cs_of yb_X8_plain ys_X8_plain (am_tm 630 (by decide +kernel) rfl)
theorem yb_X8_readsFrame : am_yB mX8_readsFrame 0 := ⟨am_tm 13 (by decide +kernel) rfl, am_tm 741 (by decide +kernel) rfl, by decide +kernel, Nat.le_of_ble_eq_true rfl⟩
theorem yi_X8_readsFrame : Cond.instanceMethod mX8_readsFrame.1 ∈ am_T := am_tm 740 (by decide +kernel) rfl
theorem yl_X8_readsFrame : Cond.selects mX8_readsFrame.1.cls mX8_readsFrame.1 mX8_readsFrame.1 ∈ am_T := am_tp 28 (n := 23) (by decide +kernel) rfl
theorem cv_X8_94 : am_cvB RX8 94 mX8_readsFrame 0 = true := am_cv_of yb_X8_readsFrame yi_X8_readsFrame yl_X8_readsFrame (am_tm 738 (by decide +kernel) rfl)
theorem yb_X8_readsNumber : am_yB mX8_readsNumber 3 := ⟨am_tm 13 (by decide +kernel) rfl, am_tm 749 (by decide +kernel) rfl, by decide +kernel, Nat.le_of_ble_eq_true rfl⟩
theorem yi_X8_readsNumber : Cond.instanceMethod mX8_readsNumber.1 ∈ am_T := am_tm 748 (by decide +kernel) rfl
theorem yl_X8_readsNumber : Cond.selects mX8_readsNumber.1.cls mX8_readsNumber.1 mX8_readsNumber.1 ∈ am_T := am_tp 30 (n := 23) (by decide +kernel) rfl
theorem cv_X8_97 : am_cvB RX8 97 mX8_readsNumber 3 = true := am_cv_of yb_X8_readsNumber yi_X8_readsNumber yl_X8_readsNumber (am_tm 746 (by decide +kernel) rfl)
theorem yb_X8_reads : am_yB mX8_reads 0 := ⟨am_tm 13 (by decide +kernel) rfl, am_tm 721 (by decide +kernel) rfl, by decide +kernel, Nat.le_of_ble_eq_true rfl⟩
theorem yi_X8_reads : Cond.instanceMethod mX8_reads.1 ∈ am_T := am_tm 720 (by decide +kernel) rfl
theorem yl_X8_reads : Cond.selects mX8_reads.1.cls mX8_reads.1 mX8_reads.1 ∈ am_T := am_tp 23 (n := 23) (by decide +kernel) rfl
theorem cv_X8_101 : am_cvB RX8 101 mX8_reads 0 = true := am_cv_of yb_X8_reads yi_X8_reads yl_X8_reads (am_tm 718 (by decide +kernel) rfl)
theorem yb_X8_notes : am_yB mX8_notes 0 := ⟨am_tm 13 (by decide +kernel) rfl, am_tm 753 (by decide +kernel) rfl, by decide +kernel, Nat.le_of_ble_eq_true rfl⟩
theorem yi_X8_notes : Cond.instanceMethod mX8_notes.1 ∈ am_T := am_tm 752 (by decide +kernel) rfl
theorem yl_X8_notes : Cond.selects mX8_notes.1.cls mX8_notes.1 mX8_notes.1 ∈ am_T := am_tp 31 (n := 23) (by decide +kernel) rfl
theorem cv_X8_104 : am_cvB RX8 104 mX8_notes 0 = true := am_cv_of yb_X8_notes yi_X8_notes yl_X8_notes (am_tm 750 (by decide +kernel) rfl)
theorem fl_X8_7 : am_flB RX8 7 8 1 = true := am_fl_of rfl (Nat.le_of_ble_eq_true rfl) (am_tm 634 (by decide +kernel) rfl)
theorem fl_X8_107 : am_flB RX8 107 8 4 = true := am_fl_of rfl (Nat.le_of_ble_eq_true rfl) (am_tm 637 (by decide +kernel) rfl)
theorem fl_X8_16 : am_flB RX8 16 8 3 = true := am_fl_of rfl (Nat.le_of_ble_eq_true rfl) (am_tm 636 (by decide +kernel) rfl)
theorem pf_X8_107 : am_pfB RX8 107 8 4 = true := am_pf_of rfl (Nat.le_of_ble_eq_true rfl) (am_tm 637 (by decide +kernel) rfl) rfl (by decide +kernel)
theorem yb_X8_isPlace : am_yB mX8_isPlace 2 := ⟨am_tm 13 (by decide +kernel) rfl, am_tm 761 (by decide +kernel) rfl, by decide +kernel, Nat.le_of_ble_eq_true rfl⟩
theorem yi_X8_isPlace : Cond.instanceMethod mX8_isPlace.1 ∈ am_T := am_tm 760 (by decide +kernel) rfl
theorem yl_X8_isPlace : Cond.selects mX8_isPlace.1.cls mX8_isPlace.1 mX8_isPlace.1 ∈ am_T := am_tp 32 (n := 23) (by decide +kernel) rfl
theorem cv_X8_110 : am_cvB RX8 110 mX8_isPlace 2 = true := am_cv_of yb_X8_isPlace yi_X8_isPlace yl_X8_isPlace (am_tm 758 (by decide +kernel) rfl)
theorem yb_X8_becomes : am_yB mX8_becomes 2 := ⟨am_tm 13 (by decide +kernel) rfl, am_tm 765 (by decide +kernel) rfl, by decide +kernel, Nat.le_of_ble_eq_true rfl⟩
theorem yi_X8_becomes : Cond.instanceMethod mX8_becomes.1 ∈ am_T := am_tm 764 (by decide +kernel) rfl
theorem yl_X8_becomes : Cond.selects mX8_becomes.1.cls mX8_becomes.1 mX8_becomes.1 ∈ am_T := am_tp 33 (n := 23) (by decide +kernel) rfl
theorem cv_X8_114 : am_cvB RX8 114 mX8_becomes 2 = true := am_cv_of yb_X8_becomes yi_X8_becomes yl_X8_becomes (am_tm 762 (by decide +kernel) rfl)
theorem fl_X8_33 : am_flB RX8 33 8 15 = true := am_fl_of rfl (Nat.le_of_ble_eq_true rfl) (am_tm 648 (by decide +kernel) rfl)
theorem yb_X8_levelAt : am_yB mX8_levelAt 2 := ⟨am_tm 13 (by decide +kernel) rfl, am_tm 781 (by decide +kernel) rfl, by decide +kernel, Nat.le_of_ble_eq_true rfl⟩
theorem yi_X8_levelAt : Cond.instanceMethod mX8_levelAt.1 ∈ am_T := am_tm 780 (by decide +kernel) rfl
theorem yl_X8_levelAt : Cond.selects mX8_levelAt.1.cls mX8_levelAt.1 mX8_levelAt.1 ∈ am_T := am_tp 34 (n := 23) (by decide +kernel) rfl
theorem cv_X8_118 : am_cvB RX8 118 mX8_levelAt 2 = true := am_cv_of yb_X8_levelAt yi_X8_levelAt yl_X8_levelAt (am_tm 778 (by decide +kernel) rfl)
theorem fl_X8_36 : am_flB RX8 36 8 16 = true := am_fl_of rfl (Nat.le_of_ble_eq_true rfl) (am_tm 649 (by decide +kernel) rfl)
theorem yb_X8_pitchOf : am_yB mX8_pitchOf 2 := ⟨am_tm 13 (by decide +kernel) rfl, am_tm 818 (by decide +kernel) rfl, by decide +kernel, Nat.le_of_ble_eq_true rfl⟩
theorem yi_X8_pitchOf : Cond.instanceMethod mX8_pitchOf.1 ∈ am_T := am_tm 817 (by decide +kernel) rfl
theorem yl_X8_pitchOf : Cond.selects mX8_pitchOf.1.cls mX8_pitchOf.1 mX8_pitchOf.1 ∈ am_T := am_tp 42 (n := 23) (by decide +kernel) rfl
theorem cv_X8_121 : am_cvB RX8 121 mX8_pitchOf 2 = true := am_cv_of yb_X8_pitchOf yi_X8_pitchOf yl_X8_pitchOf (am_tm 815 (by decide +kernel) rfl)
theorem fl_X8_45 : am_flB RX8 45 8 20 = true := am_fl_of rfl (Nat.le_of_ble_eq_true rfl) (am_tm 653 (by decide +kernel) rfl)
theorem yb_X8_apart : am_yB mX8_apart 3 := ⟨am_tm 13 (by decide +kernel) rfl, am_tm 814 (by decide +kernel) rfl, by decide +kernel, Nat.le_of_ble_eq_true rfl⟩
theorem yi_X8_apart : Cond.instanceMethod mX8_apart.1 ∈ am_T := am_tm 813 (by decide +kernel) rfl
theorem yl_X8_apart : Cond.selects mX8_apart.1.cls mX8_apart.1 mX8_apart.1 ∈ am_T := am_tp 41 (n := 23) (by decide +kernel) rfl
theorem cv_X8_124 : am_cvB RX8 124 mX8_apart 3 = true := am_cv_of yb_X8_apart yi_X8_apart yl_X8_apart (am_tm 811 (by decide +kernel) rfl)
theorem yb_X8_worthOf : am_yB mX8_worthOf 2 := ⟨am_tm 13 (by decide +kernel) rfl, am_tm 822 (by decide +kernel) rfl, by decide +kernel, Nat.le_of_ble_eq_true rfl⟩
theorem yi_X8_worthOf : Cond.instanceMethod mX8_worthOf.1 ∈ am_T := am_tm 821 (by decide +kernel) rfl
theorem yl_X8_worthOf : Cond.selects mX8_worthOf.1.cls mX8_worthOf.1 mX8_worthOf.1 ∈ am_T := am_tp 43 (n := 23) (by decide +kernel) rfl
theorem cv_X8_128 : am_cvB RX8 128 mX8_worthOf 2 = true := am_cv_of yb_X8_worthOf yi_X8_worthOf yl_X8_worthOf (am_tm 819 (by decide +kernel) rfl)
theorem yb_X8_pairWorth : am_yB mX8_pairWorth 4 := ⟨am_tm 13 (by decide +kernel) rfl, am_tm 810 (by decide +kernel) rfl, by decide +kernel, Nat.le_of_ble_eq_true rfl⟩
theorem yi_X8_pairWorth : Cond.instanceMethod mX8_pairWorth.1 ∈ am_T := am_tm 809 (by decide +kernel) rfl
theorem yl_X8_pairWorth : Cond.selects mX8_pairWorth.1.cls mX8_pairWorth.1 mX8_pairWorth.1 ∈ am_T := am_tp 40 (n := 23) (by decide +kernel) rfl
theorem cv_X8_131 : am_cvB RX8 131 mX8_pairWorth 4 = true := am_cv_of yb_X8_pairWorth yi_X8_pairWorth yl_X8_pairWorth (am_tm 807 (by decide +kernel) rfl)
theorem yb_X8_laysWorth : am_yB mX8_laysWorth 2 := ⟨am_tm 13 (by decide +kernel) rfl, am_tm 806 (by decide +kernel) rfl, by decide +kernel, Nat.le_of_ble_eq_true rfl⟩
theorem yi_X8_laysWorth : Cond.instanceMethod mX8_laysWorth.1 ∈ am_T := am_tm 805 (by decide +kernel) rfl
theorem yl_X8_laysWorth : Cond.selects mX8_laysWorth.1.cls mX8_laysWorth.1 mX8_laysWorth.1 ∈ am_T := am_tp 39 (n := 23) (by decide +kernel) rfl
theorem cv_X8_135 : am_cvB RX8 135 mX8_laysWorth 2 = true := am_cv_of yb_X8_laysWorth yi_X8_laysWorth yl_X8_laysWorth (am_tm 803 (by decide +kernel) rfl)
theorem fl_X8_39 : am_flB RX8 39 8 17 = true := am_fl_of rfl (Nat.le_of_ble_eq_true rfl) (am_tm 650 (by decide +kernel) rfl)
theorem yb_X8_laysPeaks : am_yB mX8_laysPeaks 0 := ⟨am_tm 13 (by decide +kernel) rfl, am_tm 798 (by decide +kernel) rfl, by decide +kernel, Nat.le_of_ble_eq_true rfl⟩
theorem yi_X8_laysPeaks : Cond.instanceMethod mX8_laysPeaks.1 ∈ am_T := am_tm 797 (by decide +kernel) rfl
theorem yl_X8_laysPeaks : Cond.selects mX8_laysPeaks.1.cls mX8_laysPeaks.1 mX8_laysPeaks.1 ∈ am_T := am_tp 37 (n := 23) (by decide +kernel) rfl
theorem cv_X8_139 : am_cvB RX8 139 mX8_laysPeaks 0 = true := am_cv_of yb_X8_laysPeaks yi_X8_laysPeaks yl_X8_laysPeaks (am_tm 795 (by decide +kernel) rfl)
theorem fl_X8_42 : am_flB RX8 42 8 18 = true := am_fl_of rfl (Nat.le_of_ble_eq_true rfl) (am_tm 651 (by decide +kernel) rfl)
theorem yb_X8_joins : am_yB mX8_joins 2 := ⟨am_tm 13 (by decide +kernel) rfl, am_tm 802 (by decide +kernel) rfl, by decide +kernel, Nat.le_of_ble_eq_true rfl⟩
theorem yi_X8_joins : Cond.instanceMethod mX8_joins.1 ∈ am_T := am_tm 801 (by decide +kernel) rfl
theorem yl_X8_joins : Cond.selects mX8_joins.1.cls mX8_joins.1 mX8_joins.1 ∈ am_T := am_tp 38 (n := 23) (by decide +kernel) rfl
theorem cv_X8_142 : am_cvB RX8 142 mX8_joins 2 = true := am_cv_of yb_X8_joins yi_X8_joins yl_X8_joins (am_tm 799 (by decide +kernel) rfl)
theorem pf_X8_145 : am_pfB RX8 145 8 19 = true := am_pf_of rfl (Nat.le_of_ble_eq_true rfl) (am_tm 652 (by decide +kernel) rfl) rfl (by decide +kernel)
theorem yb_X8_follows : am_yB mX8_follows 2 := ⟨am_tm 13 (by decide +kernel) rfl, am_tm 826 (by decide +kernel) rfl, by decide +kernel, Nat.le_of_ble_eq_true rfl⟩
theorem yi_X8_follows : Cond.instanceMethod mX8_follows.1 ∈ am_T := am_tm 825 (by decide +kernel) rfl
theorem yl_X8_follows : Cond.selects mX8_follows.1.cls mX8_follows.1 mX8_follows.1 ∈ am_T := am_tp 44 (n := 23) (by decide +kernel) rfl
theorem cv_X8_148 : am_cvB RX8 148 mX8_follows 2 = true := am_cv_of yb_X8_follows yi_X8_follows yl_X8_follows (am_tm 823 (by decide +kernel) rfl)
theorem fl_X8_145 : am_flB RX8 145 8 19 = true := am_fl_of rfl (Nat.le_of_ble_eq_true rfl) (am_tm 652 (by decide +kernel) rfl)
theorem yb_X8_laysTracks : am_yB mX8_laysTracks 1 := ⟨am_tm 13 (by decide +kernel) rfl, am_tm 794 (by decide +kernel) rfl, by decide +kernel, Nat.le_of_ble_eq_true rfl⟩
theorem yi_X8_laysTracks : Cond.instanceMethod mX8_laysTracks.1 ∈ am_T := am_tm 793 (by decide +kernel) rfl
theorem yl_X8_laysTracks : Cond.selects mX8_laysTracks.1.cls mX8_laysTracks.1 mX8_laysTracks.1 ∈ am_T := am_tp 36 (n := 23) (by decide +kernel) rfl
theorem cv_X8_151 : am_cvB RX8 151 mX8_laysTracks 1 = true := am_cv_of yb_X8_laysTracks yi_X8_laysTracks yl_X8_laysTracks (am_tm 791 (by decide +kernel) rfl)
theorem yb_X8_peakOf : am_yB mX8_peakOf 2 := ⟨am_tm 13 (by decide +kernel) rfl, am_tm 846 (by decide +kernel) rfl, by decide +kernel, Nat.le_of_ble_eq_true rfl⟩
theorem yi_X8_peakOf : Cond.instanceMethod mX8_peakOf.1 ∈ am_T := am_tm 845 (by decide +kernel) rfl
theorem yl_X8_peakOf : Cond.selects mX8_peakOf.1.cls mX8_peakOf.1 mX8_peakOf.1 ∈ am_T := am_tp 48 (n := 23) (by decide +kernel) rfl
theorem cv_X8_155 : am_cvB RX8 155 mX8_peakOf 2 = true := am_cv_of yb_X8_peakOf yi_X8_peakOf yl_X8_peakOf (am_tm 843 (by decide +kernel) rfl)
theorem yb_X8_bornOf : am_yB mX8_bornOf 1 := ⟨am_tm 13 (by decide +kernel) rfl, am_tm 854 (by decide +kernel) rfl, by decide +kernel, Nat.le_of_ble_eq_true rfl⟩
theorem yi_X8_bornOf : Cond.instanceMethod mX8_bornOf.1 ∈ am_T := am_tm 853 (by decide +kernel) rfl
theorem yl_X8_bornOf : Cond.selects mX8_bornOf.1.cls mX8_bornOf.1 mX8_bornOf.1 ∈ am_T := am_tp 50 (n := 23) (by decide +kernel) rfl
theorem cv_X8_158 : am_cvB RX8 158 mX8_bornOf 1 = true := am_cv_of yb_X8_bornOf yi_X8_bornOf yl_X8_bornOf (am_tm 851 (by decide +kernel) rfl)
theorem yb_X8_longOf : am_yB mX8_longOf 1 := ⟨am_tm 13 (by decide +kernel) rfl, am_tm 842 (by decide +kernel) rfl, by decide +kernel, Nat.le_of_ble_eq_true rfl⟩
theorem yi_X8_longOf : Cond.instanceMethod mX8_longOf.1 ∈ am_T := am_tm 841 (by decide +kernel) rfl
theorem yl_X8_longOf : Cond.selects mX8_longOf.1.cls mX8_longOf.1 mX8_longOf.1 ∈ am_T := am_tp 47 (n := 23) (by decide +kernel) rfl
theorem cv_X8_161 : am_cvB RX8 161 mX8_longOf 1 = true := am_cv_of yb_X8_longOf yi_X8_longOf yl_X8_longOf (am_tm 839 (by decide +kernel) rfl)
theorem pf_X8_164 : am_pfB RX8 164 8 21 = true := am_pf_of rfl (Nat.le_of_ble_eq_true rfl) (am_tm 654 (by decide +kernel) rfl) rfl (by decide +kernel)
theorem pf_X8_167 : am_pfB RX8 167 8 22 = true := am_pf_of rfl (Nat.le_of_ble_eq_true rfl) (am_tm 655 (by decide +kernel) rfl) rfl (by decide +kernel)
theorem fl_X8_167 : am_flB RX8 167 8 22 = true := am_fl_of rfl (Nat.le_of_ble_eq_true rfl) (am_tm 655 (by decide +kernel) rfl)
theorem fl_X8_164 : am_flB RX8 164 8 21 = true := am_fl_of rfl (Nat.le_of_ble_eq_true rfl) (am_tm 654 (by decide +kernel) rfl)
theorem yb_X8_laysSteps : am_yB mX8_laysSteps 1 := ⟨am_tm 13 (by decide +kernel) rfl, am_tm 870 (by decide +kernel) rfl, by decide +kernel, Nat.le_of_ble_eq_true rfl⟩
theorem yi_X8_laysSteps : Cond.instanceMethod mX8_laysSteps.1 ∈ am_T := am_tm 869 (by decide +kernel) rfl
theorem yl_X8_laysSteps : Cond.selects mX8_laysSteps.1.cls mX8_laysSteps.1 mX8_laysSteps.1 ∈ am_T := am_tp 53 (n := 23) (by decide +kernel) rfl
theorem cv_X8_170 : am_cvB RX8 170 mX8_laysSteps 1 = true := am_cv_of yb_X8_laysSteps yi_X8_laysSteps yl_X8_laysSteps (am_tm 867 (by decide +kernel) rfl)
theorem yb_X8_depthOf : am_yB mX8_depthOf 1 := ⟨am_tm 13 (by decide +kernel) rfl, am_tm 862 (by decide +kernel) rfl, by decide +kernel, Nat.le_of_ble_eq_true rfl⟩
theorem yi_X8_depthOf : Cond.instanceMethod mX8_depthOf.1 ∈ am_T := am_tm 861 (by decide +kernel) rfl
theorem yl_X8_depthOf : Cond.selects mX8_depthOf.1.cls mX8_depthOf.1 mX8_depthOf.1 ∈ am_T := am_tp 51 (n := 23) (by decide +kernel) rfl
theorem cv_X8_173 : am_cvB RX8 173 mX8_depthOf 1 = true := am_cv_of yb_X8_depthOf yi_X8_depthOf yl_X8_depthOf (am_tm 859 (by decide +kernel) rfl)
theorem yb_X8_loudOf : am_yB mX8_loudOf 2 := ⟨am_tm 13 (by decide +kernel) rfl, am_tm 830 (by decide +kernel) rfl, by decide +kernel, Nat.le_of_ble_eq_true rfl⟩
theorem yi_X8_loudOf : Cond.instanceMethod mX8_loudOf.1 ∈ am_T := am_tm 829 (by decide +kernel) rfl
theorem yl_X8_loudOf : Cond.selects mX8_loudOf.1.cls mX8_loudOf.1 mX8_loudOf.1 ∈ am_T := am_tp 45 (n := 23) (by decide +kernel) rfl
theorem cv_X8_176 : am_cvB RX8 176 mX8_loudOf 2 = true := am_cv_of yb_X8_loudOf yi_X8_loudOf yl_X8_loudOf (am_tm 827 (by decide +kernel) rfl)
theorem yb_X8_kindOf : am_yB mX8_kindOf 1 := ⟨am_tm 13 (by decide +kernel) rfl, am_tm 874 (by decide +kernel) rfl, by decide +kernel, Nat.le_of_ble_eq_true rfl⟩
theorem yi_X8_kindOf : Cond.instanceMethod mX8_kindOf.1 ∈ am_T := am_tm 873 (by decide +kernel) rfl
theorem yl_X8_kindOf : Cond.selects mX8_kindOf.1.cls mX8_kindOf.1 mX8_kindOf.1 ∈ am_T := am_tp 54 (n := 23) (by decide +kernel) rfl
theorem cv_X8_179 : am_cvB RX8 179 mX8_kindOf 1 = true := am_cv_of yb_X8_kindOf yi_X8_kindOf yl_X8_kindOf (am_tm 871 (by decide +kernel) rfl)
theorem lc_X8_182 : Cond.constant RX8 182 (Int32.ofInt (-1000000)) ∈ am_T := by decide +kernel
theorem yb_X8_lays : am_yB mX8_lays 0 := ⟨am_tm 13 (by decide +kernel) rfl, am_tm 790 (by decide +kernel) rfl, by decide +kernel, Nat.le_of_ble_eq_true rfl⟩
theorem yi_X8_lays : Cond.instanceMethod mX8_lays.1 ∈ am_T := am_tm 789 (by decide +kernel) rfl
theorem yl_X8_lays : Cond.selects mX8_lays.1.cls mX8_lays.1 mX8_lays.1 ∈ am_T := am_tp 35 (n := 23) (by decide +kernel) rfl
theorem cv_X8_183 : am_cvB RX8 183 mX8_lays 0 = true := am_cv_of yb_X8_lays yi_X8_lays yl_X8_lays (am_tm 787 (by decide +kernel) rfl)
theorem yb_X8_sumOf : am_yB mX8_sumOf 2 := ⟨am_tm 13 (by decide +kernel) rfl, am_tm 838 (by decide +kernel) rfl, by decide +kernel, Nat.le_of_ble_eq_true rfl⟩
theorem yi_X8_sumOf : Cond.instanceMethod mX8_sumOf.1 ∈ am_T := am_tm 837 (by decide +kernel) rfl
theorem yl_X8_sumOf : Cond.selects mX8_sumOf.1.cls mX8_sumOf.1 mX8_sumOf.1 ∈ am_T := am_tp 46 (n := 23) (by decide +kernel) rfl
theorem cv_X8_186 : am_cvB RX8 186 mX8_sumOf 2 = true := am_cv_of yb_X8_sumOf yi_X8_sumOf yl_X8_sumOf (am_tm 835 (by decide +kernel) rfl)
theorem yb_X8_bornIn : am_yB mX8_bornIn 2 := ⟨am_tm 13 (by decide +kernel) rfl, am_tm 850 (by decide +kernel) rfl, by decide +kernel, Nat.le_of_ble_eq_true rfl⟩
theorem yi_X8_bornIn : Cond.instanceMethod mX8_bornIn.1 ∈ am_T := am_tm 849 (by decide +kernel) rfl
theorem yl_X8_bornIn : Cond.selects mX8_bornIn.1.cls mX8_bornIn.1 mX8_bornIn.1 ∈ am_T := am_tp 49 (n := 23) (by decide +kernel) rfl
theorem cv_X8_190 : am_cvB RX8 190 mX8_bornIn 2 = true := am_cv_of yb_X8_bornIn yi_X8_bornIn yl_X8_bornIn (am_tm 847 (by decide +kernel) rfl)
theorem yb_X8_turnsOf : am_yB mX8_turnsOf 1 := ⟨am_tm 13 (by decide +kernel) rfl, am_tm 866 (by decide +kernel) rfl, by decide +kernel, Nat.le_of_ble_eq_true rfl⟩
theorem yi_X8_turnsOf : Cond.instanceMethod mX8_turnsOf.1 ∈ am_T := am_tm 865 (by decide +kernel) rfl
theorem yl_X8_turnsOf : Cond.selects mX8_turnsOf.1.cls mX8_turnsOf.1 mX8_turnsOf.1 ∈ am_T := am_tp 52 (n := 23) (by decide +kernel) rfl
theorem cv_X8_193 : am_cvB RX8 193 mX8_turnsOf 1 = true := am_cv_of yb_X8_turnsOf yi_X8_turnsOf yl_X8_turnsOf (am_tm 863 (by decide +kernel) rfl)
theorem yb_X8_worthOfTrack : am_yB mX8_worthOfTrack 1 := ⟨am_tm 13 (by decide +kernel) rfl, am_tm 878 (by decide +kernel) rfl, by decide +kernel, Nat.le_of_ble_eq_true rfl⟩
theorem yi_X8_worthOfTrack : Cond.instanceMethod mX8_worthOfTrack.1 ∈ am_T := am_tm 877 (by decide +kernel) rfl
theorem yl_X8_worthOfTrack : Cond.selects mX8_worthOfTrack.1.cls mX8_worthOfTrack.1 mX8_worthOfTrack.1 ∈ am_T := am_tp 55 (n := 23) (by decide +kernel) rfl
theorem cv_X8_196 : am_cvB RX8 196 mX8_worthOfTrack 1 = true := am_cv_of yb_X8_worthOfTrack yi_X8_worthOfTrack yl_X8_worthOfTrack (am_tm 875 (by decide +kernel) rfl)
theorem yb_X8_pitchIn : am_yB mX8_pitchIn 2 := ⟨am_tm 13 (by decide +kernel) rfl, am_tm 886 (by decide +kernel) rfl, by decide +kernel, Nat.le_of_ble_eq_true rfl⟩
theorem yi_X8_pitchIn : Cond.instanceMethod mX8_pitchIn.1 ∈ am_T := am_tm 885 (by decide +kernel) rfl
theorem yl_X8_pitchIn : Cond.selects mX8_pitchIn.1.cls mX8_pitchIn.1 mX8_pitchIn.1 ∈ am_T := am_tp 56 (n := 23) (by decide +kernel) rfl
theorem cv_X8_199 : am_cvB RX8 199 mX8_pitchIn 2 = true := am_cv_of yb_X8_pitchIn yi_X8_pitchIn yl_X8_pitchIn (am_tm 883 (by decide +kernel) rfl)
theorem fl_X8_202 : am_flB RX8 202 8 8 = true := am_fl_of rfl (Nat.le_of_ble_eq_true rfl) (am_tm 641 (by decide +kernel) rfl)
theorem fl_X8_26 : am_flB RX8 26 8 7 = true := am_fl_of rfl (Nat.le_of_ble_eq_true rfl) (am_tm 640 (by decide +kernel) rfl)
theorem pf_X8_202 : am_pfB RX8 202 8 8 = true := am_pf_of rfl (Nat.le_of_ble_eq_true rfl) (am_tm 641 (by decide +kernel) rfl) rfl (by decide +kernel)
theorem yb_X8_isSo : am_yB mX8_isSo 1 := ⟨am_tm 13 (by decide +kernel) rfl, am_tm 906 (by decide +kernel) rfl, by decide +kernel, Nat.le_of_ble_eq_true rfl⟩
theorem yi_X8_isSo : Cond.instanceMethod mX8_isSo.1 ∈ am_T := am_tm 905 (by decide +kernel) rfl
theorem yl_X8_isSo : Cond.selects mX8_isSo.1.cls mX8_isSo.1 mX8_isSo.1 ∈ am_T := am_tp 57 (n := 23) (by decide +kernel) rfl
theorem cv_X8_205 : am_cvB RX8 205 mX8_isSo 1 = true := am_cv_of yb_X8_isSo yi_X8_isSo yl_X8_isSo (am_tm 903 (by decide +kernel) rfl)
theorem yb_X8_mostAlike : am_yB mX8_mostAlike 1 := ⟨am_tm 13 (by decide +kernel) rfl, am_tm 914 (by decide +kernel) rfl, by decide +kernel, Nat.le_of_ble_eq_true rfl⟩
theorem yi_X8_mostAlike : Cond.instanceMethod mX8_mostAlike.1 ∈ am_T := am_tm 913 (by decide +kernel) rfl
theorem yl_X8_mostAlike : Cond.selects mX8_mostAlike.1.cls mX8_mostAlike.1 mX8_mostAlike.1 ∈ am_T := am_tp 58 (n := 23) (by decide +kernel) rfl
theorem cv_X8_209 : am_cvB RX8 209 mX8_mostAlike 1 = true := am_cv_of yb_X8_mostAlike yi_X8_mostAlike yl_X8_mostAlike (am_tm 911 (by decide +kernel) rfl)
theorem fl_X8_19 : am_flB RX8 19 8 5 = true := am_fl_of rfl (Nat.le_of_ble_eq_true rfl) (am_tm 638 (by decide +kernel) rfl)
theorem fl_X8_22 : am_flB RX8 22 8 6 = true := am_fl_of rfl (Nat.le_of_ble_eq_true rfl) (am_tm 639 (by decide +kernel) rfl)
theorem yb_X8_tracksNow : am_yB mX8_tracksNow 0 := ⟨am_tm 13 (by decide +kernel) rfl, am_tm 930 (by decide +kernel) rfl, by decide +kernel, Nat.le_of_ble_eq_true rfl⟩
theorem yi_X8_tracksNow : Cond.instanceMethod mX8_tracksNow.1 ∈ am_T := am_tm 929 (by decide +kernel) rfl
theorem yl_X8_tracksNow : Cond.selects mX8_tracksNow.1.cls mX8_tracksNow.1 mX8_tracksNow.1 ∈ am_T := am_tp 59 (n := 23) (by decide +kernel) rfl
theorem cv_X8_212 : am_cvB RX8 212 mX8_tracksNow 0 = true := am_cv_of yb_X8_tracksNow yi_X8_tracksNow yl_X8_tracksNow (am_tm 927 (by decide +kernel) rfl)
theorem yb_X8_keptMany : am_yB mX8_keptMany 0 := ⟨am_tm 13 (by decide +kernel) rfl, am_tm 934 (by decide +kernel) rfl, by decide +kernel, Nat.le_of_ble_eq_true rfl⟩
theorem yi_X8_keptMany : Cond.instanceMethod mX8_keptMany.1 ∈ am_T := am_tm 933 (by decide +kernel) rfl
theorem yl_X8_keptMany : Cond.selects mX8_keptMany.1.cls mX8_keptMany.1 mX8_keptMany.1 ∈ am_T := am_tp 60 (n := 23) (by decide +kernel) rfl
theorem cv_X8_215 : am_cvB RX8 215 mX8_keptMany 0 = true := am_cv_of yb_X8_keptMany yi_X8_keptMany yl_X8_keptMany (am_tm 931 (by decide +kernel) rfl)
theorem yb_X8_longest : am_yB mX8_longest 0 := ⟨am_tm 13 (by decide +kernel) rfl, am_tm 938 (by decide +kernel) rfl, by decide +kernel, Nat.le_of_ble_eq_true rfl⟩
theorem yi_X8_longest : Cond.instanceMethod mX8_longest.1 ∈ am_T := am_tm 937 (by decide +kernel) rfl
theorem yl_X8_longest : Cond.selects mX8_longest.1.cls mX8_longest.1 mX8_longest.1 ∈ am_T := am_tp 61 (n := 23) (by decide +kernel) rfl
theorem cv_X8_218 : am_cvB RX8 218 mX8_longest 0 = true := am_cv_of yb_X8_longest yi_X8_longest yl_X8_longest (am_tm 935 (by decide +kernel) rfl)
theorem yb_X7_type : am_yB mX7_type 1 := ⟨am_tm 1 (by decide +kernel) rfl, am_tm 370 (by decide +kernel) rfl, by decide +kernel, Nat.le_of_ble_eq_true rfl⟩
theorem yi_X7_type : Cond.instanceMethod mX7_type.1 ∈ am_T := am_tm 368 (by decide +kernel) rfl
theorem yl_X7_type : Cond.selects mX7_type.1.cls mX7_type.1 mX7_type.1 ∈ am_T := am_tm 369 (by decide +kernel) rfl
theorem cv_L_13 : am_cvB RL 13 mX7_type 1 = true := am_cv_of yb_X7_type yi_X7_type yl_X7_type (am_tm 367 (by decide +kernel) rfl)
theorem yb_X8_type : am_yB mX8_type 1 := ⟨am_tm 13 (by decide +kernel) rfl, am_tm 706 (by decide +kernel) rfl, by decide +kernel, Nat.le_of_ble_eq_true rfl⟩
theorem yi_X8_type : Cond.instanceMethod mX8_type.1 ∈ am_T := am_tm 704 (by decide +kernel) rfl
theorem yl_X8_type : Cond.selects mX8_type.1.cls mX8_type.1 mX8_type.1 ∈ am_T := am_tm 705 (by decide +kernel) rfl
theorem cv_L_17 : am_cvB RL 17 mX8_type 1 = true := am_cv_of yb_X8_type yi_X8_type yl_X8_type (am_tm 703 (by decide +kernel) rfl)
theorem yb_X7_clear : am_yB mX7_clear 0 := ⟨am_tm 1 (by decide +kernel) rfl, am_tm 378 (by decide +kernel) rfl, by decide +kernel, Nat.le_of_ble_eq_true rfl⟩
theorem yi_X7_clear : Cond.instanceMethod mX7_clear.1 ∈ am_T := am_tm 376 (by decide +kernel) rfl
theorem yl_X7_clear : Cond.selects mX7_clear.1.cls mX7_clear.1 mX7_clear.1 ∈ am_T := am_tm 377 (by decide +kernel) rfl
theorem cv_L_18 : am_cvB RL 18 mX7_clear 0 = true := am_cv_of yb_X7_clear yi_X7_clear yl_X7_clear (am_tm 375 (by decide +kernel) rfl)
theorem yb_X8_clear : am_yB mX8_clear 0 := ⟨am_tm 13 (by decide +kernel) rfl, am_tm 713 (by decide +kernel) rfl, by decide +kernel, Nat.le_of_ble_eq_true rfl⟩
theorem yi_X8_clear : Cond.instanceMethod mX8_clear.1 ∈ am_T := am_tm 711 (by decide +kernel) rfl
theorem yl_X8_clear : Cond.selects mX8_clear.1.cls mX8_clear.1 mX8_clear.1 ∈ am_T := am_tm 712 (by decide +kernel) rfl
theorem cv_L_22 : am_cvB RL 22 mX8_clear 0 = true := am_cv_of yb_X8_clear yi_X8_clear yl_X8_clear (am_tm 710 (by decide +kernel) rfl)
theorem yb_X7_tells : am_yB mX7_tells 0 := ⟨am_tm 1 (by decide +kernel) rfl, am_tm 382 (by decide +kernel) rfl, by decide +kernel, Nat.le_of_ble_eq_true rfl⟩
theorem yi_X7_tells : Cond.instanceMethod mX7_tells.1 ∈ am_T := am_tm 380 (by decide +kernel) rfl
theorem yl_X7_tells : Cond.selects mX7_tells.1.cls mX7_tells.1 mX7_tells.1 ∈ am_T := am_tm 381 (by decide +kernel) rfl
theorem cv_L_23 : am_cvB RL 23 mX7_tells 0 = true := am_cv_of yb_X7_tells yi_X7_tells yl_X7_tells (am_tm 379 (by decide +kernel) rfl)
theorem yb_X8_tells : am_yB mX8_tells 0 := ⟨am_tm 13 (by decide +kernel) rfl, am_tm 717 (by decide +kernel) rfl, by decide +kernel, Nat.le_of_ble_eq_true rfl⟩
theorem yi_X8_tells : Cond.instanceMethod mX8_tells.1 ∈ am_T := am_tm 715 (by decide +kernel) rfl
theorem yl_X8_tells : Cond.selects mX8_tells.1.cls mX8_tells.1 mX8_tells.1 ∈ am_T := am_tm 716 (by decide +kernel) rfl
theorem cv_L_26 : am_cvB RL 26 mX8_tells 0 = true := am_cv_of yb_X8_tells yi_X8_tells yl_X8_tells (am_tm 714 (by decide +kernel) rfl)
theorem yb_X7_levels : am_yB mX7_levels 3 := ⟨am_tm 1 (by decide +kernel) rfl, am_tm 500 (by decide +kernel) rfl, by decide +kernel, Nat.le_of_ble_eq_true rfl⟩
theorem yi_X7_levels : Cond.instanceMethod mX7_levels.1 ∈ am_T := am_tm 498 (by decide +kernel) rfl
theorem yl_X7_levels : Cond.selects mX7_levels.1.cls mX7_levels.1 mX7_levels.1 ∈ am_T := am_tm 499 (by decide +kernel) rfl
theorem cv_L_27 : am_cvB RL 27 mX7_levels 3 = true := am_cv_of yb_X7_levels yi_X7_levels yl_X7_levels (am_tm 497 (by decide +kernel) rfl)
theorem yb_X8_levels : am_yB mX8_levels 3 := ⟨am_tm 13 (by decide +kernel) rfl, am_tm 757 (by decide +kernel) rfl, by decide +kernel, Nat.le_of_ble_eq_true rfl⟩
theorem yi_X8_levels : Cond.instanceMethod mX8_levels.1 ∈ am_T := am_tm 755 (by decide +kernel) rfl
theorem yl_X8_levels : Cond.selects mX8_levels.1.cls mX8_levels.1 mX8_levels.1 ∈ am_T := am_tm 756 (by decide +kernel) rfl
theorem cv_L_31 : am_cvB RL 31 mX8_levels 3 = true := am_cv_of yb_X8_levels yi_X8_levels yl_X8_levels (am_tm 754 (by decide +kernel) rfl)
theorem yb_X7_sets : am_yB mX7_sets 2 := ⟨am_tm 1 (by decide +kernel) rfl, am_tm 507 (by decide +kernel) rfl, by decide +kernel, Nat.le_of_ble_eq_true rfl⟩
theorem yi_X7_sets : Cond.instanceMethod mX7_sets.1 ∈ am_T := am_tm 505 (by decide +kernel) rfl
theorem yl_X7_sets : Cond.selects mX7_sets.1.cls mX7_sets.1 mX7_sets.1 ∈ am_T := am_tm 506 (by decide +kernel) rfl
theorem cv_L_32 : am_cvB RL 32 mX7_sets 2 = true := am_cv_of yb_X7_sets yi_X7_sets yl_X7_sets (am_tm 504 (by decide +kernel) rfl)
theorem yb_X8_sets : am_yB mX8_sets 2 := ⟨am_tm 13 (by decide +kernel) rfl, am_tm 769 (by decide +kernel) rfl, by decide +kernel, Nat.le_of_ble_eq_true rfl⟩
theorem yi_X8_sets : Cond.instanceMethod mX8_sets.1 ∈ am_T := am_tm 767 (by decide +kernel) rfl
theorem yl_X8_sets : Cond.selects mX8_sets.1.cls mX8_sets.1 mX8_sets.1 ∈ am_T := am_tm 768 (by decide +kernel) rfl
theorem cv_L_36 : am_cvB RL 36 mX8_sets 2 = true := am_cv_of yb_X8_sets yi_X8_sets yl_X8_sets (am_tm 766 (by decide +kernel) rfl)
theorem yb_X7_undo : am_yB mX7_undo 0 := ⟨am_tm 1 (by decide +kernel) rfl, am_tm 512 (by decide +kernel) rfl, by decide +kernel, Nat.le_of_ble_eq_true rfl⟩
theorem yi_X7_undo : Cond.instanceMethod mX7_undo.1 ∈ am_T := am_tm 510 (by decide +kernel) rfl
theorem yl_X7_undo : Cond.selects mX7_undo.1.cls mX7_undo.1 mX7_undo.1 ∈ am_T := am_tm 511 (by decide +kernel) rfl
theorem cv_L_37 : am_cvB RL 37 mX7_undo 0 = true := am_cv_of yb_X7_undo yi_X7_undo yl_X7_undo (am_tm 509 (by decide +kernel) rfl)
theorem yb_X8_undo : am_yB mX8_undo 0 := ⟨am_tm 13 (by decide +kernel) rfl, am_tm 773 (by decide +kernel) rfl, by decide +kernel, Nat.le_of_ble_eq_true rfl⟩
theorem yi_X8_undo : Cond.instanceMethod mX8_undo.1 ∈ am_T := am_tm 771 (by decide +kernel) rfl
theorem yl_X8_undo : Cond.selects mX8_undo.1.cls mX8_undo.1 mX8_undo.1 ∈ am_T := am_tm 772 (by decide +kernel) rfl
theorem cv_L_40 : am_cvB RL 40 mX8_undo 0 = true := am_cv_of yb_X8_undo yi_X8_undo yl_X8_undo (am_tm 770 (by decide +kernel) rfl)
theorem yb_X7_level : am_yB mX7_level 2 := ⟨am_tm 1 (by decide +kernel) rfl, am_tm 520 (by decide +kernel) rfl, by decide +kernel, Nat.le_of_ble_eq_true rfl⟩
theorem yi_X7_level : Cond.instanceMethod mX7_level.1 ∈ am_T := am_tm 518 (by decide +kernel) rfl
theorem yl_X7_level : Cond.selects mX7_level.1.cls mX7_level.1 mX7_level.1 ∈ am_T := am_tm 519 (by decide +kernel) rfl
theorem cv_L_41 : am_cvB RL 41 mX7_level 2 = true := am_cv_of yb_X7_level yi_X7_level yl_X7_level (am_tm 517 (by decide +kernel) rfl)
theorem yb_X8_level : am_yB mX8_level 2 := ⟨am_tm 13 (by decide +kernel) rfl, am_tm 777 (by decide +kernel) rfl, by decide +kernel, Nat.le_of_ble_eq_true rfl⟩
theorem yi_X8_level : Cond.instanceMethod mX8_level.1 ∈ am_T := am_tm 775 (by decide +kernel) rfl
theorem yl_X8_level : Cond.selects mX8_level.1.cls mX8_level.1 mX8_level.1 ∈ am_T := am_tm 776 (by decide +kernel) rfl
theorem cv_L_44 : am_cvB RL 44 mX8_level 2 = true := am_cv_of yb_X8_level yi_X8_level yl_X8_level (am_tm 774 (by decide +kernel) rfl)
theorem yb_X7_peak : am_yB mX7_peak 3 := ⟨am_tm 1 (by decide +kernel) rfl, am_tm 524 (by decide +kernel) rfl, by decide +kernel, Nat.le_of_ble_eq_true rfl⟩
theorem yi_X7_peak : Cond.instanceMethod mX7_peak.1 ∈ am_T := am_tm 522 (by decide +kernel) rfl
theorem yl_X7_peak : Cond.selects mX7_peak.1.cls mX7_peak.1 mX7_peak.1 ∈ am_T := am_tm 523 (by decide +kernel) rfl
theorem cv_L_45 : am_cvB RL 45 mX7_peak 3 = true := am_cv_of yb_X7_peak yi_X7_peak yl_X7_peak (am_tm 521 (by decide +kernel) rfl)
theorem yb_X8_peak : am_yB mX8_peak 3 := ⟨am_tm 13 (by decide +kernel) rfl, am_tm 785 (by decide +kernel) rfl, by decide +kernel, Nat.le_of_ble_eq_true rfl⟩
theorem yi_X8_peak : Cond.instanceMethod mX8_peak.1 ∈ am_T := am_tm 783 (by decide +kernel) rfl
theorem yl_X8_peak : Cond.selects mX8_peak.1.cls mX8_peak.1 mX8_peak.1 ∈ am_T := am_tm 784 (by decide +kernel) rfl
theorem cv_L_48 : am_cvB RL 48 mX8_peak 3 = true := am_cv_of yb_X8_peak yi_X8_peak yl_X8_peak (am_tm 782 (by decide +kernel) rfl)
theorem yb_X7_frame : am_yB mX7_frame 2 := ⟨am_tm 1 (by decide +kernel) rfl, am_tm 530 (by decide +kernel) rfl, by decide +kernel, Nat.le_of_ble_eq_true rfl⟩
theorem yi_X7_frame : Cond.instanceMethod mX7_frame.1 ∈ am_T := am_tm 528 (by decide +kernel) rfl
theorem yl_X7_frame : Cond.selects mX7_frame.1.cls mX7_frame.1 mX7_frame.1 ∈ am_T := am_tm 529 (by decide +kernel) rfl
theorem cv_L_49 : am_cvB RL 49 mX7_frame 2 = true := am_cv_of yb_X7_frame yi_X7_frame yl_X7_frame (am_tm 527 (by decide +kernel) rfl)
theorem yb_X8_frame : am_yB mX8_frame 2 := ⟨am_tm 13 (by decide +kernel) rfl, am_tm 834 (by decide +kernel) rfl, by decide +kernel, Nat.le_of_ble_eq_true rfl⟩
theorem yi_X8_frame : Cond.instanceMethod mX8_frame.1 ∈ am_T := am_tm 832 (by decide +kernel) rfl
theorem yl_X8_frame : Cond.selects mX8_frame.1.cls mX8_frame.1 mX8_frame.1 ∈ am_T := am_tm 833 (by decide +kernel) rfl
theorem cv_L_52 : am_cvB RL 52 mX8_frame 2 = true := am_cv_of yb_X8_frame yi_X8_frame yl_X8_frame (am_tm 831 (by decide +kernel) rfl)
theorem yb_X7_track : am_yB mX7_track 2 := ⟨am_tm 1 (by decide +kernel) rfl, am_tm 550 (by decide +kernel) rfl, by decide +kernel, Nat.le_of_ble_eq_true rfl⟩
theorem yi_X7_track : Cond.instanceMethod mX7_track.1 ∈ am_T := am_tm 548 (by decide +kernel) rfl
theorem yl_X7_track : Cond.selects mX7_track.1.cls mX7_track.1 mX7_track.1 ∈ am_T := am_tm 549 (by decide +kernel) rfl
theorem cv_L_53 : am_cvB RL 53 mX7_track 2 = true := am_cv_of yb_X7_track yi_X7_track yl_X7_track (am_tm 547 (by decide +kernel) rfl)
theorem yb_X8_track : am_yB mX8_track 2 := ⟨am_tm 13 (by decide +kernel) rfl, am_tm 858 (by decide +kernel) rfl, by decide +kernel, Nat.le_of_ble_eq_true rfl⟩
theorem yi_X8_track : Cond.instanceMethod mX8_track.1 ∈ am_T := am_tm 856 (by decide +kernel) rfl
theorem yl_X8_track : Cond.selects mX8_track.1.cls mX8_track.1 mX8_track.1 ∈ am_T := am_tm 857 (by decide +kernel) rfl
theorem cv_L_56 : am_cvB RL 56 mX8_track 2 = true := am_cv_of yb_X8_track yi_X8_track yl_X8_track (am_tm 855 (by decide +kernel) rfl)
theorem yb_X7_pitch : am_yB mX7_pitch 2 := ⟨am_tm 1 (by decide +kernel) rfl, am_tm 559 (by decide +kernel) rfl, by decide +kernel, Nat.le_of_ble_eq_true rfl⟩
theorem yi_X7_pitch : Cond.instanceMethod mX7_pitch.1 ∈ am_T := am_tm 557 (by decide +kernel) rfl
theorem yl_X7_pitch : Cond.selects mX7_pitch.1.cls mX7_pitch.1 mX7_pitch.1 ∈ am_T := am_tm 558 (by decide +kernel) rfl
theorem cv_L_57 : am_cvB RL 57 mX7_pitch 2 = true := am_cv_of yb_X7_pitch yi_X7_pitch yl_X7_pitch (am_tm 556 (by decide +kernel) rfl)
theorem yb_X8_pitch : am_yB mX8_pitch 2 := ⟨am_tm 13 (by decide +kernel) rfl, am_tm 882 (by decide +kernel) rfl, by decide +kernel, Nat.le_of_ble_eq_true rfl⟩
theorem yi_X8_pitch : Cond.instanceMethod mX8_pitch.1 ∈ am_T := am_tm 880 (by decide +kernel) rfl
theorem yl_X8_pitch : Cond.selects mX8_pitch.1.cls mX8_pitch.1 mX8_pitch.1 ∈ am_T := am_tm 881 (by decide +kernel) rfl
theorem cv_L_60 : am_cvB RL 60 mX8_pitch 2 = true := am_cv_of yb_X8_pitch yi_X8_pitch yl_X8_pitch (am_tm 879 (by decide +kernel) rfl)
theorem yb_X7_best : am_yB mX7_best 1 := ⟨am_tm 1 (by decide +kernel) rfl, am_tm 563 (by decide +kernel) rfl, by decide +kernel, Nat.le_of_ble_eq_true rfl⟩
theorem yi_X7_best : Cond.instanceMethod mX7_best.1 ∈ am_T := am_tm 561 (by decide +kernel) rfl
theorem yl_X7_best : Cond.selects mX7_best.1.cls mX7_best.1 mX7_best.1 ∈ am_T := am_tm 562 (by decide +kernel) rfl
theorem cv_L_61 : am_cvB RL 61 mX7_best 1 = true := am_cv_of yb_X7_best yi_X7_best yl_X7_best (am_tm 560 (by decide +kernel) rfl)
theorem yb_X8_best : am_yB mX8_best 1 := ⟨am_tm 13 (by decide +kernel) rfl, am_tm 890 (by decide +kernel) rfl, by decide +kernel, Nat.le_of_ble_eq_true rfl⟩
theorem yi_X8_best : Cond.instanceMethod mX8_best.1 ∈ am_T := am_tm 888 (by decide +kernel) rfl
theorem yl_X8_best : Cond.selects mX8_best.1.cls mX8_best.1 mX8_best.1 ∈ am_T := am_tm 889 (by decide +kernel) rfl
theorem cv_L_64 : am_cvB RL 64 mX8_best 1 = true := am_cv_of yb_X8_best yi_X8_best yl_X8_best (am_tm 887 (by decide +kernel) rfl)
theorem yb_X7_sees : am_yB mX7_sees 2 := ⟨am_tm 1 (by decide +kernel) rfl, am_tm 572 (by decide +kernel) rfl, by decide +kernel, Nat.le_of_ble_eq_true rfl⟩
theorem yi_X7_sees : Cond.instanceMethod mX7_sees.1 ∈ am_T := am_tm 570 (by decide +kernel) rfl
theorem yl_X7_sees : Cond.selects mX7_sees.1.cls mX7_sees.1 mX7_sees.1 ∈ am_T := am_tm 571 (by decide +kernel) rfl
theorem cv_L_65 : am_cvB RL 65 mX7_sees 2 = true := am_cv_of yb_X7_sees yi_X7_sees yl_X7_sees (am_tm 569 (by decide +kernel) rfl)
theorem yb_X8_sees : am_yB mX8_sees 2 := ⟨am_tm 13 (by decide +kernel) rfl, am_tm 894 (by decide +kernel) rfl, by decide +kernel, Nat.le_of_ble_eq_true rfl⟩
theorem yi_X8_sees : Cond.instanceMethod mX8_sees.1 ∈ am_T := am_tm 892 (by decide +kernel) rfl
theorem yl_X8_sees : Cond.selects mX8_sees.1.cls mX8_sees.1 mX8_sees.1 ∈ am_T := am_tm 893 (by decide +kernel) rfl
theorem cv_L_68 : am_cvB RL 68 mX8_sees 2 = true := am_cv_of yb_X8_sees yi_X8_sees yl_X8_sees (am_tm 891 (by decide +kernel) rfl)
theorem yb_X7_forget : am_yB mX7_forget 0 := ⟨am_tm 1 (by decide +kernel) rfl, am_tm 580 (by decide +kernel) rfl, by decide +kernel, Nat.le_of_ble_eq_true rfl⟩
theorem yi_X7_forget : Cond.instanceMethod mX7_forget.1 ∈ am_T := am_tm 578 (by decide +kernel) rfl
theorem yl_X7_forget : Cond.selects mX7_forget.1.cls mX7_forget.1 mX7_forget.1 ∈ am_T := am_tm 579 (by decide +kernel) rfl
theorem cv_L_69 : am_cvB RL 69 mX7_forget 0 = true := am_cv_of yb_X7_forget yi_X7_forget yl_X7_forget (am_tm 577 (by decide +kernel) rfl)
theorem yb_X8_forget : am_yB mX8_forget 0 := ⟨am_tm 13 (by decide +kernel) rfl, am_tm 898 (by decide +kernel) rfl, by decide +kernel, Nat.le_of_ble_eq_true rfl⟩
theorem yi_X8_forget : Cond.instanceMethod mX8_forget.1 ∈ am_T := am_tm 896 (by decide +kernel) rfl
theorem yl_X8_forget : Cond.selects mX8_forget.1.cls mX8_forget.1 mX8_forget.1 ∈ am_T := am_tm 897 (by decide +kernel) rfl
theorem cv_L_72 : am_cvB RL 72 mX8_forget 0 = true := am_cv_of yb_X8_forget yi_X8_forget yl_X8_forget (am_tm 895 (by decide +kernel) rfl)
theorem yb_X7_which : am_yB mX7_which 1 := ⟨am_tm 1 (by decide +kernel) rfl, am_tm 584 (by decide +kernel) rfl, by decide +kernel, Nat.le_of_ble_eq_true rfl⟩
theorem yi_X7_which : Cond.instanceMethod mX7_which.1 ∈ am_T := am_tm 582 (by decide +kernel) rfl
theorem yl_X7_which : Cond.selects mX7_which.1.cls mX7_which.1 mX7_which.1 ∈ am_T := am_tm 583 (by decide +kernel) rfl
theorem cv_L_73 : am_cvB RL 73 mX7_which 1 = true := am_cv_of yb_X7_which yi_X7_which yl_X7_which (am_tm 581 (by decide +kernel) rfl)
theorem yb_X8_which : am_yB mX8_which 1 := ⟨am_tm 13 (by decide +kernel) rfl, am_tm 902 (by decide +kernel) rfl, by decide +kernel, Nat.le_of_ble_eq_true rfl⟩
theorem yi_X8_which : Cond.instanceMethod mX8_which.1 ∈ am_T := am_tm 900 (by decide +kernel) rfl
theorem yl_X8_which : Cond.selects mX8_which.1.cls mX8_which.1 mX8_which.1 ∈ am_T := am_tm 901 (by decide +kernel) rfl
theorem cv_L_76 : am_cvB RL 76 mX8_which 1 = true := am_cv_of yb_X8_which yi_X8_which yl_X8_which (am_tm 899 (by decide +kernel) rfl)
theorem yb_X7_listen : am_yB mX7_listen 0 := ⟨am_tm 1 (by decide +kernel) rfl, am_tm 597 (by decide +kernel) rfl, by decide +kernel, Nat.le_of_ble_eq_true rfl⟩
theorem yi_X7_listen : Cond.instanceMethod mX7_listen.1 ∈ am_T := am_tm 595 (by decide +kernel) rfl
theorem yl_X7_listen : Cond.selects mX7_listen.1.cls mX7_listen.1 mX7_listen.1 ∈ am_T := am_tm 596 (by decide +kernel) rfl
theorem cv_L_77 : am_cvB RL 77 mX7_listen 0 = true := am_cv_of yb_X7_listen yi_X7_listen yl_X7_listen (am_tm 594 (by decide +kernel) rfl)
theorem yb_X8_listen : am_yB mX8_listen 0 := ⟨am_tm 13 (by decide +kernel) rfl, am_tm 910 (by decide +kernel) rfl, by decide +kernel, Nat.le_of_ble_eq_true rfl⟩
theorem yi_X8_listen : Cond.instanceMethod mX8_listen.1 ∈ am_T := am_tm 908 (by decide +kernel) rfl
theorem yl_X8_listen : Cond.selects mX8_listen.1.cls mX8_listen.1 mX8_listen.1 ∈ am_T := am_tm 909 (by decide +kernel) rfl
theorem cv_L_80 : am_cvB RL 80 mX8_listen 0 = true := am_cv_of yb_X8_listen yi_X8_listen yl_X8_listen (am_tm 907 (by decide +kernel) rfl)
theorem yb_X7_keep : am_yB mX7_keep 1 := ⟨am_tm 1 (by decide +kernel) rfl, am_tm 607 (by decide +kernel) rfl, by decide +kernel, Nat.le_of_ble_eq_true rfl⟩
theorem yi_X7_keep : Cond.instanceMethod mX7_keep.1 ∈ am_T := am_tm 605 (by decide +kernel) rfl
theorem yl_X7_keep : Cond.selects mX7_keep.1.cls mX7_keep.1 mX7_keep.1 ∈ am_T := am_tm 606 (by decide +kernel) rfl
theorem cv_L_81 : am_cvB RL 81 mX7_keep 1 = true := am_cv_of yb_X7_keep yi_X7_keep yl_X7_keep (am_tm 604 (by decide +kernel) rfl)
theorem yb_X8_keep : am_yB mX8_keep 1 := ⟨am_tm 13 (by decide +kernel) rfl, am_tm 918 (by decide +kernel) rfl, by decide +kernel, Nat.le_of_ble_eq_true rfl⟩
theorem yi_X8_keep : Cond.instanceMethod mX8_keep.1 ∈ am_T := am_tm 916 (by decide +kernel) rfl
theorem yl_X8_keep : Cond.selects mX8_keep.1.cls mX8_keep.1 mX8_keep.1 ∈ am_T := am_tm 917 (by decide +kernel) rfl
theorem cv_L_84 : am_cvB RL 84 mX8_keep 1 = true := am_cv_of yb_X8_keep yi_X8_keep yl_X8_keep (am_tm 915 (by decide +kernel) rfl)
theorem yb_X7_back : am_yB mX7_back 1 := ⟨am_tm 1 (by decide +kernel) rfl, am_tm 611 (by decide +kernel) rfl, by decide +kernel, Nat.le_of_ble_eq_true rfl⟩
theorem yi_X7_back : Cond.instanceMethod mX7_back.1 ∈ am_T := am_tm 609 (by decide +kernel) rfl
theorem yl_X7_back : Cond.selects mX7_back.1.cls mX7_back.1 mX7_back.1 ∈ am_T := am_tm 610 (by decide +kernel) rfl
theorem cv_L_85 : am_cvB RL 85 mX7_back 1 = true := am_cv_of yb_X7_back yi_X7_back yl_X7_back (am_tm 608 (by decide +kernel) rfl)
theorem yb_X8_back : am_yB mX8_back 1 := ⟨am_tm 13 (by decide +kernel) rfl, am_tm 922 (by decide +kernel) rfl, by decide +kernel, Nat.le_of_ble_eq_true rfl⟩
theorem yi_X8_back : Cond.instanceMethod mX8_back.1 ∈ am_T := am_tm 920 (by decide +kernel) rfl
theorem yl_X8_back : Cond.selects mX8_back.1.cls mX8_back.1 mX8_back.1 ∈ am_T := am_tm 921 (by decide +kernel) rfl
theorem cv_L_88 : am_cvB RL 88 mX8_back 1 = true := am_cv_of yb_X8_back yi_X8_back yl_X8_back (am_tm 919 (by decide +kernel) rfl)
theorem yb_X7_count : am_yB mX7_count 1 := ⟨am_tm 1 (by decide +kernel) rfl, am_tm 615 (by decide +kernel) rfl, by decide +kernel, Nat.le_of_ble_eq_true rfl⟩
theorem yi_X7_count : Cond.instanceMethod mX7_count.1 ∈ am_T := am_tm 613 (by decide +kernel) rfl
theorem yl_X7_count : Cond.selects mX7_count.1.cls mX7_count.1 mX7_count.1 ∈ am_T := am_tm 614 (by decide +kernel) rfl
theorem cv_L_89 : am_cvB RL 89 mX7_count 1 = true := am_cv_of yb_X7_count yi_X7_count yl_X7_count (am_tm 612 (by decide +kernel) rfl)
theorem yb_X8_count : am_yB mX8_count 1 := ⟨am_tm 13 (by decide +kernel) rfl, am_tm 926 (by decide +kernel) rfl, by decide +kernel, Nat.le_of_ble_eq_true rfl⟩
theorem yi_X8_count : Cond.instanceMethod mX8_count.1 ∈ am_T := am_tm 924 (by decide +kernel) rfl
theorem yl_X8_count : Cond.selects mX8_count.1.cls mX8_count.1 mX8_count.1 ∈ am_T := am_tm 925 (by decide +kernel) rfl
theorem cv_L_92 : am_cvB RL 92 mX8_count 1 = true := am_cv_of yb_X8_count yi_X8_count yl_X8_count (am_tm 923 (by decide +kernel) rfl)
end
section
/-! truth values on the abstract machine's stack -/
def am_b (P : Prop) [Decidable P] : Int := if P then 1 else 0
theorem am_b_pos {P : Prop} [Decidable P] (h : P) : am_b P = 1 := if_pos h
theorem am_b_neg {P : Prop} [Decidable P] (h : ¬ P) : am_b P = 0 := if_neg h
theorem am_b_01 (P : Prop) [Decidable P] : am_b P = 0 ∨ am_b P = 1 := by
  by_cases h : P
  · exact Or.inr (am_b_pos h)
  · exact Or.inl (am_b_neg h)
theorem am_b_r (P : Prop) [Decidable P] : -2147483648 ≤ am_b P ∧ am_b P < 2147483648 := by
  rcases am_b_01 P with h | h <;> rw [h] <;> decide
theorem am_b_congr {P P' : Prop} [Decidable P] [Decidable P'] (h : P ↔ P') : am_b P = am_b P' := by
  by_cases hp : P
  · rw [am_b_pos hp, am_b_pos (h.mp hp)]
  · rw [am_b_neg hp, am_b_neg (fun q => hp (h.mpr q))]
section AMB
variable {d : Nat} {mm : am_mm} {pc : Nat} {L L' : List (Nat × am_v)} {st : List am_v} {M : am_M} {Q : Option Int → am_M → Prop}
theorem aw_ifb_eq {P : Prop} [Decidable P] {off : Int} {tgt : Nat} (hd : decode mm.2.1 pc = .ok (.ifCond .eq off, 3)) (ht : (pc : Int) + off = (tgt : Int)) (kt : ¬ P → AW d mm tgt L st M Q) (kf : P → AW d mm (pc + 3) L st M Q) : AW d mm pc L (.inl (am_b P) :: st) M Q := by
  refine aw_if_eq hd ht (am_b_r P) (fun c => kt (fun h => ?_)) (fun c => ?_)
  · rw [am_b_pos h] at c; exact absurd c (by decide)
  · by_cases h : P
    · exact kf h
    · exact absurd (am_b_neg h) c
theorem aw_ifb_ne {P : Prop} [Decidable P] {off : Int} {tgt : Nat} (hd : decode mm.2.1 pc = .ok (.ifCond .ne off, 3)) (ht : (pc : Int) + off = (tgt : Int)) (kt : P → AW d mm tgt L st M Q) (kf : ¬ P → AW d mm (pc + 3) L st M Q) : AW d mm pc L (.inl (am_b P) :: st) M Q := by
  refine aw_if_ne hd ht (am_b_r P) (fun c => ?_) (fun c => kf (fun h => ?_))
  · by_cases h : P
    · exact kt h
    · exact absurd (am_b_neg h) c
  · rw [am_b_pos h] at c; exact absurd c (by decide)
theorem aw_bret {P : Prop} [Decidable P] (hd : decode mm.2.1 pc = .ok (.ireturn, 1)) (hr : mm.2.2.2 = some .boolean) (h : Q (some (am_b P)) M) : AW d mm pc L [.inl (am_b P)] M Q := aw_zret hd hr (am_b_01 P) h
end AMB
/-- memory read behind a write -/
theorem am_up_same (M : am_M) (a : Nat) (i z : Int) : am_up M a i z a i = z := by simp [am_up]
theorem am_up_idx (M : am_M) (a : Nat) {i j z : Int} (h : j ≠ i) : am_up M a i z a j = M a j := by simp [am_up, h]
theorem am_up_cell (M : am_M) {a b : Nat} (h : b ≠ a) (i z j : Int) : am_up M a i z b j = M b j := by simp [am_up, h]
theorem am_cp_in (M : am_M) (a : Nat) (sp : Int) (b : Nat) {dp n j : Int} (h : dp ≤ j ∧ j < dp + n) : am_cp M a sp b dp n b j = M a (sp + (j - dp)) := by simp [am_cp, h]
theorem am_cp_out (M : am_M) (a : Nat) (sp : Int) (b : Nat) {dp n j : Int} (h : ¬ (dp ≤ j ∧ j < dp + n)) : am_cp M a sp b dp n b j = M b j := by simp [am_cp, h]
theorem am_cp_cell (M : am_M) (a : Nat) (sp : Int) {b c : Nat} (h : c ≠ b) (dp n j : Int) : am_cp M a sp b dp n c j = M c j := by simp [am_cp, h]
abbrev am_r (x : Int) : Prop := -2147483648 ≤ x ∧ x < 2147483648
def am_abs (x : Int) : Int := if x < 0 then -x else x
def am_cmp (x y : Int) : Int := if x < y then -1 else if x = y then 0 else 1
section AMJ
variable {d : Nat} {mm : am_mm} {pc : Nat} {L L' : List (Nat × am_v)} {st : List am_v} {M : am_M} {Q : Option Int → am_M → Prop}
theorem aw_max {idx : Nat} {x y : Int} {rest : List am_v} (hd : decode mm.2.1 pc = .ok (.invokestatic idx, 3)) (hw : am_csB mm.1.cls idx mJ9_max_7cf53 2 = true) (hdd : 0 < d) (hr : rest.length ≤ 8) (hx : am_r x ∧ am_r y) (kk : AW d mm (pc + 3) L (.inl (max x y) :: rest) M Q) : AW d mm pc L (.inl y :: .inl x :: rest) M Q := by
  intro p l e s m args below meth c D dA ad H locs ls C hP hS hl
  obtain ⟨hx', hb, hr', hml, hlk, hown, hts, hK, hinj, hC⟩ := id C
  unfold am_csB at hw
  simp only [Bool.and_eq_true, decide_eq_true_eq] at hw
  obtain ⟨hw, w6⟩ := hw
  obtain ⟨w1, w2, w3, -, -⟩ := am_cB_spec hw
  have h := kk p l e s m args below meth c D dA ad H locs ls C hP hS hl
  refine va_mmax hx' hb (hml.trans hl.1.symm) hown (hts _ (am_mem w1)) (hts _ (am_mem w6)) (hts _ (am_mem w2)) (hts _ (am_mem w3)) (by show 1 ≤ d; omega) (by rw [am_cats]; show _ + 13 ≤ 39 * d; omega) (Nat.zero_le _) (Nat.zero_le _) hd ?_
  have e9 : (if Int32.ofInt x < Int32.ofInt y then Int32.ofInt y else Int32.ofInt x) = Int32.ofInt (max x y) := by
    by_cases hq : x < y
    · rw [if_pos ((am_lt hx.1 hx.2).mpr hq), Int.max_eq_right (by omega)]
    · rw [if_neg (fun z => hq ((am_lt hx.1 hx.2).mp z)), Int.max_eq_left (by omega)]
  rw [e9]
  exact h
theorem aw_min {idx : Nat} {x y : Int} {rest : List am_v} (hd : decode mm.2.1 pc = .ok (.invokestatic idx, 3)) (hw : am_csB mm.1.cls idx mJ9_min_7cf53 2 = true) (hdd : 0 < d) (hr : rest.length ≤ 8) (hx : am_r x ∧ am_r y) (kk : AW d mm (pc + 3) L (.inl (min x y) :: rest) M Q) : AW d mm pc L (.inl y :: .inl x :: rest) M Q := by
  intro p l e s m args below meth c D dA ad H locs ls C hP hS hl
  obtain ⟨hx', hb, hr', hml, hlk, hown, hts, hK, hinj, hC⟩ := id C
  unfold am_csB at hw
  simp only [Bool.and_eq_true, decide_eq_true_eq] at hw
  obtain ⟨hw, w6⟩ := hw
  obtain ⟨w1, w2, w3, -, -⟩ := am_cB_spec hw
  have h := kk p l e s m args below meth c D dA ad H locs ls C hP hS hl
  refine va_mmin hx' hb (hml.trans hl.1.symm) hown (hts _ (am_mem w1)) (hts _ (am_mem w6)) (hts _ (am_mem w2)) (hts _ (am_mem w3)) (by show 1 ≤ d; omega) (by rw [am_cats]; show _ + 13 ≤ 39 * d; omega) (Nat.zero_le _) (Nat.zero_le _) hd ?_
  have e9 : (if Int32.ofInt y < Int32.ofInt x then Int32.ofInt y else Int32.ofInt x) = Int32.ofInt (min x y) := by
    by_cases hq : y < x
    · rw [if_pos ((am_lt hx.2 hx.1).mpr hq), Int.min_eq_right (by omega)]
    · rw [if_neg (fun z => hq ((am_lt hx.2 hx.1).mp z)), Int.min_eq_left (by omega)]
  rw [e9]
  exact h
theorem aw_abs {idx : Nat} {x : Int} {rest : List am_v} (hd : decode mm.2.1 pc = .ok (.invokestatic idx, 3)) (hw : am_csB mm.1.cls idx mJ9_abs_0f7a4 1 = true) (hdd : 0 < d) (hr : rest.length ≤ 8) (hx : am_r x) (kk : AW d mm (pc + 3) L (.inl (am_abs x) :: rest) M Q) : AW d mm pc L (.inl x :: rest) M Q := by
  intro p l e s m args below meth c D dA ad H locs ls C hP hS hl
  obtain ⟨hx', hb, hr', hml, hlk, hown, hts, hK, hinj, hC⟩ := id C
  unfold am_csB at hw
  simp only [Bool.and_eq_true, decide_eq_true_eq] at hw
  obtain ⟨hw, w6⟩ := hw
  obtain ⟨w1, w2, w3, -, -⟩ := am_cB_spec hw
  have h := kk p l e s m args below meth c D dA ad H locs ls C hP hS hl
  refine va_mabs hx' hb (hml.trans hl.1.symm) hown (hts _ (am_mem w1)) (hts _ (am_mem w6)) (hts _ (am_mem w2)) (hts _ (am_mem w3)) (by show 1 ≤ d; omega) (by rw [am_cats]; show _ + 13 ≤ 39 * d; omega) (Nat.zero_le _) (Nat.zero_le _) hd ?_
  have e9 : (if 0 ≤ Int32.ofInt x then Int32.ofInt x else 0 - Int32.ofInt x) = Int32.ofInt (am_abs x) := by
    by_cases hq : x < 0
    · rw [if_neg (fun z => by have := (am_le am_r0 hx).mp z; omega), show am_abs x = 0 - x by simp only [am_abs, hq, if_true]; omega, Int32.ofInt_sub]
      rfl
    · rw [if_pos (show (0 : Int32) ≤ Int32.ofInt x from (am_le am_r0 hx).mpr (by omega)), show am_abs x = x by simp only [am_abs, hq, if_false]]
  rw [e9]
  exact h
end AMJ
end
section
/-! walks, by program: what is left of each is its verification condition -/
theorem sg_J6_compare_7cf53 {d : Nat} {M : am_M} {Q : Option Int → am_M → Prop} {x y : Int} (h : (((am_r x) ∧ (am_r y))) ∧
 ∀ (v5 : Int), (y ≤ x → x ≠ y → v5 = 1) →
 (y ≤ x → x = y → v5 = 0) →
 (x < y → v5 = (-1)) →
 Q (some v5) M) : AC (d) mJ6_compare_7cf53 [.inl x, .inl y] M Q := by
  refine aw_body (by decide) (Nat.le_of_ble_eq_true rfl) rfl ?_
  refine aw_iload_n dJ6_compare_7cf53_0 rfl (j := 0) rfl ?_
  refine aw_iload_n dJ6_compare_7cf53_1 rfl (j := 1) rfl ?_
  obtain ⟨g, h⟩ := h
  have K : ∀ (v5 : Int), (y ≤ x → x ≠ y → v5 = 1) → (y ≤ x → x = y → v5 = 0) → (x < y → v5 = (-1)) → AW (d) mJ6_compare_7cf53 19 [(0, .inl x), (1, .inl y)] [.inl v5] M Q := by
    intro v5 q6 q7 q8
    replace h := h v5 q6 q7 q8
    exact aw_iret dJ6_compare_7cf53_19 rfl h
  clear h
  obtain ⟨s1, g⟩ := g
  have s2 := g
  refine aw_icmp_ge dJ6_compare_7cf53_2 (tgt := 9) rfl s1 s2 (fun c3 => ?_) (fun c3 => ?_)
  · have c3 : y ≤ x := c3
    refine aw_iload_n dJ6_compare_7cf53_9 rfl (j := 0) rfl ?_
    refine aw_iload_n dJ6_compare_7cf53_10 rfl (j := 1) rfl ?_
    refine aw_icmp_ne dJ6_compare_7cf53_11 (tgt := 18) rfl s1 s2 (fun c4 => ?_) (fun c4 => ?_)
    · have c4 : x ≠ y := c4
      refine aw_iconst dJ6_compare_7cf53_18 ?_
      exact K 1 (fun _ _ => rfl) (fun q0 q1 => by first | omega | exact absurd c4 q1 | exact absurd q1 c4) (fun q0 => by first | omega | exact absurd c3 q0 | exact absurd q0 c3)
    · have c4 : x = y := c4
      refine aw_iconst dJ6_compare_7cf53_14 ?_
      refine aw_goto dJ6_compare_7cf53_15 (tgt := 19) rfl ?_
      exact K 0 (fun q0 q1 => by first | omega | exact absurd c4 q1 | exact absurd q1 c4) (fun _ _ => rfl) (fun q0 => by first | omega | exact absurd c3 q0 | exact absurd q0 c3)
  · have c3 : x < y := c3
    refine aw_iconst dJ6_compare_7cf53_5 ?_
    refine aw_goto dJ6_compare_7cf53_6 (tgt := 19) rfl ?_
    exact K (-1) (fun q0 q1 => by first | omega | exact absurd c3 q0 | exact absurd q0 c3) (fun q0 q1 => by first | omega | exact absurd c3 q0 | exact absurd q0 c3) (fun _ => rfl)
theorem sg_X8_in {d : Nat} {M : am_M} {Q : Option Int → am_M → Prop} {x lo hi : Int} (h : (((am_r x) ∧ (am_r lo) ∧ (lo ≤ x → (am_r hi)))) ∧
 Q (some (am_b ((lo ≤ x) ∧ (x ≤ hi)))) M) : AC (d) mX8_in [.inl x, .inl lo, .inl hi] M Q := by
  refine aw_body (by decide) (Nat.le_of_ble_eq_true rfl) rfl ?_
  refine aw_iload_n dX8_in_0 rfl (j := 0) rfl ?_
  refine aw_iload_n dX8_in_1 rfl (j := 1) rfl ?_
  obtain ⟨g, h⟩ := h
  have K : AW (d) mX8_in 15 [(0, .inl x), (1, .inl lo), (2, .inl hi)] [.inl (am_b ((lo ≤ x) ∧ (x ≤ hi)))] M Q := by
    exact aw_bret dX8_in_15 rfl h
  clear h
  obtain ⟨s1, g⟩ := g
  obtain ⟨s2, g⟩ := g
  refine aw_icmp_lt dX8_in_2 (tgt := 14) rfl s1 s2 (fun c3 => ?_) (fun c3 => ?_)
  · have c3 : x < lo := c3
    refine aw_iconst dX8_in_14 ?_
    have hp : ¬ ((lo ≤ x) ∧ (x ≤ hi)) := by first | omega | simp_all
    have K1 := K
    rw [am_b_neg hp] at K1
    exact K1
  · have c3 : lo ≤ x := c3
    replace g := g c3
    refine aw_iload_n dX8_in_5 rfl (j := 0) rfl ?_
    refine aw_iload_n dX8_in_6 rfl (j := 2) rfl ?_
    have s4 := g
    refine aw_icmp_gt dX8_in_7 (tgt := 14) rfl s1 s4 (fun c5 => ?_) (fun c5 => ?_)
    · have c5 : hi < x := c5
      refine aw_iconst dX8_in_14 ?_
      have hp : ¬ ((lo ≤ x) ∧ (x ≤ hi)) := by first | omega | simp_all
      have K1 := K
      rw [am_b_neg hp] at K1
      exact K1
    · have c5 : x ≤ hi := c5
      refine aw_iconst dX8_in_10 ?_
      refine aw_goto dX8_in_11 (tgt := 15) rfl ?_
      have hp : (lo ≤ x) ∧ (x ≤ hi) := by first | omega | simp_all
      have K1 := K
      rw [am_b_pos hp] at K1
      exact K1
theorem sg_J7_fill_53178 {d : Nat} {M : am_M} {Q : Option Int → am_M → Prop} {a n : Nat} (ha : am_sh[a]? = some (.inl (0, n))) {v : Int} (h : AW (d) mJ7_fill_53178 5 [(0, .inr a), (1, .inl v), (2, .inl 0), (3, .inl (n : Nat))] [] M Q) : AC (d) mJ7_fill_53178 [.inr a, .inl v] M Q := by
  refine aw_body (by decide) (Nat.le_of_ble_eq_true rfl) rfl ?_
  refine aw_iconst dJ7_fill_53178_0 ?_
  refine aw_istore_n (L' := [(0, .inr a), (1, .inl v), (2, .inl 0)]) dJ7_fill_53178_1 rfl (Nat.le_of_ble_eq_true rfl) rfl ?_
  refine aw_aload_n dJ7_fill_53178_2 rfl (j := 0) rfl ?_
  refine aw_alen dJ7_fill_53178_3 ha ?_
  refine aw_istore_n (L' := [(0, .inr a), (1, .inl v), (2, .inl 0), (3, .inl (n : Nat))]) dJ7_fill_53178_4 rfl (Nat.le_of_ble_eq_true rfl) rfl ?_
  exact h
theorem sg_J7_fill_53178_5 {d : Nat} {M : am_M} {Q : Option Int → am_M → Prop} {a n : Nat} (ha : am_sh[a]? = some (.inl (0, n))) {v i m : Int} (h : (am_r i) ∧
 (am_r m) ∧
 ((m ≤ i →
 Q none M) ∧
 (i < m →
 (0 ≤ i ∧ i < n) ∧
 AW (d) mJ7_fill_53178 5 [(0, .inr a), (1, .inl v), (2, .inl (i + 1)), (3, .inl m)] [] (am_up M a i v) Q))) : AW (d) mJ7_fill_53178 5 [(0, .inr a), (1, .inl v), (2, .inl i), (3, .inl m)] [] M Q := by
  refine aw_iload_n dJ7_fill_53178_5 rfl (j := 2) rfl ?_
  refine aw_iload_n dJ7_fill_53178_6 rfl (j := 3) rfl ?_
  obtain ⟨s1, h⟩ := h
  obtain ⟨s2, h⟩ := h
  refine aw_icmp_ge dJ7_fill_53178_7 (tgt := 20) rfl s1 s2 (fun c3 => ?_) (fun c3 => ?_)
  · replace h := h.1 c3
    exact aw_vret dJ7_fill_53178_20 rfl h
  · replace h := h.2 c3
    refine aw_aload_n dJ7_fill_53178_10 rfl (j := 0) rfl ?_
    refine aw_iload_n dJ7_fill_53178_11 rfl (j := 2) rfl ?_
    refine aw_iload_n dJ7_fill_53178_12 rfl (j := 1) rfl ?_
    obtain ⟨s4, h⟩ := h
    refine aw_iastore dJ7_fill_53178_13 ha s4 ?_
    refine aw_iinc (L' := [(0, .inr a), (1, .inl v), (2, .inl (i + 1)), (3, .inl m)]) dJ7_fill_53178_14 (j := 2) rfl (Nat.le_of_ble_eq_true rfl) rfl ?_
    refine aw_goto dJ7_fill_53178_17 (tgt := 5) rfl ?_
    exact h
theorem sg_X8_worthOf {d : Nat} {M : am_M} {Q : Option Int → am_M → Prop} {k m : Int} (h : (0 ≤ (7 * k) + m ∧ (7 * k) + m < 49) ∧
 Q (some (M 74 ((7 * k) + m))) M) : AC (d) mX8_worthOf [.inr 62, .inl k, .inl m] M Q := by
  refine aw_body (by decide) (Nat.le_of_ble_eq_true rfl) rfl ?_
  refine aw_aload_n dX8_worthOf_0 rfl (j := 0) rfl ?_
  refine aw_getr dX8_worthOf_1 fl_X8_45 rfl rfl ?_
  refine aw_bipush dX8_worthOf_4 (by decide) ?_
  refine aw_iload_n dX8_worthOf_6 rfl (j := 1) rfl ?_
  refine aw_imul dX8_worthOf_7 ?_
  refine aw_iload_n dX8_worthOf_8 rfl (j := 2) rfl ?_
  refine aw_iadd dX8_worthOf_9 ?_
  obtain ⟨s1, h⟩ := h
  refine aw_iaload dX8_worthOf_10 rfl s1 ?_
  exact aw_iret dX8_worthOf_11 rfl h
end
section
/-! small methods, as functions -/
theorem fc_compare {d : Nat} {M : am_M} {Q : Option Int → am_M → Prop} {x y : Int} (hr : am_r x ∧ am_r y) (h : Q (some (am_cmp x y)) M) : AC d mJ6_compare_7cf53 [.inl x, .inl y] M Q := by
  refine sg_J6_compare_7cf53 ⟨hr, fun v h1 h2 h3 => ?_⟩
  have e : v = am_cmp x y := by
    unfold am_cmp
    split
    · omega
    · split <;> omega
  rw [e]
  exact h
theorem fc_in {d : Nat} {M : am_M} {Q : Option Int → am_M → Prop} {x lo hi : Int} (hr : am_r x ∧ am_r lo ∧ am_r hi) (h : Q (some (am_b (lo ≤ x ∧ x ≤ hi))) M) : AC d mX8_in [.inl x, .inl lo, .inl hi] M Q :=
  sg_X8_in ⟨⟨hr.1, hr.2.1, fun _ => hr.2.2⟩, h⟩
theorem fc_worthOf {d : Nat} {M : am_M} {Q : Option Int → am_M → Prop} {k m : Int} (hr : 0 ≤ 7 * k + m ∧ 7 * k + m < 49) (h : Q (some (M 74 (7 * k + m))) M) : AC d mX8_worthOf [.inr 62, .inl k, .inl m] M Q := sg_X8_worthOf ⟨hr, h⟩
/-- Arrays.fill -/
def am_fill (M : am_M) (a n : Nat) (v : Int) : am_M := fun c j => if c = a then (if 0 ≤ j ∧ j < n then v else M c j) else M c j
theorem fc_fill {d : Nat} {M : am_M} {Q : Option Int → am_M → Prop} {a n : Nat} (ha : am_sh[a]? = some (.inl (0, n))) {v : Int} (h : Q none (am_fill M a n v)) : AC d mJ7_fill_53178 [.inr a, .inl v] M Q := by
  have hn := am_small a 0 n ha
  refine sg_J7_fill_53178 ha ?_
  have key : ∀ (k : Nat) (i : Int) (M' : am_M), 0 ≤ i → i + k = n → (∀ c j, (c ≠ a ∨ j < 0 ∨ i ≤ j) → M' c j = M c j) → (∀ j, 0 ≤ j → j < i → M' a j = v) → AW d mJ7_fill_53178 5 [(0, .inr a), (1, .inl v), (2, .inl i), (3, .inl (n : Int))] [] M' Q := by
    intro k
    induction k with
    | zero =>
      intro i M' h0 h1 h2 h3
      refine sg_J7_fill_53178_5 ha ⟨by omega, by omega, fun _ => ?_, fun c => absurd c (by omega)⟩
      have e : M' = am_fill M a n v := by
        funext c j
        unfold am_fill
        by_cases hc : c = a
        · subst hc
          by_cases hj : 0 ≤ j ∧ j < n
          · rw [if_pos rfl, if_pos hj]; exact h3 j hj.1 (by omega)
          · rw [if_pos rfl, if_neg hj]; exact h2 c j (by omega)
        · rw [if_neg hc]; exact h2 c j (Or.inl hc)
      rw [e]
      exact h
    | succ k ih =>
      intro i M' h0 h1 h2 h3
      refine sg_J7_fill_53178_5 ha ⟨by omega, by omega, fun c => absurd c (by omega), fun _ => ⟨by omega, ?_⟩⟩
      refine ih (i + 1) _ (by omega) (by omega) (fun c j hcj => ?_) (fun j hj1 hj2 => ?_)
      · unfold am_up
        by_cases hc : c = a
        · subst hc
          rw [if_pos rfl, if_neg (by omega)]
          exact h2 c j (by omega)
        · rw [if_neg hc]; exact h2 c j (Or.inl hc)
      · by_cases hj : j = i
        · subst hj; exact am_up_same _ _ _ _
        · rw [am_up_idx _ _ hj]; exact h3 j hj1 (by omega)
  exact key n 0 M (by omega) (by omega) (fun _ _ _ => rfl) (fun j h1 h2 => absurd h1 (by omega))
end
section
def am_sc (a : Nat) : Prop := am_sh[a]? = some (.inr (3, [none, none, some (a + 1), some (a + 2)])) ∧ am_sh[a + 1]? = some (.inl (0, 3)) ∧ am_sh[a + 2]? = some (.inl (0, 96))
theorem sg_X3_hasFrame {d : Nat} {M : am_M} {Q : Option Int → am_M → Prop} {a : Nat} (ha : am_sc a) {f : Int} (h : (((am_r f) ∧ (0 ≤ f → (am_r (M a 0))))) ∧
 Q (some (am_b ((0 ≤ f) ∧ (f < M a 0)))) M) : AC (d) mX3_hasFrame [.inr a, .inl f] M Q := by
  refine aw_body (by decide) (Nat.le_of_ble_eq_true rfl) rfl ?_
  refine aw_iload_n dX3_hasFrame_0 rfl (j := 1) rfl ?_
  obtain ⟨g, h⟩ := h
  have K : AW (d) mX3_hasFrame 17 [(0, .inr a), (1, .inl f)] [.inl (am_b ((0 ≤ f) ∧ (f < M a 0)))] M Q := by
    exact aw_bret dX3_hasFrame_17 rfl h
  clear h
  obtain ⟨s1, g⟩ := g
  refine aw_if_lt dX3_hasFrame_1 (tgt := 16) rfl s1 (fun c2 => ?_) (fun c2 => ?_)
  · have c2 : f < 0 := c2
    refine aw_iconst dX3_hasFrame_16 ?_
    have hp : ¬ ((0 ≤ f) ∧ (f < M a 0)) := by first | omega | simp_all
    have K1 := K
    rw [am_b_neg hp] at K1
    exact K1
  · have c2 : 0 ≤ f := c2
    replace g := g c2
    refine aw_iload_n dX3_hasFrame_4 rfl (j := 1) rfl ?_
    refine aw_aload_n dX3_hasFrame_5 rfl (j := 0) rfl ?_
    refine aw_getf dX3_hasFrame_6 fl_X3_21 ha.1 rfl rfl ?_
    have s3 := g
    refine aw_icmp_ge dX3_hasFrame_9 (tgt := 16) rfl s1 s3 (fun c4 => ?_) (fun c4 => ?_)
    · have c4 : M a 0 ≤ f := c4
      refine aw_iconst dX3_hasFrame_16 ?_
      have hp : ¬ ((0 ≤ f) ∧ (f < M a 0)) := by first | omega | simp_all
      have K1 := K
      rw [am_b_neg hp] at K1
      exact K1
    · have c4 : f < M a 0 := c4
      refine aw_iconst dX3_hasFrame_12 ?_
      refine aw_goto dX3_hasFrame_13 (tgt := 17) rfl ?_
      have hp : (0 ≤ f) ∧ (f < M a 0) := by first | omega | simp_all
      have K1 := K
      rw [am_b_pos hp] at K1
      exact K1
theorem sg_X8_at {d : Nat} {M : am_M} {Q : Option Int → am_M → Prop} {k : Int} (h : (((am_r k) ∧ (am_r (M 62 10)) ∧ (k < M 62 10 → ((0 ≤ k ∧ k < 140) ∧ (-128 ≤ M 69 k ∧ M 69 k < 128))))) ∧
 ∀ (v6 : Int), (M 62 10 ≤ k → v6 = (-1)) →
 (k < M 62 10 → v6 = (M 69 k) % 256) →
 Q (some v6) M) : AC (d) mX8_at [.inr 62, .inl k] M Q := by
  refine aw_body (by decide) (Nat.le_of_ble_eq_true rfl) rfl ?_
  refine aw_iload_n dX8_at_0 rfl (j := 1) rfl ?_
  refine aw_aload_n dX8_at_1 rfl (j := 0) rfl ?_
  refine aw_getf dX8_at_2 fl_X8_60 rfl rfl rfl ?_
  obtain ⟨g, h⟩ := h
  have K : ∀ (v6 : Int), (M 62 10 ≤ k → v6 = (-1)) → (k < M 62 10 → v6 = (M 69 k) % 256) → AW (d) mX8_at 22 [(0, .inr 62), (1, .inl k)] [.inl v6] M Q := by
    intro v6 q7 q8
    replace h := h v6 q7 q8
    exact aw_iret dX8_at_22 rfl h
  clear h
  obtain ⟨s1, g⟩ := g
  obtain ⟨s2, g⟩ := g
  refine aw_icmp_ge dX8_at_5 (tgt := 21) rfl s1 s2 (fun c3 => ?_) (fun c3 => ?_)
  · have c3 : M 62 10 ≤ k := c3
    refine aw_iconst dX8_at_21 ?_
    exact K (-1) (fun _ => rfl) (fun q0 => by first | omega | exact absurd c3 q0 | exact absurd q0 c3)
  · have c3 : k < M 62 10 := c3
    replace g := g c3
    refine aw_aload_n dX8_at_8 rfl (j := 0) rfl ?_
    refine aw_getr dX8_at_9 fl_X8_29 rfl rfl ?_
    refine aw_iload_n dX8_at_12 rfl (j := 1) rfl ?_
    obtain ⟨s4, g⟩ := g
    refine aw_baload dX8_at_13 rfl s4 ?_
    refine aw_sipush dX8_at_14 (by decide) ?_
    have s5 := g
    refine aw_iand255 dX8_at_17 s5 ?_
    refine aw_goto dX8_at_18 (tgt := 22) rfl ?_
    exact K ((M 69 k) % 256) (fun q0 => by first | omega | exact absurd c3 q0 | exact absurd q0 c3) (fun _ => rfl)
theorem sg_X8_levelAt {d : Nat} {M : am_M} {Q : Option Int → am_M → Prop} {f p : Int} (h : (am_r p ∧ am_r 0 ∧ am_r ((M 63 1) - 1)) ∧
 ((0 ≤ p ∧ p ≤ (M 63 1) - 1 → (0 ≤ (5 + (12 * f)) + p ∧ (5 + (12 * f)) + p < 101))) ∧
 ∀ (v4 : Int), (¬ (0 ≤ p ∧ p ≤ (M 63 1) - 1) → v4 = 0) →
 (0 ≤ p ∧ p ≤ (M 63 1) - 1 → v4 = M 63 ((5 + (12 * f)) + p)) →
 Q (some v4) M) : AC (d + 1) mX8_levelAt [.inr 62, .inl f, .inl p] M Q := by
  refine aw_body (by decide) (Nat.le_of_ble_eq_true rfl) rfl ?_
  refine aw_iload_n dX8_levelAt_0 rfl (j := 2) rfl ?_
  refine aw_iconst dX8_levelAt_1 ?_
  refine aw_aload_n dX8_levelAt_2 rfl (j := 0) rfl ?_
  refine aw_getr dX8_levelAt_3 fl_X8_7 rfl rfl ?_
  refine aw_iconst dX8_levelAt_6 ?_
  refine aw_iaload dX8_levelAt_7 rfl (by decide) ?_
  refine aw_iconst dX8_levelAt_8 ?_
  refine aw_isub dX8_levelAt_9 ?_
  obtain ⟨s1, h⟩ := h
  refine aw_invs (d' := d) (as := [.inl p, .inl 0, .inl ((M 63 1) - 1)]) (rest := []) dX8_levelAt_10 cs_X8_56 (Nat.lt_succ_self _) rfl rfl (Nat.le_of_ble_eq_true rfl) (fc_in s1 ?_)
  show AW (d + 1) mX8_levelAt 13 [(0, .inr 62), (1, .inl f), (2, .inl p)] [.inl (am_b (0 ≤ p ∧ p ≤ (M 63 1) - 1))] M Q
  obtain ⟨g, h⟩ := h
  have K : ∀ (v4 : Int), (¬ (0 ≤ p ∧ p ≤ (M 63 1) - 1) → v4 = 0) → (0 ≤ p ∧ p ≤ (M 63 1) - 1 → v4 = M 63 ((5 + (12 * f)) + p)) → AW (d + 1) mX8_levelAt 33 [(0, .inr 62), (1, .inl f), (2, .inl p)] [.inl v4] M Q := by
    intro v4 q5 q6
    replace h := h v4 q5 q6
    exact aw_iret dX8_levelAt_33 rfl h
  clear h
  refine aw_ifb_eq dX8_levelAt_13 (tgt := 32) rfl (fun c2 => ?_) (fun c2 => ?_)
  · have c2 : ¬ (0 ≤ p ∧ p ≤ (M 63 1) - 1) := c2
    refine aw_iconst dX8_levelAt_32 ?_
    exact K 0 (fun _ => rfl) (fun q0 => by first | omega | exact absurd c2 q0 | exact absurd q0 c2)
  · have c2 : 0 ≤ p ∧ p ≤ (M 63 1) - 1 := c2
    replace g := g c2
    refine aw_aload_n dX8_levelAt_16 rfl (j := 0) rfl ?_
    refine aw_getr dX8_levelAt_17 fl_X8_7 rfl rfl ?_
    refine aw_iconst dX8_levelAt_20 ?_
    refine aw_bipush dX8_levelAt_21 (by decide) ?_
    refine aw_iload_n dX8_levelAt_23 rfl (j := 1) rfl ?_
    refine aw_imul dX8_levelAt_24 ?_
    refine aw_iadd dX8_levelAt_25 ?_
    refine aw_iload_n dX8_levelAt_26 rfl (j := 2) rfl ?_
    refine aw_iadd dX8_levelAt_27 ?_
    have s3 := g
    refine aw_iaload dX8_levelAt_28 rfl s3 ?_
    refine aw_goto dX8_levelAt_29 (tgt := 33) rfl ?_
    exact K (M 63 ((5 + (12 * f)) + p)) (fun q0 => by first | omega | exact absurd c2 q0 | exact absurd q0 c2) (fun _ => rfl)
theorem sg_X5_kindAt {d : Nat} {M : am_M} {Q : Option Int → am_M → Prop} {k : Int} (h : (am_r k) ∧
 ((k < 0 →
 Q (some 0) M) ∧
 (0 ≤ k →
 (am_r (M 7 0)) ∧
 ((k < M 7 0 →
 (0 ≤ k ∧ k < 140) ∧
 (am_r (M 8 k)) ∧
 ((M 8 k < 97 →
 ((M 8 k < 48 →
 ∀ (v10 : Int), (M 8 k ≠ 59 → v10 = 4) →
 (M 8 k = 59 → v10 = 3) →
 Q (some v10) M) ∧
 (48 ≤ M 8 k →
 ((57 < M 8 k →
 ∀ (v15 : Int), (M 8 k ≠ 59 → v15 = 4) →
 (M 8 k = 59 → v15 = 3) →
 Q (some v15) M) ∧
 (M 8 k ≤ 57 →
 Q (some 2) M))))) ∧
 (97 ≤ M 8 k →
 ((122 < M 8 k →
 ((M 8 k < 48 →
 ∀ (v21 : Int), (M 8 k ≠ 59 → v21 = 4) →
 (M 8 k = 59 → v21 = 3) →
 Q (some v21) M) ∧
 (48 ≤ M 8 k →
 ((57 < M 8 k →
 ∀ (v26 : Int), (M 8 k ≠ 59 → v26 = 4) →
 (M 8 k = 59 → v26 = 3) →
 Q (some v26) M) ∧
 (M 8 k ≤ 57 →
 Q (some 2) M))))) ∧
 (M 8 k ≤ 122 →
 Q (some 1) M))))) ∧
 (M 7 0 ≤ k →
 Q (some 0) M))))) : AC (d) mX5_kindAt [.inr 7, .inl k] M Q := by
  refine aw_body (by decide) (Nat.le_of_ble_eq_true rfl) rfl ?_
  refine aw_iload_n dX5_kindAt_0 rfl (j := 1) rfl ?_
  obtain ⟨s1, h⟩ := h
  refine aw_if_lt dX5_kindAt_1 (tgt := 12) rfl s1 (fun c2 => ?_) (fun c2 => ?_)
  · replace h := h.1 c2
    refine aw_iconst dX5_kindAt_12 ?_
    exact aw_iret dX5_kindAt_13 rfl h
  · replace h := h.2 c2
    refine aw_iload_n dX5_kindAt_4 rfl (j := 1) rfl ?_
    refine aw_aload_n dX5_kindAt_5 rfl (j := 0) rfl ?_
    refine aw_getf dX5_kindAt_6 fl_X5_15 rfl rfl rfl ?_
    obtain ⟨s3, h⟩ := h
    refine aw_icmp_lt dX5_kindAt_9 (tgt := 14) rfl s1 s3 (fun c4 => ?_) (fun c4 => ?_)
    · replace h := h.1 c4
      refine aw_aload_n dX5_kindAt_14 rfl (j := 0) rfl ?_
      refine aw_getr dX5_kindAt_15 fl_X5_9 rfl rfl ?_
      refine aw_iload_n dX5_kindAt_18 rfl (j := 1) rfl ?_
      obtain ⟨s5, h⟩ := h
      refine aw_caload dX5_kindAt_19 rfl s5 ?_
      refine aw_istore_n (L' := [(0, .inr 7), (1, .inl k), (2, .inl (M 8 k))]) dX5_kindAt_20 rfl (Nat.le_of_ble_eq_true rfl) rfl ?_
      refine aw_iload_n dX5_kindAt_21 rfl (j := 2) rfl ?_
      refine aw_bipush dX5_kindAt_22 (by decide) ?_
      obtain ⟨s6, h⟩ := h
      refine aw_icmp_lt dX5_kindAt_24 (tgt := 35) rfl s6 (by decide) (fun c7 => ?_) (fun c7 => ?_)
      · replace h := h.1 c7
        refine aw_iload_n dX5_kindAt_35 rfl (j := 2) rfl ?_
        refine aw_bipush dX5_kindAt_36 (by decide) ?_
        refine aw_icmp_lt dX5_kindAt_38 (tgt := 49) rfl s6 (by decide) (fun c8 => ?_) (fun c8 => ?_)
        · replace h := h.1 c8
          refine aw_iload_n dX5_kindAt_49 rfl (j := 2) rfl ?_
          refine aw_bipush dX5_kindAt_50 (by decide) ?_
          have K : ∀ (v10 : Int), (M 8 k ≠ 59 → v10 = 4) → (M 8 k = 59 → v10 = 3) → AW (d) mX5_kindAt 60 [(0, .inr 7), (1, .inl k), (2, .inl (M 8 k))] [.inl v10] M Q := by
            intro v10 q11 q12
            replace h := h v10 q11 q12
            exact aw_iret dX5_kindAt_60 rfl h
          clear h
          refine aw_icmp_ne dX5_kindAt_52 (tgt := 59) rfl s6 (by decide) (fun c9 => ?_) (fun c9 => ?_)
          · have c9 : M 8 k ≠ 59 := c9
            refine aw_iconst dX5_kindAt_59 ?_
            exact K 4 (fun _ => rfl) (fun q0 => by first | omega | exact absurd c9 q0 | exact absurd q0 c9)
          · have c9 : M 8 k = 59 := c9
            refine aw_iconst dX5_kindAt_55 ?_
            refine aw_goto dX5_kindAt_56 (tgt := 60) rfl ?_
            exact K 3 (fun q0 => by first | omega | exact absurd c9 q0 | exact absurd q0 c9) (fun _ => rfl)
        · replace h := h.2 c8
          refine aw_iload_n dX5_kindAt_41 rfl (j := 2) rfl ?_
          refine aw_bipush dX5_kindAt_42 (by decide) ?_
          refine aw_icmp_gt dX5_kindAt_44 (tgt := 49) rfl s6 (by decide) (fun c13 => ?_) (fun c13 => ?_)
          · replace h := h.1 c13
            refine aw_iload_n dX5_kindAt_49 rfl (j := 2) rfl ?_
            refine aw_bipush dX5_kindAt_50 (by decide) ?_
            have K : ∀ (v15 : Int), (M 8 k ≠ 59 → v15 = 4) → (M 8 k = 59 → v15 = 3) → AW (d) mX5_kindAt 60 [(0, .inr 7), (1, .inl k), (2, .inl (M 8 k))] [.inl v15] M Q := by
              intro v15 q16 q17
              replace h := h v15 q16 q17
              exact aw_iret dX5_kindAt_60 rfl h
            clear h
            refine aw_icmp_ne dX5_kindAt_52 (tgt := 59) rfl s6 (by decide) (fun c14 => ?_) (fun c14 => ?_)
            · have c14 : M 8 k ≠ 59 := c14
              refine aw_iconst dX5_kindAt_59 ?_
              exact K 4 (fun _ => rfl) (fun q0 => by first | omega | exact absurd c14 q0 | exact absurd q0 c14)
            · have c14 : M 8 k = 59 := c14
              refine aw_iconst dX5_kindAt_55 ?_
              refine aw_goto dX5_kindAt_56 (tgt := 60) rfl ?_
              exact K 3 (fun q0 => by first | omega | exact absurd c14 q0 | exact absurd q0 c14) (fun _ => rfl)
          · replace h := h.2 c13
            refine aw_iconst dX5_kindAt_47 ?_
            exact aw_iret dX5_kindAt_48 rfl h
      · replace h := h.2 c7
        refine aw_iload_n dX5_kindAt_27 rfl (j := 2) rfl ?_
        refine aw_bipush dX5_kindAt_28 (by decide) ?_
        refine aw_icmp_gt dX5_kindAt_30 (tgt := 35) rfl s6 (by decide) (fun c18 => ?_) (fun c18 => ?_)
        · replace h := h.1 c18
          refine aw_iload_n dX5_kindAt_35 rfl (j := 2) rfl ?_
          refine aw_bipush dX5_kindAt_36 (by decide) ?_
          refine aw_icmp_lt dX5_kindAt_38 (tgt := 49) rfl s6 (by decide) (fun c19 => ?_) (fun c19 => ?_)
          · replace h := h.1 c19
            refine aw_iload_n dX5_kindAt_49 rfl (j := 2) rfl ?_
            refine aw_bipush dX5_kindAt_50 (by decide) ?_
            have K : ∀ (v21 : Int), (M 8 k ≠ 59 → v21 = 4) → (M 8 k = 59 → v21 = 3) → AW (d) mX5_kindAt 60 [(0, .inr 7), (1, .inl k), (2, .inl (M 8 k))] [.inl v21] M Q := by
              intro v21 q22 q23
              replace h := h v21 q22 q23
              exact aw_iret dX5_kindAt_60 rfl h
            clear h
            refine aw_icmp_ne dX5_kindAt_52 (tgt := 59) rfl s6 (by decide) (fun c20 => ?_) (fun c20 => ?_)
            · have c20 : M 8 k ≠ 59 := c20
              refine aw_iconst dX5_kindAt_59 ?_
              exact K 4 (fun _ => rfl) (fun q0 => by first | omega | exact absurd c20 q0 | exact absurd q0 c20)
            · have c20 : M 8 k = 59 := c20
              refine aw_iconst dX5_kindAt_55 ?_
              refine aw_goto dX5_kindAt_56 (tgt := 60) rfl ?_
              exact K 3 (fun q0 => by first | omega | exact absurd c20 q0 | exact absurd q0 c20) (fun _ => rfl)
          · replace h := h.2 c19
            refine aw_iload_n dX5_kindAt_41 rfl (j := 2) rfl ?_
            refine aw_bipush dX5_kindAt_42 (by decide) ?_
            refine aw_icmp_gt dX5_kindAt_44 (tgt := 49) rfl s6 (by decide) (fun c24 => ?_) (fun c24 => ?_)
            · replace h := h.1 c24
              refine aw_iload_n dX5_kindAt_49 rfl (j := 2) rfl ?_
              refine aw_bipush dX5_kindAt_50 (by decide) ?_
              have K : ∀ (v26 : Int), (M 8 k ≠ 59 → v26 = 4) → (M 8 k = 59 → v26 = 3) → AW (d) mX5_kindAt 60 [(0, .inr 7), (1, .inl k), (2, .inl (M 8 k))] [.inl v26] M Q := by
                intro v26 q27 q28
                replace h := h v26 q27 q28
                exact aw_iret dX5_kindAt_60 rfl h
              clear h
              refine aw_icmp_ne dX5_kindAt_52 (tgt := 59) rfl s6 (by decide) (fun c25 => ?_) (fun c25 => ?_)
              · have c25 : M 8 k ≠ 59 := c25
                refine aw_iconst dX5_kindAt_59 ?_
                exact K 4 (fun _ => rfl) (fun q0 => by first | omega | exact absurd c25 q0 | exact absurd q0 c25)
              · have c25 : M 8 k = 59 := c25
                refine aw_iconst dX5_kindAt_55 ?_
                refine aw_goto dX5_kindAt_56 (tgt := 60) rfl ?_
                exact K 3 (fun q0 => by first | omega | exact absurd c25 q0 | exact absurd q0 c25) (fun _ => rfl)
            · replace h := h.2 c24
              refine aw_iconst dX5_kindAt_47 ?_
              exact aw_iret dX5_kindAt_48 rfl h
        · replace h := h.2 c18
          refine aw_iconst dX5_kindAt_33 ?_
          exact aw_iret dX5_kindAt_34 rfl h
    · replace h := h.2 c4
      refine aw_iconst dX5_kindAt_12 ?_
      exact aw_iret dX5_kindAt_13 rfl h
theorem sg_X6_pitchIn {d : Nat} {M : am_M} {Q : Option Int → am_M → Prop} {n f : Int} (h : (am_r n) ∧
 ((n < 0 →
 Q (some (-9)) M) ∧
 (0 ≤ n →
 (am_r (M 41 0)) ∧
 ((M 41 0 ≤ n →
 Q (some (-9)) M) ∧
 (n < M 41 0 →
 (am_r f) ∧
 ((f < 0 →
 Q (some (-9)) M) ∧
 (0 ≤ f →
 ((f < 8 →
 (0 ≤ (n * 8) + f ∧ (n * 8) + f < 384) ∧
 Q (some (M 48 ((n * 8) + f))) M) ∧
 (8 ≤ f →
 Q (some (-9)) M))))))))) : AC (d) mX6_pitchIn [.inr 41, .inl n, .inl f] M Q := by
  refine aw_body (by decide) (Nat.le_of_ble_eq_true rfl) rfl ?_
  refine aw_iload_n dX6_pitchIn_0 rfl (j := 1) rfl ?_
  obtain ⟨s1, h⟩ := h
  refine aw_if_lt dX6_pitchIn_1 (tgt := 22) rfl s1 (fun c2 => ?_) (fun c2 => ?_)
  · replace h := h.1 c2
    refine aw_bipush dX6_pitchIn_22 (by decide) ?_
    exact aw_iret dX6_pitchIn_24 rfl h
  · replace h := h.2 c2
    refine aw_iload_n dX6_pitchIn_4 rfl (j := 1) rfl ?_
    refine aw_aload_n dX6_pitchIn_5 rfl (j := 0) rfl ?_
    refine aw_getf dX6_pitchIn_6 fl_X6_39 rfl rfl rfl ?_
    obtain ⟨s3, h⟩ := h
    refine aw_icmp_ge dX6_pitchIn_9 (tgt := 22) rfl s1 s3 (fun c4 => ?_) (fun c4 => ?_)
    · replace h := h.1 c4
      refine aw_bipush dX6_pitchIn_22 (by decide) ?_
      exact aw_iret dX6_pitchIn_24 rfl h
    · replace h := h.2 c4
      refine aw_iload_n dX6_pitchIn_12 rfl (j := 2) rfl ?_
      obtain ⟨s5, h⟩ := h
      refine aw_if_lt dX6_pitchIn_13 (tgt := 22) rfl s5 (fun c6 => ?_) (fun c6 => ?_)
      · replace h := h.1 c6
        refine aw_bipush dX6_pitchIn_22 (by decide) ?_
        exact aw_iret dX6_pitchIn_24 rfl h
      · replace h := h.2 c6
        refine aw_iload_n dX6_pitchIn_16 rfl (j := 2) rfl ?_
        refine aw_bipush dX6_pitchIn_17 (by decide) ?_
        refine aw_icmp_lt dX6_pitchIn_19 (tgt := 25) rfl s5 (by decide) (fun c7 => ?_) (fun c7 => ?_)
        · replace h := h.1 c7
          refine aw_aload_n dX6_pitchIn_25 rfl (j := 0) rfl ?_
          refine aw_getr dX6_pitchIn_26 fl_X6_30 rfl rfl ?_
          refine aw_iload_n dX6_pitchIn_29 rfl (j := 1) rfl ?_
          refine aw_bipush dX6_pitchIn_30 (by decide) ?_
          refine aw_imul dX6_pitchIn_32 ?_
          refine aw_iload_n dX6_pitchIn_33 rfl (j := 2) rfl ?_
          refine aw_iadd dX6_pitchIn_34 ?_
          obtain ⟨s8, h⟩ := h
          refine aw_iaload dX6_pitchIn_35 rfl s8 ?_
          exact aw_iret dX6_pitchIn_36 rfl h
        · replace h := h.2 c7
          refine aw_bipush dX6_pitchIn_22 (by decide) ?_
          exact aw_iret dX6_pitchIn_24 rfl h
theorem sg_X7_isSetting {d : Nat} {M : am_M} {Q : Option Int → am_M → Prop} {w n : Int} (h : (((am_r w) ∧ (0 ≤ w → (w < 3 → ((0 ≤ w ∧ w < 3) ∧ (am_r n) ∧ (am_r (am_lo.getD w.toNat 0)) ∧ (am_lo.getD w.toNat 0 ≤ n → (am_r (am_hi.getD w.toNat 0)))))))) ∧
 Q (some (am_b ((0 ≤ w) ∧ (w < 3) ∧ (am_lo.getD w.toNat 0 ≤ n) ∧ (n ≤ am_hi.getD w.toNat 0)))) M) : AC (d) mX7_isSetting [.inl w, .inl n] M Q := by
  refine aw_body (by decide) (Nat.le_of_ble_eq_true rfl) rfl ?_
  refine aw_iload_n dX7_isSetting_0 rfl (j := 0) rfl ?_
  obtain ⟨g, h⟩ := h
  have K : AW (d) mX7_isSetting 32 [(0, .inl w), (1, .inl n)] [.inl (am_b ((0 ≤ w) ∧ (w < 3) ∧ (am_lo.getD w.toNat 0 ≤ n) ∧ (n ≤ am_hi.getD w.toNat 0)))] M Q := by
    exact aw_bret dX7_isSetting_32 rfl h
  clear h
  obtain ⟨s1, g⟩ := g
  refine aw_if_lt dX7_isSetting_1 (tgt := 31) rfl s1 (fun c2 => ?_) (fun c2 => ?_)
  · have c2 : w < 0 := c2
    refine aw_iconst dX7_isSetting_31 ?_
    have hp : ¬ ((0 ≤ w) ∧ (w < 3) ∧ (am_lo.getD w.toNat 0 ≤ n) ∧ (n ≤ am_hi.getD w.toNat 0)) := by first | omega | simp_all
    have K1 := K
    rw [am_b_neg hp] at K1
    exact K1
  · have c2 : 0 ≤ w := c2
    replace g := g c2
    refine aw_iload_n dX7_isSetting_4 rfl (j := 0) rfl ?_
    refine aw_iconst dX7_isSetting_5 ?_
    refine aw_icmp_ge dX7_isSetting_6 (tgt := 31) rfl s1 (by decide) (fun c3 => ?_) (fun c3 => ?_)
    · have c3 : 3 ≤ w := c3
      refine aw_iconst dX7_isSetting_31 ?_
      have hp : ¬ ((0 ≤ w) ∧ (w < 3) ∧ (am_lo.getD w.toNat 0 ≤ n) ∧ (n ≤ am_hi.getD w.toNat 0)) := by first | omega | simp_all
      have K1 := K
      rw [am_b_neg hp] at K1
      exact K1
    · have c3 : w < 3 := c3
      replace g := g c3
      refine aw_iload_n dX7_isSetting_9 rfl (j := 1) rfl ?_
      refine aw_gets100 dX7_isSetting_10 gs_X7_185 ?_
      refine aw_iload_n dX7_isSetting_13 rfl (j := 0) rfl ?_
      obtain ⟨s4, g⟩ := g
      refine aw_iald100 dX7_isSetting_14 s4 ?_
      obtain ⟨s5, g⟩ := g
      obtain ⟨s6, g⟩ := g
      refine aw_icmp_lt dX7_isSetting_15 (tgt := 31) rfl s5 s6 (fun c7 => ?_) (fun c7 => ?_)
      · have c7 : n < am_lo.getD w.toNat 0 := c7
        refine aw_iconst dX7_isSetting_31 ?_
        have hp : ¬ ((0 ≤ w) ∧ (w < 3) ∧ (am_lo.getD w.toNat 0 ≤ n) ∧ (n ≤ am_hi.getD w.toNat 0)) := by first | omega | simp_all
        have K1 := K
        rw [am_b_neg hp] at K1
        exact K1
      · have c7 : am_lo.getD w.toNat 0 ≤ n := c7
        replace g := g c7
        refine aw_iload_n dX7_isSetting_18 rfl (j := 1) rfl ?_
        refine aw_gets101 dX7_isSetting_19 gs_X7_188 ?_
        refine aw_iload_n dX7_isSetting_22 rfl (j := 0) rfl ?_
        refine aw_iald101 dX7_isSetting_23 s4 ?_
        have s8 := g
        refine aw_icmp_gt dX7_isSetting_24 (tgt := 31) rfl s5 s8 (fun c9 => ?_) (fun c9 => ?_)
        · have c9 : am_hi.getD w.toNat 0 < n := c9
          refine aw_iconst dX7_isSetting_31 ?_
          have hp : ¬ ((0 ≤ w) ∧ (w < 3) ∧ (am_lo.getD w.toNat 0 ≤ n) ∧ (n ≤ am_hi.getD w.toNat 0)) := by first | omega | simp_all
          have K1 := K
          rw [am_b_neg hp] at K1
          exact K1
        · have c9 : n ≤ am_hi.getD w.toNat 0 := c9
          refine aw_iconst dX7_isSetting_27 ?_
          refine aw_goto dX7_isSetting_28 (tgt := 32) rfl ?_
          have hp : (0 ≤ w) ∧ (w < 3) ∧ (am_lo.getD w.toNat 0 ≤ n) ∧ (n ≤ am_hi.getD w.toNat 0) := by first | omega | simp_all
          have K1 := K
          rw [am_b_pos hp] at K1
          exact K1
end
section
def am_at (n : Int) (t : Int → Int) (k : Int) : Int := if k < n then t k % 256 else -1
def am_atok (n : Int) (t : Int → Int) (k : Int) : Prop := am_r k ∧ am_r n ∧ (k < n → (0 ≤ k ∧ k < 140) ∧ (-128 ≤ t k ∧ t k < 128))
def am_ml (s : Int → Int) (f p : Int) : Int := if 0 ≤ p ∧ p ≤ s 1 - 1 then s (5 + 12 * f + p) else 0
def am_mlok (s : Int → Int) (f p : Int) : Prop := (am_r p ∧ am_r 0 ∧ am_r (s 1 - 1)) ∧ (0 ≤ p ∧ p ≤ s 1 - 1 → 0 ≤ 5 + 12 * f + p ∧ 5 + 12 * f + p < 101)
def am_kd (n : Int) (t : Int → Int) (k : Int) : Int := if k < 0 ∨ n ≤ k then 0 else if 97 ≤ t k ∧ t k ≤ 122 then 1 else if 48 ≤ t k ∧ t k ≤ 57 then 2 else if t k = 59 then 3 else 4
def am_kdok (n : Int) (t : Int → Int) (k : Int) : Prop := am_r k ∧ am_r n ∧ (0 ≤ k → k < n → k < 140 ∧ am_r (t k))
def am_pi (m : Int) (t : Int → Int) (n f : Int) : Int := if (0 ≤ n ∧ n < m) ∧ 0 ≤ f ∧ f < 8 then t (n * 8 + f) else -9
def am_piok (m n f : Int) : Prop := am_r n ∧ am_r m ∧ am_r f ∧ m ≤ 48
abbrev am_isS (w n : Int) : Prop := (0 ≤ w) ∧ (w < 3) ∧ (am_lo.getD w.toNat 0 ≤ n) ∧ (n ≤ am_hi.getD w.toNat 0)
section FC1
variable {d : Nat} {M : am_M} {Q : Option Int → am_M → Prop}
theorem fc_hasFrame {a : Nat} (ha : am_sc a) {f : Int} (hr : am_r f ∧ am_r (M a 0)) (h : Q (some (am_b (0 ≤ f ∧ f < M a 0))) M) : AC d mX3_hasFrame [.inr a, .inl f] M Q := sg_X3_hasFrame ha ⟨⟨hr.1, fun _ => hr.2⟩, h⟩
theorem fc_at {k : Int} (hr : am_atok (M 62 10) (M 69) k) (h : Q (some (am_at (M 62 10) (M 69) k)) M) : AC d mX8_at [.inr 62, .inl k] M Q := by
  refine sg_X8_at ⟨hr, fun v h1 h2 => ?_⟩
  have e : v = am_at (M 62 10) (M 69) k := by
    unfold am_at
    split <;> omega
  rw [e]; exact h
theorem fc_mlevelAt {f p : Int} (hr : am_mlok (M 63) f p) (h : Q (some (am_ml (M 63) f p)) M) : AC (d + 1) mX8_levelAt [.inr 62, .inl f, .inl p] M Q := by
  refine sg_X8_levelAt ⟨hr.1, hr.2, fun v h1 h2 => ?_⟩
  have e : v = am_ml (M 63) f p := by
    unfold am_ml
    split
    · rename_i hc; exact h2 hc
    · rename_i hc; exact h1 hc
  rw [e]; exact h
theorem fc_kindAt {k : Int} (hr : am_kdok (M 7 0) (M 8) k) (h : Q (some (am_kd (M 7 0) (M 8) k)) M) : AC d mX5_kindAt [.inr 7, .inl k] M Q := by
  obtain ⟨h1, h2, h3⟩ := hr
  have go : ∀ v : Int, v = am_kd (M 7 0) (M 8) k → Q (some v) M := fun v e => by rw [e]; exact h
  refine sg_X5_kindAt ⟨h1, fun c => go _ ?_, fun c => ⟨h2, fun c2 => ⟨⟨c, (h3 c c2).1⟩, (h3 c c2).2, fun c3 => ⟨fun c4 v q1 q2 => go _ ?_, fun c4 => ⟨fun c5 v q1 q2 => go _ ?_, fun c5 => go _ ?_⟩⟩, fun c3 => ⟨fun c4 => ⟨fun c5 v q1 q2 => go _ ?_, fun c5 => ⟨fun c6 v q1 q2 => go _ ?_, fun c6 => go _ ?_⟩⟩, fun c4 => go _ ?_⟩⟩, fun c2 => go _ ?_⟩⟩
  all_goals unfold am_kd
  all_goals (repeat' split) <;> omega
theorem fc_pitchIn {n f : Int} (hr : am_piok (M 41 0) n f) (h : Q (some (am_pi (M 41 0) (M 48) n f)) M) : AC d mX6_pitchIn [.inr 41, .inl n, .inl f] M Q := by
  obtain ⟨h1, h2, h3, h4⟩ := hr
  refine sg_X6_pitchIn ⟨h1, fun c => ?_, fun c => ⟨h2, fun c2 => ?_, fun c2 => ⟨h3, fun c3 => ?_, fun c3 => ⟨fun c4 => ⟨by omega, ?_⟩, fun c4 => ?_⟩⟩⟩⟩
  all_goals unfold am_pi at h
  · rw [if_neg (by omega)] at h; exact h
  · rw [if_neg (by omega)] at h; exact h
  · rw [if_neg (by omega)] at h; exact h
  · rw [if_pos (by omega)] at h; exact h
  · rw [if_neg (by omega)] at h; exact h
theorem am_isS_r : ∀ w : Fin 3, am_r (am_lo.getD w.val 0) ∧ am_r (am_hi.getD w.val 0) := by decide +kernel
theorem fc_isSetting {w n : Int} (hr : am_r w ∧ am_r n) (h : Q (some (am_b (am_isS w n))) M) : AC d mX7_isSetting [.inl w, .inl n] M Q := by
  refine sg_X7_isSetting ⟨⟨hr.1, fun c1 c2 => ⟨⟨c1, c2⟩, hr.2, ?_⟩⟩, h⟩
  have := am_isS_r ⟨w.toNat, by omega⟩
  exact ⟨this.1, fun _ => this.2⟩
end FC1
end
section
theorem sg_X3_hasPlace {d : Nat} {M : am_M} {Q : Option Int → am_M → Prop} {a : Nat} (ha : am_sc a) {f p : Int} (h : (am_r f ∧ am_r (M a 0)) ∧
 ((0 ≤ f ∧ f < M a 0 → ((am_r p) ∧ (0 ≤ p → (am_r (M a 1)))))) ∧
 Q (some (am_b ((0 ≤ f ∧ f < M a 0) ∧ (0 ≤ p) ∧ (p < M a 1)))) M) : AC (d + 1) mX3_hasPlace [.inr a, .inl f, .inl p] M Q := by
  refine aw_body (by decide) (Nat.le_of_ble_eq_true rfl) rfl ?_
  refine aw_aload_n dX3_hasPlace_0 rfl (j := 0) rfl ?_
  refine aw_iload_n dX3_hasPlace_1 rfl (j := 1) rfl ?_
  obtain ⟨s1, h⟩ := h
  refine aw_invv (d' := d) (as := [.inl f]) (rest := []) dX3_hasPlace_2 cv_X3_43 (Nat.lt_succ_self _) ha.1 rfl rfl rfl rfl (Nat.le_of_ble_eq_true rfl) (fc_hasFrame ha s1 ?_)
  show AW (d + 1) mX3_hasPlace 5 [(0, .inr a), (1, .inl f), (2, .inl p)] [.inl (am_b (0 ≤ f ∧ f < M a 0))] M Q
  obtain ⟨g, h⟩ := h
  have K : AW (d + 1) mX3_hasPlace 25 [(0, .inr a), (1, .inl f), (2, .inl p)] [.inl (am_b ((0 ≤ f ∧ f < M a 0) ∧ (0 ≤ p) ∧ (p < M a 1)))] M Q := by
    exact aw_bret dX3_hasPlace_25 rfl h
  clear h
  refine aw_ifb_eq dX3_hasPlace_5 (tgt := 24) rfl (fun c2 => ?_) (fun c2 => ?_)
  · have c2 : ¬ (0 ≤ f ∧ f < M a 0) := c2
    refine aw_iconst dX3_hasPlace_24 ?_
    have hp : ¬ ((0 ≤ f ∧ f < M a 0) ∧ (0 ≤ p) ∧ (p < M a 1)) := by first | omega | simp_all
    have K1 := K
    rw [am_b_neg hp] at K1
    exact K1
  · have c2 : 0 ≤ f ∧ f < M a 0 := c2
    replace g := g c2
    refine aw_iload_n dX3_hasPlace_8 rfl (j := 2) rfl ?_
    obtain ⟨s3, g⟩ := g
    refine aw_if_lt dX3_hasPlace_9 (tgt := 24) rfl s3 (fun c4 => ?_) (fun c4 => ?_)
    · have c4 : p < 0 := c4
      refine aw_iconst dX3_hasPlace_24 ?_
      have hp : ¬ ((0 ≤ f ∧ f < M a 0) ∧ (0 ≤ p) ∧ (p < M a 1)) := by first | omega | simp_all
      have K1 := K
      rw [am_b_neg hp] at K1
      exact K1
    · have c4 : 0 ≤ p := c4
      replace g := g c4
      refine aw_iload_n dX3_hasPlace_12 rfl (j := 2) rfl ?_
      refine aw_aload_n dX3_hasPlace_13 rfl (j := 0) rfl ?_
      refine aw_getf dX3_hasPlace_14 fl_X3_25 ha.1 rfl rfl ?_
      have s5 := g
      refine aw_icmp_ge dX3_hasPlace_17 (tgt := 24) rfl s3 s5 (fun c6 => ?_) (fun c6 => ?_)
      · have c6 : M a 1 ≤ p := c6
        refine aw_iconst dX3_hasPlace_24 ?_
        have hp : ¬ ((0 ≤ f ∧ f < M a 0) ∧ (0 ≤ p) ∧ (p < M a 1)) := by first | omega | simp_all
        have K1 := K
        rw [am_b_neg hp] at K1
        exact K1
      · have c6 : p < M a 1 := c6
        refine aw_iconst dX3_hasPlace_20 ?_
        refine aw_goto dX3_hasPlace_21 (tgt := 25) rfl ?_
        have hp : (0 ≤ f ∧ f < M a 0) ∧ (0 ≤ p) ∧ (p < M a 1) := by first | omega | simp_all
        have K1 := K
        rw [am_b_pos hp] at K1
        exact K1
theorem sg_X5_figureAt {d : Nat} {M : am_M} {Q : Option Int → am_M → Prop} {k : Int} (h : (am_kdok (M 7 0) (M 8) k) ∧
 (((am_r (am_kd (M 7 0) (M 8) k)) ∧ (am_kd (M 7 0) (M 8) k = 2 → (0 ≤ k ∧ k < 140)))) ∧
 ∀ (v5 : Int), (am_kd (M 7 0) (M 8) k ≠ 2 → v5 = 0) →
 (am_kd (M 7 0) (M 8) k = 2 → v5 = (M 8 k) - 48) →
 Q (some v5) M) : AC (d + 1) mX5_figureAt [.inr 7, .inl k] M Q := by
  refine aw_body (by decide) (Nat.le_of_ble_eq_true rfl) rfl ?_
  refine aw_aload_n dX5_figureAt_0 rfl (j := 0) rfl ?_
  refine aw_iload_n dX5_figureAt_1 rfl (j := 1) rfl ?_
  obtain ⟨s1, h⟩ := h
  refine aw_invv (d' := d) (as := [.inl k]) (rest := []) dX5_figureAt_2 cv_X5_85 (Nat.lt_succ_self _) rfl rfl rfl rfl rfl (Nat.le_of_ble_eq_true rfl) (fc_kindAt s1 ?_)
  show AW (d + 1) mX5_figureAt 5 [(0, .inr 7), (1, .inl k)] [.inl (am_kd (M 7 0) (M 8) k)] M Q
  refine aw_iconst dX5_figureAt_5 ?_
  obtain ⟨g, h⟩ := h
  have K : ∀ (v5 : Int), (am_kd (M 7 0) (M 8) k ≠ 2 → v5 = 0) → (am_kd (M 7 0) (M 8) k = 2 → v5 = (M 8 k) - 48) → AW (d + 1) mX5_figureAt 22 [(0, .inr 7), (1, .inl k)] [.inl v5] M Q := by
    intro v5 q6 q7
    replace h := h v5 q6 q7
    exact aw_iret dX5_figureAt_22 rfl h
  clear h
  obtain ⟨s2, g⟩ := g
  refine aw_icmp_ne dX5_figureAt_6 (tgt := 21) rfl s2 (by decide) (fun c3 => ?_) (fun c3 => ?_)
  · have c3 : am_kd (M 7 0) (M 8) k ≠ 2 := c3
    refine aw_iconst dX5_figureAt_21 ?_
    exact K 0 (fun _ => rfl) (fun q0 => by first | omega | exact absurd c3 q0 | exact absurd q0 c3)
  · have c3 : am_kd (M 7 0) (M 8) k = 2 := c3
    replace g := g c3
    refine aw_aload_n dX5_figureAt_9 rfl (j := 0) rfl ?_
    refine aw_getr dX5_figureAt_10 fl_X5_9 rfl rfl ?_
    refine aw_iload_n dX5_figureAt_13 rfl (j := 1) rfl ?_
    have s4 := g
    refine aw_caload dX5_figureAt_14 rfl s4 ?_
    refine aw_bipush dX5_figureAt_15 (by decide) ?_
    refine aw_isub dX5_figureAt_17 ?_
    refine aw_goto dX5_figureAt_18 (tgt := 22) rfl ?_
    exact K ((M 8 k) - 48) (fun q0 => by first | omega | exact absurd c3 q0 | exact absurd q0 c3) (fun _ => rfl)
theorem sg_X8_isPlace {d : Nat} {M : am_M} {Q : Option Int → am_M → Prop} {f p : Int} (h : (am_r f ∧ am_r 0 ∧ am_r ((M 63 0) - 1)) ∧
 ((0 ≤ f ∧ f ≤ (M 63 0) - 1 → (am_r p ∧ am_r 0 ∧ am_r ((M 63 1) - 1)))) ∧
 Q (some (am_b ((0 ≤ f ∧ f ≤ (M 63 0) - 1) ∧ (0 ≤ p ∧ p ≤ (M 63 1) - 1)))) M) : AC (d + 1) mX8_isPlace [.inr 62, .inl f, .inl p] M Q := by
  refine aw_body (by decide) (Nat.le_of_ble_eq_true rfl) rfl ?_
  refine aw_iload_n dX8_isPlace_0 rfl (j := 1) rfl ?_
  refine aw_iconst dX8_isPlace_1 ?_
  refine aw_aload_n dX8_isPlace_2 rfl (j := 0) rfl ?_
  refine aw_getr dX8_isPlace_3 fl_X8_7 rfl rfl ?_
  refine aw_iconst dX8_isPlace_6 ?_
  refine aw_iaload dX8_isPlace_7 rfl (by decide) ?_
  refine aw_iconst dX8_isPlace_8 ?_
  refine aw_isub dX8_isPlace_9 ?_
  obtain ⟨s1, h⟩ := h
  refine aw_invs (d' := d) (as := [.inl f, .inl 0, .inl ((M 63 0) - 1)]) (rest := []) dX8_isPlace_10 cs_X8_56 (Nat.lt_succ_self _) rfl rfl (Nat.le_of_ble_eq_true rfl) (fc_in s1 ?_)
  show AW (d + 1) mX8_isPlace 13 [(0, .inr 62), (1, .inl f), (2, .inl p)] [.inl (am_b (0 ≤ f ∧ f ≤ (M 63 0) - 1))] M Q
  obtain ⟨g, h⟩ := h
  have K : AW (d + 1) mX8_isPlace 37 [(0, .inr 62), (1, .inl f), (2, .inl p)] [.inl (am_b ((0 ≤ f ∧ f ≤ (M 63 0) - 1) ∧ (0 ≤ p ∧ p ≤ (M 63 1) - 1)))] M Q := by
    exact aw_bret dX8_isPlace_37 rfl h
  clear h
  refine aw_ifb_eq dX8_isPlace_13 (tgt := 36) rfl (fun c2 => ?_) (fun c2 => ?_)
  · have c2 : ¬ (0 ≤ f ∧ f ≤ (M 63 0) - 1) := c2
    refine aw_iconst dX8_isPlace_36 ?_
    have hp : ¬ ((0 ≤ f ∧ f ≤ (M 63 0) - 1) ∧ (0 ≤ p ∧ p ≤ (M 63 1) - 1)) := by first | omega | simp_all
    have K1 := K
    rw [am_b_neg hp] at K1
    exact K1
  · have c2 : 0 ≤ f ∧ f ≤ (M 63 0) - 1 := c2
    replace g := g c2
    refine aw_iload_n dX8_isPlace_16 rfl (j := 2) rfl ?_
    refine aw_iconst dX8_isPlace_17 ?_
    refine aw_aload_n dX8_isPlace_18 rfl (j := 0) rfl ?_
    refine aw_getr dX8_isPlace_19 fl_X8_7 rfl rfl ?_
    refine aw_iconst dX8_isPlace_22 ?_
    refine aw_iaload dX8_isPlace_23 rfl (by decide) ?_
    refine aw_iconst dX8_isPlace_24 ?_
    refine aw_isub dX8_isPlace_25 ?_
    have s3 := g
    refine aw_invs (d' := d) (as := [.inl p, .inl 0, .inl ((M 63 1) - 1)]) (rest := []) dX8_isPlace_26 cs_X8_56 (Nat.lt_succ_self _) rfl rfl (Nat.le_of_ble_eq_true rfl) (fc_in s3 ?_)
    show AW (d + 1) mX8_isPlace 29 [(0, .inr 62), (1, .inl f), (2, .inl p)] [.inl (am_b (0 ≤ p ∧ p ≤ (M 63 1) - 1))] M Q
    refine aw_ifb_eq dX8_isPlace_29 (tgt := 36) rfl (fun c4 => ?_) (fun c4 => ?_)
    · have c4 : ¬ (0 ≤ p ∧ p ≤ (M 63 1) - 1) := c4
      refine aw_iconst dX8_isPlace_36 ?_
      have hp : ¬ ((0 ≤ f ∧ f ≤ (M 63 0) - 1) ∧ (0 ≤ p ∧ p ≤ (M 63 1) - 1)) := by first | omega | simp_all
      have K1 := K
      rw [am_b_neg hp] at K1
      exact K1
    · have c4 : 0 ≤ p ∧ p ≤ (M 63 1) - 1 := c4
      refine aw_iconst dX8_isPlace_32 ?_
      refine aw_goto dX8_isPlace_33 (tgt := 37) rfl ?_
      have hp : (0 ≤ f ∧ f ≤ (M 63 0) - 1) ∧ (0 ≤ p ∧ p ≤ (M 63 1) - 1) := by first | omega | simp_all
      have K1 := K
      rw [am_b_pos hp] at K1
      exact K1
theorem sg_X8_loudOf {d : Nat} {M : am_M} {Q : Option Int → am_M → Prop} {f k : Int} (h : (0 ≤ (6 * f) + k ∧ (6 * f) + k < 48) ∧
 (am_mlok (M 63) f (M 71 ((6 * f) + k))) ∧
 Q (some (am_ml (M 63) f (M 71 ((6 * f) + k)))) M) : AC (d + 2) mX8_loudOf [.inr 62, .inl f, .inl k] M Q := by
  refine aw_body (by decide) (Nat.le_of_ble_eq_true rfl) rfl ?_
  refine aw_aload_n dX8_loudOf_0 rfl (j := 0) rfl ?_
  refine aw_iload_n dX8_loudOf_1 rfl (j := 1) rfl ?_
  refine aw_aload_n dX8_loudOf_2 rfl (j := 0) rfl ?_
  refine aw_getr dX8_loudOf_3 fl_X8_36 rfl rfl ?_
  refine aw_bipush dX8_loudOf_6 (by decide) ?_
  refine aw_iload_n dX8_loudOf_8 rfl (j := 1) rfl ?_
  refine aw_imul dX8_loudOf_9 ?_
  refine aw_iload_n dX8_loudOf_10 rfl (j := 2) rfl ?_
  refine aw_iadd dX8_loudOf_11 ?_
  obtain ⟨s1, h⟩ := h
  refine aw_iaload dX8_loudOf_12 rfl s1 ?_
  obtain ⟨s2, h⟩ := h
  refine aw_invv (d' := d + 1) (as := [.inl f, .inl (M 71 ((6 * f) + k))]) (rest := []) dX8_loudOf_13 cv_X8_118 (Nat.lt_succ_self _) rfl rfl rfl rfl rfl (Nat.le_of_ble_eq_true rfl) (fc_mlevelAt s2 ?_)
  show AW (d + 2) mX8_loudOf 16 [(0, .inr 62), (1, .inl f), (2, .inl k)] [.inl (am_ml (M 63) f (M 71 ((6 * f) + k)))] M Q
  exact aw_iret dX8_loudOf_16 rfl h
theorem sg_X8_pitchOf {d : Nat} {M : am_M} {Q : Option Int → am_M → Prop} {f k : Int} (h : (0 ≤ (6 * f) + k ∧ (6 * f) + k < 48) ∧
 (am_mlok (M 63) f ((M 71 ((6 * f) + k)) - 1)) ∧
 (am_mlok (M 63) f ((M 71 ((6 * f) + k)) + 1)) ∧
 (((am_r (am_ml (M 63) f ((M 71 ((6 * f) + k)) + 1))) ∧ (am_r (am_ml (M 63) f ((M 71 ((6 * f) + k)) - 1))))) ∧
 ∀ (v8 : Int), (am_ml (M 63) f ((M 71 ((6 * f) + k)) + 1) ≤ am_ml (M 63) f ((M 71 ((6 * f) + k)) - 1) → am_ml (M 63) f ((M 71 ((6 * f) + k)) - 1) ≤ am_ml (M 63) f ((M 71 ((6 * f) + k)) + 1) → v8 = 0) →
 (am_ml (M 63) f ((M 71 ((6 * f) + k)) + 1) ≤ am_ml (M 63) f ((M 71 ((6 * f) + k)) - 1) → am_ml (M 63) f ((M 71 ((6 * f) + k)) + 1) < am_ml (M 63) f ((M 71 ((6 * f) + k)) - 1) → v8 = (-1)) →
 (am_ml (M 63) f ((M 71 ((6 * f) + k)) - 1) < am_ml (M 63) f ((M 71 ((6 * f) + k)) + 1) → v8 = 1) →
 Q (some ((4 * (M 71 ((6 * f) + k))) + v8)) M) : AC (d + 2) mX8_pitchOf [.inr 62, .inl f, .inl k] M Q := by
  refine aw_body (by decide) (Nat.le_of_ble_eq_true rfl) rfl ?_
  refine aw_aload_n dX8_pitchOf_0 rfl (j := 0) rfl ?_
  refine aw_getr dX8_pitchOf_1 fl_X8_36 rfl rfl ?_
  refine aw_bipush dX8_pitchOf_4 (by decide) ?_
  refine aw_iload_n dX8_pitchOf_6 rfl (j := 1) rfl ?_
  refine aw_imul dX8_pitchOf_7 ?_
  refine aw_iload_n dX8_pitchOf_8 rfl (j := 2) rfl ?_
  refine aw_iadd dX8_pitchOf_9 ?_
  obtain ⟨s1, h⟩ := h
  refine aw_iaload dX8_pitchOf_10 rfl s1 ?_
  refine aw_istore_n (L' := [(0, .inr 62), (1, .inl f), (2, .inl k), (3, .inl (M 71 ((6 * f) + k)))]) dX8_pitchOf_11 rfl (Nat.le_of_ble_eq_true rfl) rfl ?_
  refine aw_aload_n dX8_pitchOf_12 rfl (j := 0) rfl ?_
  refine aw_iload_n dX8_pitchOf_13 rfl (j := 1) rfl ?_
  refine aw_iload_n dX8_pitchOf_14 rfl (j := 3) rfl ?_
  refine aw_iconst dX8_pitchOf_15 ?_
  refine aw_isub dX8_pitchOf_16 ?_
  obtain ⟨s2, h⟩ := h
  refine aw_invv (d' := d + 1) (as := [.inl f, .inl ((M 71 ((6 * f) + k)) - 1)]) (rest := []) dX8_pitchOf_17 cv_X8_118 (Nat.lt_succ_self _) rfl rfl rfl rfl rfl (Nat.le_of_ble_eq_true rfl) (fc_mlevelAt s2 ?_)
  show AW (d + 2) mX8_pitchOf 20 [(0, .inr 62), (1, .inl f), (2, .inl k), (3, .inl (M 71 ((6 * f) + k)))] [.inl (am_ml (M 63) f ((M 71 ((6 * f) + k)) - 1))] M Q
  refine aw_istore (L' := [(0, .inr 62), (1, .inl f), (2, .inl k), (3, .inl (M 71 ((6 * f) + k))), (4, .inl (am_ml (M 63) f ((M 71 ((6 * f) + k)) - 1)))]) dX8_pitchOf_20 (Nat.le_of_ble_eq_true rfl) rfl ?_
  refine aw_aload_n dX8_pitchOf_22 rfl (j := 0) rfl ?_
  refine aw_iload_n dX8_pitchOf_23 rfl (j := 1) rfl ?_
  refine aw_iload_n dX8_pitchOf_24 rfl (j := 3) rfl ?_
  refine aw_iconst dX8_pitchOf_25 ?_
  refine aw_iadd dX8_pitchOf_26 ?_
  obtain ⟨s3, h⟩ := h
  refine aw_invv (d' := d + 1) (as := [.inl f, .inl ((M 71 ((6 * f) + k)) + 1)]) (rest := []) dX8_pitchOf_27 cv_X8_118 (Nat.lt_succ_self _) rfl rfl rfl rfl rfl (Nat.le_of_ble_eq_true rfl) (fc_mlevelAt s3 ?_)
  show AW (d + 2) mX8_pitchOf 30 [(0, .inr 62), (1, .inl f), (2, .inl k), (3, .inl (M 71 ((6 * f) + k))), (4, .inl (am_ml (M 63) f ((M 71 ((6 * f) + k)) - 1)))] [.inl (am_ml (M 63) f ((M 71 ((6 * f) + k)) + 1))] M Q
  refine aw_istore (L' := [(0, .inr 62), (1, .inl f), (2, .inl k), (3, .inl (M 71 ((6 * f) + k))), (4, .inl (am_ml (M 63) f ((M 71 ((6 * f) + k)) - 1))), (5, .inl (am_ml (M 63) f ((M 71 ((6 * f) + k)) + 1)))]) dX8_pitchOf_30 (Nat.le_of_ble_eq_true rfl) rfl ?_
  refine aw_iconst dX8_pitchOf_32 ?_
  refine aw_iload_n dX8_pitchOf_33 rfl (j := 3) rfl ?_
  refine aw_imul dX8_pitchOf_34 ?_
  refine aw_iload dX8_pitchOf_35 (j := 5) rfl ?_
  refine aw_iload dX8_pitchOf_37 (j := 4) rfl ?_
  obtain ⟨g, h⟩ := h
  have K : ∀ (v8 : Int), (am_ml (M 63) f ((M 71 ((6 * f) + k)) + 1) ≤ am_ml (M 63) f ((M 71 ((6 * f) + k)) - 1) → am_ml (M 63) f ((M 71 ((6 * f) + k)) - 1) ≤ am_ml (M 63) f ((M 71 ((6 * f) + k)) + 1) → v8 = 0) → (am_ml (M 63) f ((M 71 ((6 * f) + k)) + 1) ≤ am_ml (M 63) f ((M 71 ((6 * f) + k)) - 1) → am_ml (M 63) f ((M 71 ((6 * f) + k)) + 1) < am_ml (M 63) f ((M 71 ((6 * f) + k)) - 1) → v8 = (-1)) → (am_ml (M 63) f ((M 71 ((6 * f) + k)) - 1) < am_ml (M 63) f ((M 71 ((6 * f) + k)) + 1) → v8 = 1) → AW (d + 2) mX8_pitchOf 58 [(0, .inr 62), (1, .inl f), (2, .inl k), (3, .inl (M 71 ((6 * f) + k))), (4, .inl (am_ml (M 63) f ((M 71 ((6 * f) + k)) - 1))), (5, .inl (am_ml (M 63) f ((M 71 ((6 * f) + k)) + 1)))] [.inl v8, .inl (4 * (M 71 ((6 * f) + k)))] M Q := by
    intro v8 q9 q10 q11
    replace h := h v8 q9 q10 q11
    refine aw_iadd dX8_pitchOf_58 ?_
    exact aw_iret dX8_pitchOf_59 rfl h
  clear h
  obtain ⟨s4, g⟩ := g
  have s5 := g
  refine aw_icmp_le dX8_pitchOf_39 (tgt := 46) rfl s4 s5 (fun c6 => ?_) (fun c6 => ?_)
  · have c6 : am_ml (M 63) f ((M 71 ((6 * f) + k)) + 1) ≤ am_ml (M 63) f ((M 71 ((6 * f) + k)) - 1) := c6
    refine aw_iload dX8_pitchOf_46 (j := 5) rfl ?_
    refine aw_iload dX8_pitchOf_48 (j := 4) rfl ?_
    refine aw_icmp_ge dX8_pitchOf_50 (tgt := 57) rfl s4 s5 (fun c7 => ?_) (fun c7 => ?_)
    · have c7 : am_ml (M 63) f ((M 71 ((6 * f) + k)) - 1) ≤ am_ml (M 63) f ((M 71 ((6 * f) + k)) + 1) := c7
      refine aw_iconst dX8_pitchOf_57 ?_
      exact K 0 (fun _ _ => rfl) (fun q0 q1 => by first | omega | exact absurd c7 q1 | exact absurd q1 c7) (fun q0 => by first | omega | exact absurd c6 q0 | exact absurd q0 c6)
    · have c7 : am_ml (M 63) f ((M 71 ((6 * f) + k)) + 1) < am_ml (M 63) f ((M 71 ((6 * f) + k)) - 1) := c7
      refine aw_iconst dX8_pitchOf_53 ?_
      refine aw_goto dX8_pitchOf_54 (tgt := 58) rfl ?_
      exact K (-1) (fun q0 q1 => by first | omega | exact absurd c7 q1 | exact absurd q1 c7) (fun _ _ => rfl) (fun q0 => by first | omega | exact absurd c6 q0 | exact absurd q0 c6)
  · have c6 : am_ml (M 63) f ((M 71 ((6 * f) + k)) - 1) < am_ml (M 63) f ((M 71 ((6 * f) + k)) + 1) := c6
    refine aw_iconst dX8_pitchOf_42 ?_
    refine aw_goto dX8_pitchOf_43 (tgt := 58) rfl ?_
    exact K 1 (fun q0 q1 => by first | omega | exact absurd c6 q0 | exact absurd q0 c6) (fun q0 q1 => by first | omega | exact absurd c6 q0 | exact absurd q0 c6) (fun _ => rfl)
end
section
def am_fg (n : Int) (t : Int → Int) (k : Int) : Int := if am_kd n t k = 2 then t k - 48 else 0
def am_lo2 (s t : Int → Int) (f k : Int) : Int := am_ml s f (t (6 * f + k))
def am_look (s t : Int → Int) (f k : Int) : Prop := (0 ≤ 6 * f + k ∧ 6 * f + k < 48) ∧ am_mlok s f (t (6 * f + k))
def am_pt (s t : Int → Int) (f k : Int) : Int := 4 * t (6 * f + k) + am_cmp (am_ml s f (t (6 * f + k) + 1)) (am_ml s f (t (6 * f + k) - 1))
def am_ptok (s t : Int → Int) (f k : Int) : Prop := (0 ≤ 6 * f + k ∧ 6 * f + k < 48) ∧ am_mlok s f (t (6 * f + k) - 1) ∧ am_mlok s f (t (6 * f + k) + 1) ∧ am_r (am_ml s f (t (6 * f + k) + 1)) ∧ am_r (am_ml s f (t (6 * f + k) - 1))
theorem am_kd_r (n : Int) (t : Int → Int) (k : Int) : 0 ≤ am_kd n t k ∧ am_kd n t k ≤ 4 := by
  unfold am_kd
  (repeat' split) <;> omega
theorem am_kd_2 {n : Int} {t : Int → Int} {k : Int} (h : am_kd n t k = 2) : 0 ≤ k ∧ k < n ∧ 48 ≤ t k ∧ t k ≤ 57 := by
  unfold am_kd at h
  revert h
  (repeat' split) <;> omega
section FC2
variable {d : Nat} {M : am_M} {Q : Option Int → am_M → Prop}
theorem fc_hasPlace {a : Nat} (ha : am_sc a) {f p : Int} (hr : (am_r f ∧ am_r (M a 0)) ∧ am_r p ∧ am_r (M a 1)) (h : Q (some (am_b ((0 ≤ f ∧ f < M a 0) ∧ 0 ≤ p ∧ p < M a 1))) M) : AC (d + 1) mX3_hasPlace [.inr a, .inl f, .inl p] M Q :=
  sg_X3_hasPlace ha ⟨hr.1, fun _ => ⟨hr.2.1, fun _ => hr.2.2⟩, h⟩
theorem fc_figureAt {k : Int} (hr : am_kdok (M 7 0) (M 8) k) (h : Q (some (am_fg (M 7 0) (M 8) k)) M) : AC (d + 1) mX5_figureAt [.inr 7, .inl k] M Q := by
  have h9 := am_kd_r (M 7 0) (M 8) k
  refine sg_X5_figureAt ⟨hr, ⟨by omega, fun c => ?_⟩, fun v h1 h2 => ?_⟩
  · have h8 := am_kd_2 c
    exact ⟨h8.1, (hr.2.2 h8.1 h8.2.1).1⟩
  · have e : v = am_fg (M 7 0) (M 8) k := by
      unfold am_fg
      split <;> omega
    rw [e]; exact h
theorem fc_isPlace {f p : Int} (hr : (am_r f ∧ am_r p) ∧ am_r (M 63 0 - 1) ∧ am_r (M 63 1 - 1)) (h : Q (some (am_b ((0 ≤ f ∧ f ≤ M 63 0 - 1) ∧ 0 ≤ p ∧ p ≤ M 63 1 - 1))) M) : AC (d + 1) mX8_isPlace [.inr 62, .inl f, .inl p] M Q :=
  sg_X8_isPlace ⟨⟨hr.1.1, am_r0, hr.2.1⟩, fun _ => ⟨hr.1.2, am_r0, hr.2.2⟩, h⟩
theorem fc_loudOf {f k : Int} (hr : am_look (M 63) (M 71) f k) (h : Q (some (am_lo2 (M 63) (M 71) f k)) M) : AC (d + 2) mX8_loudOf [.inr 62, .inl f, .inl k] M Q := sg_X8_loudOf ⟨hr.1, hr.2, h⟩
theorem fc_pitchOf {f k : Int} (hr : am_ptok (M 63) (M 71) f k) (h : Q (some (am_pt (M 63) (M 71) f k)) M) : AC (d + 2) mX8_pitchOf [.inr 62, .inl f, .inl k] M Q := by
  obtain ⟨h1, h2, h3, h4, h5⟩ := hr
  refine sg_X8_pitchOf ⟨h1, h2, h3, ⟨h4, h5⟩, fun v q1 q2 q3 => ?_⟩
  have e : v = am_cmp (am_ml (M 63) f (M 71 (6 * f + k) + 1)) (am_ml (M 63) f (M 71 (6 * f + k) - 1)) := by
    unfold am_cmp
    (repeat' split) <;> omega
  rw [e]; exact h
end FC2
end
section
theorem sg_X3_levelAt {d : Nat} {M : am_M} {Q : Option Int → am_M → Prop} {a : Nat} (ha : am_sc a) {f p : Int} (h : ((am_r f ∧ am_r (M a 0)) ∧ am_r p ∧ am_r (M a 1)) ∧
 (((0 ≤ f ∧ f < M a 0) ∧ 0 ≤ p ∧ p < M a 1 → (0 ≤ (f * 12) + p ∧ (f * 12) + p < 96))) ∧
 ∀ (v4 : Int), (¬ ((0 ≤ f ∧ f < M a 0) ∧ 0 ≤ p ∧ p < M a 1) → v4 = 0) →
 ((0 ≤ f ∧ f < M a 0) ∧ 0 ≤ p ∧ p < M a 1 → v4 = M (a + 2) ((f * 12) + p)) →
 Q (some v4) M) : AC (d + 2) mX3_levelAt [.inr a, .inl f, .inl p] M Q := by
  refine aw_body (by decide) (Nat.le_of_ble_eq_true rfl) rfl ?_
  refine aw_aload_n dX3_levelAt_0 rfl (j := 0) rfl ?_
  refine aw_iload_n dX3_levelAt_1 rfl (j := 1) rfl ?_
  refine aw_iload_n dX3_levelAt_2 rfl (j := 2) rfl ?_
  obtain ⟨s1, h⟩ := h
  refine aw_invv (d' := d + 1) (as := [.inl f, .inl p]) (rest := []) dX3_levelAt_3 cv_X3_47 (Nat.lt_succ_self _) ha.1 rfl rfl rfl rfl (Nat.le_of_ble_eq_true rfl) (fc_hasPlace ha s1 ?_)
  show AW (d + 2) mX3_levelAt 6 [(0, .inr a), (1, .inl f), (2, .inl p)] [.inl (am_b ((0 ≤ f ∧ f < M a 0) ∧ 0 ≤ p ∧ p < M a 1))] M Q
  obtain ⟨g, h⟩ := h
  have K : ∀ (v4 : Int), (¬ ((0 ≤ f ∧ f < M a 0) ∧ 0 ≤ p ∧ p < M a 1) → v4 = 0) → ((0 ≤ f ∧ f < M a 0) ∧ 0 ≤ p ∧ p < M a 1 → v4 = M (a + 2) ((f * 12) + p)) → AW (d + 2) mX3_levelAt 24 [(0, .inr a), (1, .inl f), (2, .inl p)] [.inl v4] M Q := by
    intro v4 q5 q6
    replace h := h v4 q5 q6
    exact aw_iret dX3_levelAt_24 rfl h
  clear h
  refine aw_ifb_eq dX3_levelAt_6 (tgt := 23) rfl (fun c2 => ?_) (fun c2 => ?_)
  · have c2 : ¬ ((0 ≤ f ∧ f < M a 0) ∧ 0 ≤ p ∧ p < M a 1) := c2
    refine aw_iconst dX3_levelAt_23 ?_
    exact K 0 (fun _ => rfl) (fun q0 => by first | omega | exact absurd c2 q0 | exact absurd q0 c2)
  · have c2 : (0 ≤ f ∧ f < M a 0) ∧ 0 ≤ p ∧ p < M a 1 := c2
    replace g := g c2
    refine aw_aload_n dX3_levelAt_9 rfl (j := 0) rfl ?_
    refine aw_getr dX3_levelAt_10 fl_X3_15 ha.1 rfl ?_
    refine aw_iload_n dX3_levelAt_13 rfl (j := 1) rfl ?_
    refine aw_bipush dX3_levelAt_14 (by decide) ?_
    refine aw_imul dX3_levelAt_16 ?_
    refine aw_iload_n dX3_levelAt_17 rfl (j := 2) rfl ?_
    refine aw_iadd dX3_levelAt_18 ?_
    have s3 := g
    refine aw_iaload dX3_levelAt_19 ha.2.2 s3 ?_
    refine aw_goto dX3_levelAt_20 (tgt := 24) rfl ?_
    exact K (M (a + 2) ((f * 12) + p)) (fun q0 => by first | omega | exact absurd c2 q0 | exact absurd q0 c2) (fun _ => rfl)
theorem sg_X3_putLevel {d : Nat} {M : am_M} {Q : Option Int → am_M → Prop} {a : Nat} (ha : am_sc a) {f p n : Int} (h : ((am_r f ∧ am_r (M a 0)) ∧ am_r p ∧ am_r (M a 1)) ∧
 ((¬ ((0 ≤ f ∧ f < M a 0) ∧ 0 ≤ p ∧ p < M a 1) →
 Q none M) ∧
 ((0 ≤ f ∧ f < M a 0) ∧ 0 ≤ p ∧ p < M a 1 →
 (0 ≤ (f * 12) + p ∧ (f * 12) + p < 96) ∧
 Q none (am_up M (a + 2) ((f * 12) + p) n)))) : AC (d + 2) mX3_putLevel [.inr a, .inl f, .inl p, .inl n] M Q := by
  refine aw_body (by decide) (Nat.le_of_ble_eq_true rfl) rfl ?_
  refine aw_aload_n dX3_putLevel_0 rfl (j := 0) rfl ?_
  refine aw_iload_n dX3_putLevel_1 rfl (j := 1) rfl ?_
  refine aw_iload_n dX3_putLevel_2 rfl (j := 2) rfl ?_
  obtain ⟨s1, h⟩ := h
  refine aw_invv (d' := d + 1) (as := [.inl f, .inl p]) (rest := []) dX3_putLevel_3 cv_X3_47 (Nat.lt_succ_self _) ha.1 rfl rfl rfl rfl (Nat.le_of_ble_eq_true rfl) (fc_hasPlace ha s1 ?_)
  show AW (d + 2) mX3_putLevel 6 [(0, .inr a), (1, .inl f), (2, .inl p), (3, .inl n)] [.inl (am_b ((0 ≤ f ∧ f < M a 0) ∧ 0 ≤ p ∧ p < M a 1))] M Q
  refine aw_ifb_eq dX3_putLevel_6 (tgt := 21) rfl (fun c2 => ?_) (fun c2 => ?_)
  · replace h := h.1 c2
    exact aw_vret dX3_putLevel_21 rfl h
  · replace h := h.2 c2
    refine aw_aload_n dX3_putLevel_9 rfl (j := 0) rfl ?_
    refine aw_getr dX3_putLevel_10 fl_X3_15 ha.1 rfl ?_
    refine aw_iload_n dX3_putLevel_13 rfl (j := 1) rfl ?_
    refine aw_bipush dX3_putLevel_14 (by decide) ?_
    refine aw_imul dX3_putLevel_16 ?_
    refine aw_iload_n dX3_putLevel_17 rfl (j := 2) rfl ?_
    refine aw_iadd dX3_putLevel_18 ?_
    refine aw_iload_n dX3_putLevel_19 rfl (j := 3) rfl ?_
    obtain ⟨s3, h⟩ := h
    refine aw_iastore dX3_putLevel_20 ha.2.2 s3 ?_
    exact aw_vret dX3_putLevel_21 rfl h
theorem sg_X8_apart {d : Nat} {M : am_M} {Q : Option Int → am_M → Prop} {f k m : Int} (h : (am_ptok (M 63) (M 71) f k) ∧
 (am_ptok (M 63) (M 71) (f + 1) m) ∧
 ((am_r ((am_pt (M 63) (M 71) f k) - (am_pt (M 63) (M 71) (f + 1) m)))) ∧
 ∀ (v5 : Int), (0 ≤ (am_pt (M 63) (M 71) f k) - (am_pt (M 63) (M 71) (f + 1) m) → v5 = (am_pt (M 63) (M 71) f k) - (am_pt (M 63) (M 71) (f + 1) m)) →
 ((am_pt (M 63) (M 71) f k) - (am_pt (M 63) (M 71) (f + 1) m) < 0 → v5 = -((am_pt (M 63) (M 71) f k) - (am_pt (M 63) (M 71) (f + 1) m))) →
 Q (some v5) M) : AC (d + 3) mX8_apart [.inr 62, .inl f, .inl k, .inl m] M Q := by
  refine aw_body (by decide) (Nat.le_of_ble_eq_true rfl) rfl ?_
  refine aw_aload_n dX8_apart_0 rfl (j := 0) rfl ?_
  refine aw_iload_n dX8_apart_1 rfl (j := 1) rfl ?_
  refine aw_iload_n dX8_apart_2 rfl (j := 2) rfl ?_
  obtain ⟨s1, h⟩ := h
  refine aw_invv (d' := d + 2) (as := [.inl f, .inl k]) (rest := []) dX8_apart_3 cv_X8_121 (Nat.lt_succ_self _) rfl rfl rfl rfl rfl (Nat.le_of_ble_eq_true rfl) (fc_pitchOf s1 ?_)
  show AW (d + 3) mX8_apart 6 [(0, .inr 62), (1, .inl f), (2, .inl k), (3, .inl m)] [.inl (am_pt (M 63) (M 71) f k)] M Q
  refine aw_aload_n dX8_apart_6 rfl (j := 0) rfl ?_
  refine aw_iload_n dX8_apart_7 rfl (j := 1) rfl ?_
  refine aw_iconst dX8_apart_8 ?_
  refine aw_iadd dX8_apart_9 ?_
  refine aw_iload_n dX8_apart_10 rfl (j := 3) rfl ?_
  obtain ⟨s2, h⟩ := h
  refine aw_invv (d' := d + 2) (as := [.inl (f + 1), .inl m]) (rest := [.inl (am_pt (M 63) (M 71) f k)]) dX8_apart_11 cv_X8_121 (Nat.lt_succ_self _) rfl rfl rfl rfl rfl (Nat.le_of_ble_eq_true rfl) (fc_pitchOf s2 ?_)
  show AW (d + 3) mX8_apart 14 [(0, .inr 62), (1, .inl f), (2, .inl k), (3, .inl m)] [.inl (am_pt (M 63) (M 71) (f + 1) m), .inl (am_pt (M 63) (M 71) f k)] M Q
  refine aw_isub dX8_apart_14 ?_
  refine aw_istore (L' := [(0, .inr 62), (1, .inl f), (2, .inl k), (3, .inl m), (4, .inl ((am_pt (M 63) (M 71) f k) - (am_pt (M 63) (M 71) (f + 1) m)))]) dX8_apart_15 (Nat.le_of_ble_eq_true rfl) rfl ?_
  refine aw_iload dX8_apart_17 (j := 4) rfl ?_
  obtain ⟨g, h⟩ := h
  have K : ∀ (v5 : Int), (0 ≤ (am_pt (M 63) (M 71) f k) - (am_pt (M 63) (M 71) (f + 1) m) → v5 = (am_pt (M 63) (M 71) f k) - (am_pt (M 63) (M 71) (f + 1) m)) → ((am_pt (M 63) (M 71) f k) - (am_pt (M 63) (M 71) (f + 1) m) < 0 → v5 = -((am_pt (M 63) (M 71) f k) - (am_pt (M 63) (M 71) (f + 1) m))) → AW (d + 3) mX8_apart 30 [(0, .inr 62), (1, .inl f), (2, .inl k), (3, .inl m), (4, .inl ((am_pt (M 63) (M 71) f k) - (am_pt (M 63) (M 71) (f + 1) m)))] [.inl v5] M Q := by
    intro v5 q6 q7
    replace h := h v5 q6 q7
    exact aw_iret dX8_apart_30 rfl h
  clear h
  have s3 := g
  refine aw_if_ge dX8_apart_19 (tgt := 28) rfl s3 (fun c4 => ?_) (fun c4 => ?_)
  · have c4 : 0 ≤ (am_pt (M 63) (M 71) f k) - (am_pt (M 63) (M 71) (f + 1) m) := c4
    refine aw_iload dX8_apart_28 (j := 4) rfl ?_
    exact K ((am_pt (M 63) (M 71) f k) - (am_pt (M 63) (M 71) (f + 1) m)) (fun _ => rfl) (fun q0 => by first | omega | exact absurd c4 q0 | exact absurd q0 c4)
  · have c4 : (am_pt (M 63) (M 71) f k) - (am_pt (M 63) (M 71) (f + 1) m) < 0 := c4
    refine aw_iload dX8_apart_22 (j := 4) rfl ?_
    refine aw_ineg dX8_apart_24 ?_
    refine aw_goto dX8_apart_25 (tgt := 30) rfl ?_
    exact K (-((am_pt (M 63) (M 71) f k) - (am_pt (M 63) (M 71) (f + 1) m))) (fun q0 => by first | omega | exact absurd c4 q0 | exact absurd q0 c4) (fun _ => rfl)
end
