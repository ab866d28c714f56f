section
-- ===== PART A: goes FIRST, ahead of the names: the tables' words, and 'selects' of the private methods out of them =====
/-- a private method of a class that the tables say can be made, by its rows of tables_1 -/
def lw_okq (q : MethodName × Nat) : Prop := (q.1.cls ≠ "java/lang/invoke/MethodHandle" ∧ q.1.cls ≠ "java/lang/invoke/VarHandle") ∧ Cond.instantiable q.1.cls q.2 ∈ tables_1 ∧ Cond.privateMethod q.1 ∈ tables_1 ∧ Cond.instanceMethod q.1 ∈ tables_1
theorem lw_p0 : lw_okq (⟨"ShadowTag", "takeOver", "(I)I"⟩, 9) := ⟨⟨by decide +kernel, by decide +kernel⟩, List.mem_of_getElem? (i := 12) (by decide +kernel), List.mem_of_getElem? (i := 278) (by decide +kernel), List.mem_of_getElem? (i := 279) (by decide +kernel)⟩
theorem lw_p1 : lw_okq (⟨"ShadowTag$Runners", "step", "(I)V"⟩, 12) := ⟨⟨by decide +kernel, by decide +kernel⟩, List.mem_of_getElem? (i := 26) (by decide +kernel), List.mem_of_getElem? (i := 348) (by decide +kernel), List.mem_of_getElem? (i := 349) (by decide +kernel)⟩
theorem lw_p2 : lw_okq (⟨"ShadowTag$Game", "readThing", "(I)Z"⟩, 7) := ⟨⟨by decide +kernel, by decide +kernel⟩, List.mem_of_getElem? (i := 155) (by decide +kernel), List.mem_of_getElem? (i := 416) (by decide +kernel), List.mem_of_getElem? (i := 417) (by decide +kernel)⟩
theorem lw_p3 : lw_okq (⟨"ShadowTag$Game", "nextSign", "()I"⟩, 7) := ⟨⟨by decide +kernel, by decide +kernel⟩, List.mem_of_getElem? (i := 155) (by decide +kernel), List.mem_of_getElem? (i := 420) (by decide +kernel), List.mem_of_getElem? (i := 421) (by decide +kernel)⟩
theorem lw_p4 : lw_okq (⟨"ShadowTag$Game", "readAs", "(I[II)Z"⟩, 7) := ⟨⟨by decide +kernel, by decide +kernel⟩, List.mem_of_getElem? (i := 155) (by decide +kernel), List.mem_of_getElem? (i := 424) (by decide +kernel), List.mem_of_getElem? (i := 425) (by decide +kernel)⟩
theorem lw_p5 : lw_okq (⟨"ShadowTag$Game", "readNumber", "([IIII)Z"⟩, 7) := ⟨⟨by decide +kernel, by decide +kernel⟩, List.mem_of_getElem? (i := 155) (by decide +kernel), List.mem_of_getElem? (i := 428) (by decide +kernel), List.mem_of_getElem? (i := 429) (by decide +kernel)⟩
theorem lw_p6 : lw_okq (⟨"ShadowTag$Game", "nextDigit", "()I"⟩, 7) := ⟨⟨by decide +kernel, by decide +kernel⟩, List.mem_of_getElem? (i := 155) (by decide +kernel), List.mem_of_getElem? (i := 432) (by decide +kernel), List.mem_of_getElem? (i := 433) (by decide +kernel)⟩
theorem lw_p7 : lw_okq (⟨"ShadowTag$Game", "readSign", "(I)Z"⟩, 7) := ⟨⟨by decide +kernel, by decide +kernel⟩, List.mem_of_getElem? (i := 155) (by decide +kernel), List.mem_of_getElem? (i := 436) (by decide +kernel), List.mem_of_getElem? (i := 437) (by decide +kernel)⟩
theorem lw_p8 : lw_okq (⟨"ShadowTag$Game", "readDirection", "(I)Z"⟩, 7) := ⟨⟨by decide +kernel, by decide +kernel⟩, List.mem_of_getElem? (i := 155) (by decide +kernel), List.mem_of_getElem? (i := 440) (by decide +kernel), List.mem_of_getElem? (i := 441) (by decide +kernel)⟩
theorem lw_p9 : lw_okq (⟨"ShadowTag$Game", "readOnOrOff", "(I)Z"⟩, 7) := ⟨⟨by decide +kernel, by decide +kernel⟩, List.mem_of_getElem? (i := 155) (by decide +kernel), List.mem_of_getElem? (i := 444) (by decide +kernel), List.mem_of_getElem? (i := 445) (by decide +kernel)⟩
theorem lw_p10 : lw_okq (⟨"ShadowTag", "tryThing", "(I)I"⟩, 9) := ⟨⟨by decide +kernel, by decide +kernel⟩, List.mem_of_getElem? (i := 12) (by decide +kernel), List.mem_of_getElem? (i := 448) (by decide +kernel), List.mem_of_getElem? (i := 449) (by decide +kernel)⟩
theorem lw_p11 : lw_okq (⟨"ShadowTag", "cellsInShadowsOf", "(I)I"⟩, 9) := ⟨⟨by decide +kernel, by decide +kernel⟩, List.mem_of_getElem? (i := 12) (by decide +kernel), List.mem_of_getElem? (i := 477) (by decide +kernel), List.mem_of_getElem? (i := 478) (by decide +kernel)⟩
theorem lw_p12 : lw_okq (⟨"ShadowTag", "cellsInShadowsBy", "(I)I"⟩, 9) := ⟨⟨by decide +kernel, by decide +kernel⟩, List.mem_of_getElem? (i := 12) (by decide +kernel), List.mem_of_getElem? (i := 518) (by decide +kernel), List.mem_of_getElem? (i := 519) (by decide +kernel)⟩
theorem lw_p13 : lw_okq (⟨"ShadowTag$Board", "enter", "(II)V"⟩, 5) := ⟨⟨by decide +kernel, by decide +kernel⟩, List.mem_of_getElem? (i := 189) (by decide +kernel), List.mem_of_getElem? (i := 577) (by decide +kernel), List.mem_of_getElem? (i := 578) (by decide +kernel)⟩
theorem lw_p14 : lw_okq (⟨"ShadowTag", "stepsOrFarthest", "(I)I"⟩, 9) := ⟨⟨by decide +kernel, by decide +kernel⟩, List.mem_of_getElem? (i := 12) (by decide +kernel), List.mem_of_getElem? (i := 587) (by decide +kernel), List.mem_of_getElem? (i := 588) (by decide +kernel)⟩
theorem lw_p15 : lw_okq (⟨"ShadowTag", "cellsInAnyShadow", "()I"⟩, 9) := ⟨⟨by decide +kernel, by decide +kernel⟩, List.mem_of_getElem? (i := 12) (by decide +kernel), List.mem_of_getElem? (i := 602) (by decide +kernel), List.mem_of_getElem? (i := 603) (by decide +kernel)⟩
def lw_privs_1 : List (MethodName × Nat) := [(⟨"ShadowTag", "takeOver", "(I)I"⟩, 9), (⟨"ShadowTag$Runners", "step", "(I)V"⟩, 12), (⟨"ShadowTag$Game", "readThing", "(I)Z"⟩, 7), (⟨"ShadowTag$Game", "nextSign", "()I"⟩, 7), (⟨"ShadowTag$Game", "readAs", "(I[II)Z"⟩, 7), (⟨"ShadowTag$Game", "readNumber", "([IIII)Z"⟩, 7), (⟨"ShadowTag$Game", "nextDigit", "()I"⟩, 7), (⟨"ShadowTag$Game", "readSign", "(I)Z"⟩, 7), (⟨"ShadowTag$Game", "readDirection", "(I)Z"⟩, 7), (⟨"ShadowTag$Game", "readOnOrOff", "(I)Z"⟩, 7), (⟨"ShadowTag", "tryThing", "(I)I"⟩, 9), (⟨"ShadowTag", "cellsInShadowsOf", "(I)I"⟩, 9), (⟨"ShadowTag", "cellsInShadowsBy", "(I)I"⟩, 9), (⟨"ShadowTag$Board", "enter", "(II)V"⟩, 5), (⟨"ShadowTag", "stepsOrFarthest", "(I)I"⟩, 9), (⟨"ShadowTag", "cellsInAnyShadow", "()I"⟩, 9)]
theorem lw_r1 : ∀ q ∈ lw_privs_1, lw_okq q := List.forall_mem_cons.mpr ⟨lw_p0, List.forall_mem_cons.mpr ⟨lw_p1, List.forall_mem_cons.mpr ⟨lw_p2, List.forall_mem_cons.mpr ⟨lw_p3, List.forall_mem_cons.mpr ⟨lw_p4, List.forall_mem_cons.mpr ⟨lw_p5, List.forall_mem_cons.mpr ⟨lw_p6, List.forall_mem_cons.mpr ⟨lw_p7, List.forall_mem_cons.mpr ⟨lw_p8, List.forall_mem_cons.mpr ⟨lw_p9, List.forall_mem_cons.mpr ⟨lw_p10, List.forall_mem_cons.mpr ⟨lw_p11, List.forall_mem_cons.mpr ⟨lw_p12, List.forall_mem_cons.mpr ⟨lw_p13, List.forall_mem_cons.mpr ⟨lw_p14, List.forall_mem_cons.mpr ⟨lw_p15, fun _ h => absurd h List.not_mem_nil⟩⟩⟩⟩⟩⟩⟩⟩⟩⟩⟩⟩⟩⟩⟩⟩
theorem lw_p16 : lw_okq (⟨"ShadowTagModel", "putLamp", "(III)V"⟩, 20) := ⟨⟨by decide +kernel, by decide +kernel⟩, List.mem_of_getElem? (i := 611) (by decide +kernel), List.mem_of_getElem? (i := 617) (by decide +kernel), List.mem_of_getElem? (i := 618) (by decide +kernel)⟩
theorem lw_p17 : lw_okq (⟨"ShadowTagModel", "putAside", "()V"⟩, 20) := ⟨⟨by decide +kernel, by decide +kernel⟩, List.mem_of_getElem? (i := 611) (by decide +kernel), List.mem_of_getElem? (i := 694) (by decide +kernel), List.mem_of_getElem? (i := 695) (by decide +kernel)⟩
theorem lw_p18 : lw_okq (⟨"ShadowTagModel", "record", "()V"⟩, 20) := ⟨⟨by decide +kernel, by decide +kernel⟩, List.mem_of_getElem? (i := 611) (by decide +kernel), List.mem_of_getElem? (i := 698) (by decide +kernel), List.mem_of_getElem? (i := 699) (by decide +kernel)⟩
theorem lw_p19 : lw_okq (⟨"ShadowTagModel", "comeNow", "(II)I"⟩, 20) := ⟨⟨by decide +kernel, by decide +kernel⟩, List.mem_of_getElem? (i := 611) (by decide +kernel), List.mem_of_getElem? (i := 706) (by decide +kernel), List.mem_of_getElem? (i := 707) (by decide +kernel)⟩
theorem lw_p20 : lw_okq (⟨"ShadowTagModel", "runnerAt", "(I)I"⟩, 20) := ⟨⟨by decide +kernel, by decide +kernel⟩, List.mem_of_getElem? (i := 611) (by decide +kernel), List.mem_of_getElem? (i := 716) (by decide +kernel), List.mem_of_getElem? (i := 717) (by decide +kernel)⟩
theorem lw_p21 : lw_okq (⟨"ShadowTagModel", "of", "(II)I"⟩, 20) := ⟨⟨by decide +kernel, by decide +kernel⟩, List.mem_of_getElem? (i := 611) (by decide +kernel), List.mem_of_getElem? (i := 720) (by decide +kernel), List.mem_of_getElem? (i := 721) (by decide +kernel)⟩
theorem lw_p22 : lw_okq (⟨"ShadowTagModel", "put", "(III)V"⟩, 20) := ⟨⟨by decide +kernel, by decide +kernel⟩, List.mem_of_getElem? (i := 611) (by decide +kernel), List.mem_of_getElem? (i := 724) (by decide +kernel), List.mem_of_getElem? (i := 725) (by decide +kernel)⟩
theorem lw_p23 : lw_okq (⟨"ShadowTagModel", "acted", "(I)I"⟩, 20) := ⟨⟨by decide +kernel, by decide +kernel⟩, List.mem_of_getElem? (i := 611) (by decide +kernel), List.mem_of_getElem? (i := 728) (by decide +kernel), List.mem_of_getElem? (i := 729) (by decide +kernel)⟩
theorem lw_p24 : lw_okq (⟨"ShadowTagModel", "headNow", "(II)I"⟩, 20) := ⟨⟨by decide +kernel, by decide +kernel⟩, List.mem_of_getElem? (i := 611) (by decide +kernel), List.mem_of_getElem? (i := 736) (by decide +kernel), List.mem_of_getElem? (i := 737) (by decide +kernel)⟩
theorem lw_p25 : lw_okq (⟨"ShadowTagModel", "isRunner", "(I)Z"⟩, 20) := ⟨⟨by decide +kernel, by decide +kernel⟩, List.mem_of_getElem? (i := 611) (by decide +kernel), List.mem_of_getElem? (i := 740) (by decide +kernel), List.mem_of_getElem? (i := 741) (by decide +kernel)⟩
theorem lw_p26 : lw_okq (⟨"ShadowTagModel", "lightNow", "(II)I"⟩, 20) := ⟨⟨by decide +kernel, by decide +kernel⟩, List.mem_of_getElem? (i := 611) (by decide +kernel), List.mem_of_getElem? (i := 748) (by decide +kernel), List.mem_of_getElem? (i := 749) (by decide +kernel)⟩
theorem lw_p27 : lw_okq (⟨"ShadowTagModel", "ofLamp", "(II)I"⟩, 20) := ⟨⟨by decide +kernel, by decide +kernel⟩, List.mem_of_getElem? (i := 611) (by decide +kernel), List.mem_of_getElem? (i := 755) (by decide +kernel), List.mem_of_getElem? (i := 756) (by decide +kernel)⟩
theorem lw_p28 : lw_okq (⟨"ShadowTagModel", "lampsOn", "()I"⟩, 20) := ⟨⟨by decide +kernel, by decide +kernel⟩, List.mem_of_getElem? (i := 611) (by decide +kernel), List.mem_of_getElem? (i := 759) (by decide +kernel), List.mem_of_getElem? (i := 760) (by decide +kernel)⟩
theorem lw_p29 : lw_okq (⟨"ShadowTagModel", "setLampNow", "(III)I"⟩, 20) := ⟨⟨by decide +kernel, by decide +kernel⟩, List.mem_of_getElem? (i := 611) (by decide +kernel), List.mem_of_getElem? (i := 767) (by decide +kernel), List.mem_of_getElem? (i := 768) (by decide +kernel)⟩
theorem lw_p30 : lw_okq (⟨"ShadowTagModel", "setNow", "(II)I"⟩, 20) := ⟨⟨by decide +kernel, by decide +kernel⟩, List.mem_of_getElem? (i := 611) (by decide +kernel), List.mem_of_getElem? (i := 775) (by decide +kernel), List.mem_of_getElem? (i := 776) (by decide +kernel)⟩
theorem lw_p31 : lw_okq (⟨"ShadowTagModel", "passNow", "(I)I"⟩, 20) := ⟨⟨by decide +kernel, by decide +kernel⟩, List.mem_of_getElem? (i := 611) (by decide +kernel), List.mem_of_getElem? (i := 783) (by decide +kernel), List.mem_of_getElem? (i := 784) (by decide +kernel)⟩
def lw_privs_2 : List (MethodName × Nat) := [(⟨"ShadowTagModel", "putLamp", "(III)V"⟩, 20), (⟨"ShadowTagModel", "putAside", "()V"⟩, 20), (⟨"ShadowTagModel", "record", "()V"⟩, 20), (⟨"ShadowTagModel", "comeNow", "(II)I"⟩, 20), (⟨"ShadowTagModel", "runnerAt", "(I)I"⟩, 20), (⟨"ShadowTagModel", "of", "(II)I"⟩, 20), (⟨"ShadowTagModel", "put", "(III)V"⟩, 20), (⟨"ShadowTagModel", "acted", "(I)I"⟩, 20), (⟨"ShadowTagModel", "headNow", "(II)I"⟩, 20), (⟨"ShadowTagModel", "isRunner", "(I)Z"⟩, 20), (⟨"ShadowTagModel", "lightNow", "(II)I"⟩, 20), (⟨"ShadowTagModel", "ofLamp", "(II)I"⟩, 20), (⟨"ShadowTagModel", "lampsOn", "()I"⟩, 20), (⟨"ShadowTagModel", "setLampNow", "(III)I"⟩, 20), (⟨"ShadowTagModel", "setNow", "(II)I"⟩, 20), (⟨"ShadowTagModel", "passNow", "(I)I"⟩, 20)]
theorem lw_r2 : ∀ q ∈ lw_privs_2, lw_okq q := List.forall_mem_cons.mpr ⟨lw_p16, List.forall_mem_cons.mpr ⟨lw_p17, List.forall_mem_cons.mpr ⟨lw_p18, List.forall_mem_cons.mpr ⟨lw_p19, List.forall_mem_cons.mpr ⟨lw_p20, List.forall_mem_cons.mpr ⟨lw_p21, List.forall_mem_cons.mpr ⟨lw_p22, List.forall_mem_cons.mpr ⟨lw_p23, List.forall_mem_cons.mpr ⟨lw_p24, List.forall_mem_cons.mpr ⟨lw_p25, List.forall_mem_cons.mpr ⟨lw_p26, List.forall_mem_cons.mpr ⟨lw_p27, List.forall_mem_cons.mpr ⟨lw_p28, List.forall_mem_cons.mpr ⟨lw_p29, List.forall_mem_cons.mpr ⟨lw_p30, List.forall_mem_cons.mpr ⟨lw_p31, fun _ h => absurd h List.not_mem_nil⟩⟩⟩⟩⟩⟩⟩⟩⟩⟩⟩⟩⟩⟩⟩⟩
theorem lw_p32 : lw_okq (⟨"ShadowTagModel", "turn", "()V"⟩, 20) := ⟨⟨by decide +kernel, by decide +kernel⟩, List.mem_of_getElem? (i := 611) (by decide +kernel), List.mem_of_getElem? (i := 788) (by decide +kernel), List.mem_of_getElem? (i := 789) (by decide +kernel)⟩
theorem lw_p33 : lw_okq (⟨"ShadowTagModel", "go", "(I)V"⟩, 20) := ⟨⟨by decide +kernel, by decide +kernel⟩, List.mem_of_getElem? (i := 611) (by decide +kernel), List.mem_of_getElem? (i := 792) (by decide +kernel), List.mem_of_getElem? (i := 793) (by decide +kernel)⟩
theorem lw_p34 : lw_okq (⟨"ShadowTagModel", "tagNow", "()I"⟩, 20) := ⟨⟨by decide +kernel, by decide +kernel⟩, List.mem_of_getElem? (i := 611) (by decide +kernel), List.mem_of_getElem? (i := 799) (by decide +kernel), List.mem_of_getElem? (i := 800) (by decide +kernel)⟩
theorem lw_p35 : lw_okq (⟨"ShadowTagModel", "isInShadowOf", "(II)Z"⟩, 20) := ⟨⟨by decide +kernel, by decide +kernel⟩, List.mem_of_getElem? (i := 611) (by decide +kernel), List.mem_of_getElem? (i := 803) (by decide +kernel), List.mem_of_getElem? (i := 804) (by decide +kernel)⟩
theorem lw_p36 : lw_okq (⟨"ShadowTagModel", "isShaded", "(III)Z"⟩, 20) := ⟨⟨by decide +kernel, by decide +kernel⟩, List.mem_of_getElem? (i := 611) (by decide +kernel), List.mem_of_getElem? (i := 807) (by decide +kernel), List.mem_of_getElem? (i := 808) (by decide +kernel)⟩
theorem lw_p37 : lw_okq (⟨"ShadowTagModel", "follow", "(II)V"⟩, 20) := ⟨⟨by decide +kernel, by decide +kernel⟩, List.mem_of_getElem? (i := 611) (by decide +kernel), List.mem_of_getElem? (i := 811) (by decide +kernel), List.mem_of_getElem? (i := 812) (by decide +kernel)⟩
theorem lw_p38 : lw_okq (⟨"ShadowTagModel", "tag", "(I)V"⟩, 20) := ⟨⟨by decide +kernel, by decide +kernel⟩, List.mem_of_getElem? (i := 611) (by decide +kernel), List.mem_of_getElem? (i := 815) (by decide +kernel), List.mem_of_getElem? (i := 816) (by decide +kernel)⟩
theorem lw_p39 : lw_okq (⟨"ShadowTagModel", "turnPlatform", "()V"⟩, 20) := ⟨⟨by decide +kernel, by decide +kernel⟩, List.mem_of_getElem? (i := 611) (by decide +kernel), List.mem_of_getElem? (i := 819) (by decide +kernel), List.mem_of_getElem? (i := 820) (by decide +kernel)⟩
theorem lw_p40 : lw_okq (⟨"ShadowTagModel", "faultNow", "()I"⟩, 20) := ⟨⟨by decide +kernel, by decide +kernel⟩, List.mem_of_getElem? (i := 611) (by decide +kernel), List.mem_of_getElem? (i := 835) (by decide +kernel), List.mem_of_getElem? (i := 836) (by decide +kernel)⟩
theorem lw_p41 : lw_okq (⟨"ShadowTagModel", "readsThing", "()Z"⟩, 20) := ⟨⟨by decide +kernel, by decide +kernel⟩, List.mem_of_getElem? (i := 611) (by decide +kernel), List.mem_of_getElem? (i := 839) (by decide +kernel), List.mem_of_getElem? (i := 840) (by decide +kernel)⟩
theorem lw_p42 : lw_okq (⟨"ShadowTagModel", "code", "()I"⟩, 20) := ⟨⟨by decide +kernel, by decide +kernel⟩, List.mem_of_getElem? (i := 611) (by decide +kernel), List.mem_of_getElem? (i := 843) (by decide +kernel), List.mem_of_getElem? (i := 844) (by decide +kernel)⟩
theorem lw_p43 : lw_okq (⟨"ShadowTagModel", "takes", "(I)Z"⟩, 20) := ⟨⟨by decide +kernel, by decide +kernel⟩, List.mem_of_getElem? (i := 611) (by decide +kernel), List.mem_of_getElem? (i := 847) (by decide +kernel), List.mem_of_getElem? (i := 848) (by decide +kernel)⟩
theorem lw_p44 : lw_okq (⟨"ShadowTagModel", "readsRest", "(I)Z"⟩, 20) := ⟨⟨by decide +kernel, by decide +kernel⟩, List.mem_of_getElem? (i := 611) (by decide +kernel), List.mem_of_getElem? (i := 851) (by decide +kernel), List.mem_of_getElem? (i := 852) (by decide +kernel)⟩
theorem lw_p45 : lw_okq (⟨"ShadowTagModel", "reads", "(II)Z"⟩, 20) := ⟨⟨by decide +kernel, by decide +kernel⟩, List.mem_of_getElem? (i := 611) (by decide +kernel), List.mem_of_getElem? (i := 855) (by decide +kernel), List.mem_of_getElem? (i := 856) (by decide +kernel)⟩
theorem lw_p46 : lw_okq (⟨"ShadowTagModel", "isDigit", "()Z"⟩, 20) := ⟨⟨by decide +kernel, by decide +kernel⟩, List.mem_of_getElem? (i := 611) (by decide +kernel), List.mem_of_getElem? (i := 859) (by decide +kernel), List.mem_of_getElem? (i := 860) (by decide +kernel)⟩
theorem lw_p47 : lw_okq (⟨"ShadowTagModel", "readsDirection", "()Z"⟩, 20) := ⟨⟨by decide +kernel, by decide +kernel⟩, List.mem_of_getElem? (i := 611) (by decide +kernel), List.mem_of_getElem? (i := 863) (by decide +kernel), List.mem_of_getElem? (i := 864) (by decide +kernel)⟩
def lw_privs_3 : List (MethodName × Nat) := [(⟨"ShadowTagModel", "turn", "()V"⟩, 20), (⟨"ShadowTagModel", "go", "(I)V"⟩, 20), (⟨"ShadowTagModel", "tagNow", "()I"⟩, 20), (⟨"ShadowTagModel", "isInShadowOf", "(II)Z"⟩, 20), (⟨"ShadowTagModel", "isShaded", "(III)Z"⟩, 20), (⟨"ShadowTagModel", "follow", "(II)V"⟩, 20), (⟨"ShadowTagModel", "tag", "(I)V"⟩, 20), (⟨"ShadowTagModel", "turnPlatform", "()V"⟩, 20), (⟨"ShadowTagModel", "faultNow", "()I"⟩, 20), (⟨"ShadowTagModel", "readsThing", "()Z"⟩, 20), (⟨"ShadowTagModel", "code", "()I"⟩, 20), (⟨"ShadowTagModel", "takes", "(I)Z"⟩, 20), (⟨"ShadowTagModel", "readsRest", "(I)Z"⟩, 20), (⟨"ShadowTagModel", "reads", "(II)Z"⟩, 20), (⟨"ShadowTagModel", "isDigit", "()Z"⟩, 20), (⟨"ShadowTagModel", "readsDirection", "()Z"⟩, 20)]
theorem lw_r3 : ∀ q ∈ lw_privs_3, lw_okq q := List.forall_mem_cons.mpr ⟨lw_p32, List.forall_mem_cons.mpr ⟨lw_p33, List.forall_mem_cons.mpr ⟨lw_p34, List.forall_mem_cons.mpr ⟨lw_p35, List.forall_mem_cons.mpr ⟨lw_p36, List.forall_mem_cons.mpr ⟨lw_p37, List.forall_mem_cons.mpr ⟨lw_p38, List.forall_mem_cons.mpr ⟨lw_p39, List.forall_mem_cons.mpr ⟨lw_p40, List.forall_mem_cons.mpr ⟨lw_p41, List.forall_mem_cons.mpr ⟨lw_p42, List.forall_mem_cons.mpr ⟨lw_p43, List.forall_mem_cons.mpr ⟨lw_p44, List.forall_mem_cons.mpr ⟨lw_p45, List.forall_mem_cons.mpr ⟨lw_p46, List.forall_mem_cons.mpr ⟨lw_p47, fun _ h => absurd h List.not_mem_nil⟩⟩⟩⟩⟩⟩⟩⟩⟩⟩⟩⟩⟩⟩⟩⟩
theorem lw_p48 : lw_okq (⟨"ShadowTagModel", "doThing", "(I)I"⟩, 20) := ⟨⟨by decide +kernel, by decide +kernel⟩, List.mem_of_getElem? (i := 611) (by decide +kernel), List.mem_of_getElem? (i := 867) (by decide +kernel), List.mem_of_getElem? (i := 868) (by decide +kernel)⟩
theorem lw_p49 : lw_okq (⟨"ShadowTagModel", "putBack", "()V"⟩, 20) := ⟨⟨by decide +kernel, by decide +kernel⟩, List.mem_of_getElem? (i := 611) (by decide +kernel), List.mem_of_getElem? (i := 871) (by decide +kernel), List.mem_of_getElem? (i := 872) (by decide +kernel)⟩
theorem lw_p50 : lw_okq (⟨"ShadowTagModel", "dark", "(II)I"⟩, 20) := ⟨⟨by decide +kernel, by decide +kernel⟩, List.mem_of_getElem? (i := 611) (by decide +kernel), List.mem_of_getElem? (i := 883) (by decide +kernel), List.mem_of_getElem? (i := 884) (by decide +kernel)⟩
theorem lw_p51 : lw_okq (⟨"ShadowTagModel", "shadowsOn", "(III)I"⟩, 20) := ⟨⟨by decide +kernel, by decide +kernel⟩, List.mem_of_getElem? (i := 611) (by decide +kernel), List.mem_of_getElem? (i := 887) (by decide +kernel), List.mem_of_getElem? (i := 888) (by decide +kernel)⟩
theorem lw_p52 : lw_okq (⟨"ShadowTagModel", "hasShadow", "(I)Z"⟩, 20) := ⟨⟨by decide +kernel, by decide +kernel⟩, List.mem_of_getElem? (i := 611) (by decide +kernel), List.mem_of_getElem? (i := 915) (by decide +kernel), List.mem_of_getElem? (i := 916) (by decide +kernel)⟩
theorem lw_p53 : lw_okq (⟨"ShadowTagModel", "isSought", "(I)Z"⟩, 20) := ⟨⟨by decide +kernel, by decide +kernel⟩, List.mem_of_getElem? (i := 611) (by decide +kernel), List.mem_of_getElem? (i := 923) (by decide +kernel), List.mem_of_getElem? (i := 924) (by decide +kernel)⟩
theorem lw_p54 : lw_okq (⟨"ShadowTagModel", "way", "(I)I"⟩, 20) := ⟨⟨by decide +kernel, by decide +kernel⟩, List.mem_of_getElem? (i := 611) (by decide +kernel), List.mem_of_getElem? (i := 927) (by decide +kernel), List.mem_of_getElem? (i := 928) (by decide +kernel)⟩
theorem lw_p55 : lw_okq (⟨"ShadowTagModel", "withoutShadow", "()I"⟩, 20) := ⟨⟨by decide +kernel, by decide +kernel⟩, List.mem_of_getElem? (i := 611) (by decide +kernel), List.mem_of_getElem? (i := 943) (by decide +kernel), List.mem_of_getElem? (i := 944) (by decide +kernel)⟩
def lw_privs_4 : List (MethodName × Nat) := [(⟨"ShadowTagModel", "doThing", "(I)I"⟩, 20), (⟨"ShadowTagModel", "putBack", "()V"⟩, 20), (⟨"ShadowTagModel", "dark", "(II)I"⟩, 20), (⟨"ShadowTagModel", "shadowsOn", "(III)I"⟩, 20), (⟨"ShadowTagModel", "hasShadow", "(I)Z"⟩, 20), (⟨"ShadowTagModel", "isSought", "(I)Z"⟩, 20), (⟨"ShadowTagModel", "way", "(I)I"⟩, 20), (⟨"ShadowTagModel", "withoutShadow", "()I"⟩, 20)]
theorem lw_r4 : ∀ q ∈ lw_privs_4, lw_okq q := List.forall_mem_cons.mpr ⟨lw_p48, List.forall_mem_cons.mpr ⟨lw_p49, List.forall_mem_cons.mpr ⟨lw_p50, List.forall_mem_cons.mpr ⟨lw_p51, List.forall_mem_cons.mpr ⟨lw_p52, List.forall_mem_cons.mpr ⟨lw_p53, List.forall_mem_cons.mpr ⟨lw_p54, List.forall_mem_cons.mpr ⟨lw_p55, fun _ h => absurd h List.not_mem_nil⟩⟩⟩⟩⟩⟩⟩⟩
def lw_privs : List (MethodName × Nat) := lw_privs_1 ++ (lw_privs_2 ++ (lw_privs_3 ++ (lw_privs_4)))
def lw_tbl : List Cond := k2_sels lw_privs ++ tables_1
theorem lw_privs_ok : ∀ q ∈ lw_privs, lw_okq q := by
  show ∀ q ∈ lw_privs_1 ++ (lw_privs_2 ++ (lw_privs_3 ++ (lw_privs_4))), lw_okq q
  exact List.forall_mem_append.mpr ⟨lw_r1, List.forall_mem_append.mpr ⟨lw_r2, List.forall_mem_append.mpr ⟨lw_r3, lw_r4⟩⟩⟩
def RX0 : String := "ShadowTag$Board"
def TX0 : u_T := fun k => match k with
  | 0 => ("ShadowTag$Board", "dark", "[Z", true)
  | 1 => ("ShadowTag$Board", "barred", "[Z", true)
  | 2 => ("ShadowTag$Board", "steps", "[I", true)
  | 3 => ("ShadowTag$Board", "queue", "[I", true)
  | _ => ("ShadowTag$Board", "queued", "I", false)
def tyX0 : Nat → FieldType := fun k => match k with
  | 0 => .array .boolean
  | 1 => .array .boolean
  | 2 => .array .int
  | 3 => .array .int
  | _ => .int
abbrev wsX00 : List Cond := u_ws RX0 TX0 5
theorem nmX0 : ∀ a, a < 5 → ∀ b, b < 5 → a ≠ b → (TX0 a).2.1 ≠ (TX0 b).2.1 := by decide +kernel
theorem tyX0_ok : ∀ k, k < 5 → parseFieldDescriptor (TX0 k).2.2.1 = some (tyX0 k) := by decide +kernel
abbrev cX0_init : ByteArray := prog_2_method_1_code
def yX0_init : MethodName := ⟨RX0, "<init>", "()V"⟩
abbrev cX0_clear : ByteArray := prog_2_method_2_code
def yX0_clear : MethodName := ⟨RX0, "clear", "()V"⟩
abbrev cX0_darken : ByteArray := prog_2_method_3_code
def yX0_darken : MethodName := ⟨RX0, "darken", "(I)V"⟩
abbrev cX0_block : ByteArray := prog_2_method_4_code
def yX0_block : MethodName := ⟨RX0, "block", "(I)V"⟩
abbrev cX0_darkCells : ByteArray := prog_2_method_5_code
def yX0_darkCells : MethodName := ⟨RX0, "darkCells", "()I"⟩
abbrev cX0_stepsIntoTheDark : ByteArray := prog_2_method_6_code
def yX0_stepsIntoTheDark : MethodName := ⟨RX0, "stepsIntoTheDark", "(I)I"⟩
abbrev cX0_enter : ByteArray := prog_2_method_7_code
def yX0_enter : MethodName := ⟨RX0, "enter", "(II)V"⟩
def RX1 : String := "ShadowTag$Game"
def TX1 : u_T := fun k => match k with
  | 0 => ("ShadowTag$Game", "signs", "[C", true)
  | 1 => ("ShadowTag$Game", "length", "I", false)
  | 2 => ("ShadowTag$Game", "position", "I", false)
  | 3 => ("ShadowTag$Game", "kind", "[I", true)
  | 4 => ("ShadowTag$Game", "first", "[I", true)
  | 5 => ("ShadowTag$Game", "second", "[I", true)
  | _ => ("ShadowTag$Game", "things", "I", false)
def tyX1 : Nat → FieldType := fun k => match k with
  | 0 => .array .char
  | 1 => .int
  | 2 => .int
  | 3 => .array .int
  | 4 => .array .int
  | 5 => .array .int
  | _ => .int
abbrev wsX10 : List Cond := u_ws RX1 TX1 7
theorem nmX1 : ∀ a, a < 7 → ∀ b, b < 7 → a ≠ b → (TX1 a).2.1 ≠ (TX1 b).2.1 := by decide +kernel
theorem tyX1_ok : ∀ k, k < 7 → parseFieldDescriptor (TX1 k).2.2.1 = some (tyX1 k) := by decide +kernel
abbrev cX1_init : ByteArray := prog_3_method_1_code
def yX1_init : MethodName := ⟨RX1, "<init>", "()V"⟩
abbrev cX1_append : ByteArray := prog_3_method_2_code
def yX1_append : MethodName := ⟨RX1, "append", "(C)I"⟩
abbrev cX1_clear : ByteArray := prog_3_method_3_code
def yX1_clear : MethodName := ⟨RX1, "clear", "()I"⟩
abbrev cX1_read : ByteArray := prog_3_method_4_code
def yX1_read : MethodName := ⟨RX1, "read", "()I"⟩
abbrev cX1_readThing : ByteArray := prog_3_method_5_code
def yX1_readThing : MethodName := ⟨RX1, "readThing", "(I)Z"⟩
abbrev cX1_readNumber : ByteArray := prog_3_method_6_code
def yX1_readNumber : MethodName := ⟨RX1, "readNumber", "([IIII)Z"⟩
abbrev cX1_readDirection : ByteArray := prog_3_method_7_code
def yX1_readDirection : MethodName := ⟨RX1, "readDirection", "(I)Z"⟩
abbrev cX1_readOnOrOff : ByteArray := prog_3_method_8_code
def yX1_readOnOrOff : MethodName := ⟨RX1, "readOnOrOff", "(I)Z"⟩
abbrev cX1_readAs : ByteArray := prog_3_method_9_code
def yX1_readAs : MethodName := ⟨RX1, "readAs", "(I[II)Z"⟩
abbrev cX1_readSign : ByteArray := prog_3_method_10_code
def yX1_readSign : MethodName := ⟨RX1, "readSign", "(I)Z"⟩
abbrev cX1_nextDigit : ByteArray := prog_3_method_11_code
def yX1_nextDigit : MethodName := ⟨RX1, "nextDigit", "()I"⟩
abbrev cX1_nextSign : ByteArray := prog_3_method_12_code
def yX1_nextSign : MethodName := ⟨RX1, "nextSign", "()I"⟩
def RX2 : String := "ShadowTag$History"
def TX2 : u_T := fun k => match k with
  | 0 => ("ShadowTag$History", "ring", "[LShadowTag$Platform;", true)
  | 1 => ("ShadowTag$History", "oldest", "I", false)
  | _ => ("ShadowTag$History", "states", "I", false)
def tyX2 : Nat → FieldType := fun k => match k with
  | 0 => .array (.object "ShadowTag$Platform")
  | 1 => .int
  | _ => .int
abbrev wsX20 : List Cond := u_ws RX2 TX2 3
theorem nmX2 : ∀ a, a < 3 → ∀ b, b < 3 → a ≠ b → (TX2 a).2.1 ≠ (TX2 b).2.1 := by decide +kernel
theorem tyX2_ok : ∀ k, k < 3 → parseFieldDescriptor (TX2 k).2.2.1 = some (tyX2 k) := by decide +kernel
abbrev cX2_init : ByteArray := prog_4_method_1_code
def yX2_init : MethodName := ⟨RX2, "<init>", "()V"⟩
abbrev cX2_record : ByteArray := prog_4_method_2_code
def yX2_record : MethodName := ⟨RX2, "record", "(LShadowTag$Platform;)V"⟩
abbrev cX2_takeBack : ByteArray := prog_4_method_3_code
def yX2_takeBack : MethodName := ⟨RX2, "takeBack", "(LShadowTag$Platform;)Z"⟩
def RX3 : String := "ShadowTag$Lamps"
def TX3 : u_T := fun k => match k with
  | 0 => ("ShadowTag$Lamps", "side", "[I", true)
  | 1 => ("ShadowTag$Lamps", "reach", "[I", true)
  | 2 => ("ShadowTag$Lamps", "swing", "[I", true)
  | _ => ("ShadowTag$Lamps", "on", "[I", true)
def tyX3 : Nat → FieldType := fun k => match k with
  | 0 => .array .int
  | 1 => .array .int
  | 2 => .array .int
  | _ => .array .int
abbrev wsX30 : List Cond := u_ws RX3 TX3 4
theorem nmX3 : ∀ a, a < 4 → ∀ b, b < 4 → a ≠ b → (TX3 a).2.1 ≠ (TX3 b).2.1 := by decide +kernel
theorem tyX3_ok : ∀ k, k < 4 → parseFieldDescriptor (TX3 k).2.2.1 = some (tyX3 k) := by decide +kernel
abbrev cX3_init : ByteArray := prog_5_method_1_code
def yX3_init : MethodName := ⟨RX3, "<init>", "()V"⟩
abbrev cX3_copyFrom : ByteArray := prog_5_method_2_code
def yX3_copyFrom : MethodName := ⟨RX3, "copyFrom", "(LShadowTag$Lamps;)V"⟩
abbrev cX3_burning : ByteArray := prog_5_method_3_code
def yX3_burning : MethodName := ⟨RX3, "burning", "()I"⟩
abbrev cX3_switchTo : ByteArray := prog_5_method_4_code
def yX3_switchTo : MethodName := ⟨RX3, "switchTo", "(II)I"⟩
abbrev cX3_adjust : ByteArray := prog_5_method_5_code
def yX3_adjust : MethodName := ⟨RX3, "adjust", "(III)I"⟩
abbrev cX3_swingAtTurn : ByteArray := prog_5_method_6_code
def yX3_swingAtTurn : MethodName := ⟨RX3, "swingAtTurn", "(I)V"⟩
def RX4 : String := "ShadowTag$Platform"
def TX4 : u_T := fun k => match k with
  | 0 => ("ShadowTag$Platform", "runners", "LShadowTag$Runners;", true)
  | 1 => ("ShadowTag$Platform", "lamps", "LShadowTag$Lamps;", true)
  | 2 => ("ShadowTag$Platform", "settings", "[I", true)
  | 3 => ("ShadowTag$Platform", "turn", "I", false)
  | _ => ("ShadowTag$Platform", "spins", "I", false)
def tyX4 : Nat → FieldType := fun k => match k with
  | 0 => .object "ShadowTag$Runners"
  | 1 => .object "ShadowTag$Lamps"
  | 2 => .array .int
  | 3 => .int
  | _ => .int
abbrev wsX40 : List Cond := u_ws RX4 TX4 5
theorem nmX4 : ∀ a, a < 5 → ∀ b, b < 5 → a ≠ b → (TX4 a).2.1 ≠ (TX4 b).2.1 := by decide +kernel
theorem tyX4_ok : ∀ k, k < 5 → parseFieldDescriptor (TX4 k).2.2.1 = some (tyX4 k) := by decide +kernel
abbrev cX4_init : ByteArray := prog_6_method_1_code
def yX4_init : MethodName := ⟨RX4, "<init>", "()V"⟩
abbrev cX4_copyFrom : ByteArray := prog_6_method_2_code
def yX4_copyFrom : MethodName := ⟨RX4, "copyFrom", "(LShadowTag$Platform;)V"⟩
abbrev cX4_takeTurns : ByteArray := prog_6_method_3_code
def yX4_takeTurns : MethodName := ⟨RX4, "takeTurns", "(I)I"⟩
abbrev cX4_takeTurn : ByteArray := prog_6_method_4_code
def yX4_takeTurn : MethodName := ⟨RX4, "takeTurn", "()Z"⟩
abbrev cX4_firstCaught : ByteArray := prog_6_method_5_code
def yX4_firstCaught : MethodName := ⟨RX4, "firstCaught", "()I"⟩
abbrev cX4_catcherStandsInShadowOf : ByteArray := prog_6_method_6_code
def yX4_catcherStandsInShadowOf : MethodName := ⟨RX4, "catcherStandsInShadowOf", "(I)Z"⟩
abbrev cX4_isInShadow : ByteArray := prog_6_method_7_code
def yX4_isInShadow : MethodName := ⟨RX4, "isInShadow", "(III)Z"⟩
abbrev cX4_shadowLength : ByteArray := prog_6_method_8_code
def yX4_shadowLength : MethodName := ⟨RX4, "shadowLength", "(II)I"⟩
abbrev cX4_shadowEnd : ByteArray := prog_6_method_9_code
def yX4_shadowEnd : MethodName := ⟨RX4, "shadowEnd", "(II)I"⟩
abbrev cX4_hasShadow : ByteArray := prog_6_method_10_code
def yX4_hasShadow : MethodName := ⟨RX4, "hasShadow", "(I)Z"⟩
abbrev cX4_runnersWithoutShadow : ByteArray := prog_6_method_11_code
def yX4_runnersWithoutShadow : MethodName := ⟨RX4, "runnersWithoutShadow", "()I"⟩
abbrev cX4_shadowerOf : ByteArray := prog_6_method_12_code
def yX4_shadowerOf : MethodName := ⟨RX4, "shadowerOf", "(II)I"⟩
abbrev cX4_darkenShadowsOf : ByteArray := prog_6_method_13_code
def yX4_darkenShadowsOf : MethodName := ⟨RX4, "darkenShadowsOf", "(ILShadowTag$Board;)V"⟩
abbrev cX4_darkenShadow : ByteArray := prog_6_method_14_code
def yX4_darkenShadow : MethodName := ⟨RX4, "darkenShadow", "(IILShadowTag$Board;)V"⟩
def RX5 : String := "ShadowTag$Runners"
def TX5 : u_T := fun k => match k with
  | 0 => ("ShadowTag$Runners", "cell", "[I", true)
  | 1 => ("ShadowTag$Runners", "height", "[I", true)
  | 2 => ("ShadowTag$Runners", "direction", "[I", true)
  | 3 => ("ShadowTag$Runners", "respite", "[I", true)
  | 4 => ("ShadowTag$Runners", "tagged", "[I", true)
  | 5 => ("ShadowTag$Runners", "tagging", "[I", true)
  | 6 => ("ShadowTag$Runners", "account", "[I", true)
  | 7 => ("ShadowTag$Runners", "number", "I", false)
  | 8 => ("ShadowTag$Runners", "catcher", "I", false)
  | 9 => ("ShadowTag$Runners", "tags", "I", false)
  | 10 => ("ShadowTag$Runners", "steps", "I", false)
  | _ => ("ShadowTag$Runners", "stops", "I", false)
def tyX5 : Nat → FieldType := fun k => match k with
  | 0 => .array .int
  | 1 => .array .int
  | 2 => .array .int
  | 3 => .array .int
  | 4 => .array .int
  | 5 => .array .int
  | 6 => .array .int
  | 7 => .int
  | 8 => .int
  | 9 => .int
  | 10 => .int
  | _ => .int
abbrev wsX50 : List Cond := u_ws RX5 TX5 12
theorem nmX5 : ∀ a, a < 12 → ∀ b, b < 12 → a ≠ b → (TX5 a).2.1 ≠ (TX5 b).2.1 := by decide +kernel
theorem tyX5_ok : ∀ k, k < 12 → parseFieldDescriptor (TX5 k).2.2.1 = some (tyX5 k) := by decide +kernel
abbrev cX5_init : ByteArray := prog_7_method_1_code
def yX5_init : MethodName := ⟨RX5, "<init>", "()V"⟩
abbrev cX5_copyFrom : ByteArray := prog_7_method_2_code
def yX5_copyFrom : MethodName := ⟨RX5, "copyFrom", "(LShadowTag$Runners;)V"⟩
abbrev cX5_has : ByteArray := prog_7_method_3_code
def yX5_has : MethodName := ⟨RX5, "has", "(I)Z"⟩
abbrev cX5_standingOn : ByteArray := prog_7_method_4_code
def yX5_standingOn : MethodName := ⟨RX5, "standingOn", "(I)I"⟩
abbrev cX5_welcome : ByteArray := prog_7_method_5_code
def yX5_welcome : MethodName := ⟨RX5, "welcome", "(II)I"⟩
abbrev cX5_steer : ByteArray := prog_7_method_6_code
def yX5_steer : MethodName := ⟨RX5, "steer", "(II)I"⟩
abbrev cX5_stepAll : ByteArray := prog_7_method_7_code
def yX5_stepAll : MethodName := ⟨RX5, "stepAll", "()V"⟩
abbrev cX5_step : ByteArray := prog_7_method_8_code
def yX5_step : MethodName := ⟨RX5, "step", "(I)V"⟩
abbrev cX5_handOver : ByteArray := prog_7_method_9_code
def yX5_handOver : MethodName := ⟨RX5, "handOver", "(II)V"⟩
abbrev cX5_shortenRespites : ByteArray := prog_7_method_10_code
def yX5_shortenRespites : MethodName := ⟨RX5, "shortenRespites", "()V"⟩
abbrev cX5_addToAccounts : ByteArray := prog_7_method_11_code
def yX5_addToAccounts : MethodName := ⟨RX5, "addToAccounts", "()V"⟩
abbrev cX5_spin : ByteArray := prog_7_method_12_code
def yX5_spin : MethodName := ⟨RX5, "spin", "()V"⟩
def RX6 : String := "ShadowTag"
def TX6 : u_T := fun k => match k with
  | 0 => ("ShadowTag", "platform", "LShadowTag$Platform;", true)
  | 1 => ("ShadowTag", "trial", "LShadowTag$Platform;", true)
  | 2 => ("ShadowTag", "snapshot", "LShadowTag$Platform;", true)
  | 3 => ("ShadowTag", "history", "LShadowTag$History;", true)
  | 4 => ("ShadowTag", "game", "LShadowTag$Game;", true)
  | 5 => ("ShadowTag", "board", "LShadowTag$Board;", true)
  | 6 => ("ShadowTag", "hasSnapshot", "Z", false)
  | 7 => ("ShadowTag", "stopNumber", "I", false)
  | _ => ("ShadowTag", "stopError", "I", false)
def tyX6 : Nat → FieldType := fun k => match k with
  | 0 => .object "ShadowTag$Platform"
  | 1 => .object "ShadowTag$Platform"
  | 2 => .object "ShadowTag$Platform"
  | 3 => .object "ShadowTag$History"
  | 4 => .object "ShadowTag$Game"
  | 5 => .object "ShadowTag$Board"
  | 6 => .boolean
  | 7 => .int
  | _ => .int
abbrev wsX60 : List Cond := u_ws RX6 TX6 9
theorem nmX6 : ∀ a, a < 9 → ∀ b, b < 9 → a ≠ b → (TX6 a).2.1 ≠ (TX6 b).2.1 := by decide +kernel
theorem tyX6_ok : ∀ k, k < 9 → parseFieldDescriptor (TX6 k).2.2.1 = some (tyX6 k) := by decide +kernel
abbrev cX6_init : ByteArray := prog_1_method_1_code
def yX6_init : MethodName := ⟨RX6, "<init>", "()V"⟩
abbrev cX6_come : ByteArray := prog_1_method_2_code
def yX6_come : MethodName := ⟨RX6, "come", "(II)I"⟩
abbrev cX6_head : ByteArray := prog_1_method_3_code
def yX6_head : MethodName := ⟨RX6, "head", "(II)I"⟩
abbrev cX6_light : ByteArray := prog_1_method_4_code
def yX6_light : MethodName := ⟨RX6, "light", "(IZ)I"⟩
abbrev cX6_setLamp : ByteArray := prog_1_method_5_code
def yX6_setLamp : MethodName := ⟨RX6, "setLamp", "(III)I"⟩
abbrev cX6_set : ByteArray := prog_1_method_6_code
def yX6_set : MethodName := ⟨RX6, "set", "(II)I"⟩
abbrev cX6_pass : ByteArray := prog_1_method_7_code
def yX6_pass : MethodName := ⟨RX6, "pass", "(I)I"⟩
abbrev cX6_type : ByteArray := prog_1_method_8_code
def yX6_type : MethodName := ⟨RX6, "type", "(C)I"⟩
abbrev cX6_clearText : ByteArray := prog_1_method_9_code
def yX6_clearText : MethodName := ⟨RX6, "clearText", "()I"⟩
abbrev cX6_perform : ByteArray := prog_1_method_10_code
def yX6_perform : MethodName := ⟨RX6, "perform", "()I"⟩
abbrev cX6_stopped : ByteArray := prog_1_method_11_code
def yX6_stopped : MethodName := ⟨RX6, "stopped", "(I)I"⟩
abbrev cX6_undo : ByteArray := prog_1_method_12_code
def yX6_undo : MethodName := ⟨RX6, "undo", "()I"⟩
abbrev cX6_keep : ByteArray := prog_1_method_13_code
def yX6_keep : MethodName := ⟨RX6, "keep", "()I"⟩
abbrev cX6_restore : ByteArray := prog_1_method_14_code
def yX6_restore : MethodName := ⟨RX6, "restore", "()I"⟩
abbrev cX6_runner : ByteArray := prog_1_method_15_code
def yX6_runner : MethodName := ⟨RX6, "runner", "(II)I"⟩
abbrev cX6_lamp : ByteArray := prog_1_method_16_code
def yX6_lamp : MethodName := ⟨RX6, "lamp", "(II)I"⟩
abbrev cX6_shadow : ByteArray := prog_1_method_17_code
def yX6_shadow : MethodName := ⟨RX6, "shadow", "(III)I"⟩
abbrev cX6_darkness : ByteArray := prog_1_method_18_code
def yX6_darkness : MethodName := ⟨RX6, "darkness", "(I)I"⟩
abbrev cX6_looked : ByteArray := prog_1_method_19_code
def yX6_looked : MethodName := ⟨RX6, "looked", "(I)I"⟩
abbrev cX6_at : ByteArray := prog_1_method_20_code
def yX6_at : MethodName := ⟨RX6, "at", "(I)I"⟩
abbrev cX6_reason : ByteArray := prog_1_method_21_code
def yX6_reason : MethodName := ⟨RX6, "reason", "(I)I"⟩
abbrev cX6_stepsTo : ByteArray := prog_1_method_22_code
def yX6_stepsTo : MethodName := ⟨RX6, "stepsTo", "(I)I"⟩
abbrev cX6_safest : ByteArray := prog_1_method_23_code
def yX6_safest : MethodName := ⟨RX6, "safest", "()I"⟩
abbrev cX6_ifTurns : ByteArray := prog_1_method_24_code
def yX6_ifTurns : MethodName := ⟨RX6, "ifTurns", "(II)I"⟩
abbrev cX6_count : ByteArray := prog_1_method_25_code
def yX6_count : MethodName := ⟨RX6, "count", "(I)I"⟩
abbrev cX6_takeOver : ByteArray := prog_1_method_26_code
def yX6_takeOver : MethodName := ⟨RX6, "takeOver", "(I)I"⟩
abbrev cX6_tryThing : ByteArray := prog_1_method_27_code
def yX6_tryThing : MethodName := ⟨RX6, "tryThing", "(I)I"⟩
abbrev cX6_cellsInShadowsOf : ByteArray := prog_1_method_28_code
def yX6_cellsInShadowsOf : MethodName := ⟨RX6, "cellsInShadowsOf", "(I)I"⟩
abbrev cX6_cellsInShadowsBy : ByteArray := prog_1_method_29_code
def yX6_cellsInShadowsBy : MethodName := ⟨RX6, "cellsInShadowsBy", "(I)I"⟩
abbrev cX6_cellsInAnyShadow : ByteArray := prog_1_method_30_code
def yX6_cellsInAnyShadow : MethodName := ⟨RX6, "cellsInAnyShadow", "()I"⟩
abbrev cX6_stepsOrFarthest : ByteArray := prog_1_method_31_code
def yX6_stepsOrFarthest : MethodName := ⟨RX6, "stepsOrFarthest", "(I)I"⟩
abbrev cX6_isCell : ByteArray := prog_1_method_32_code
def yX6_isCell : MethodName := ⟨RX6, "isCell", "(I)Z"⟩
abbrev cX6_isLamp : ByteArray := prog_1_method_33_code
def yX6_isLamp : MethodName := ⟨RX6, "isLamp", "(I)Z"⟩
abbrev cX6_replace : ByteArray := prog_1_method_34_code
def yX6_replace : MethodName := ⟨RX6, "replace", "([IIIII)I"⟩
abbrev cX6_copyRow : ByteArray := prog_1_method_35_code
def yX6_copyRow : MethodName := ⟨RX6, "copyRow", "([I[I)V"⟩
abbrev cX6_opposite : ByteArray := prog_1_method_36_code
def yX6_opposite : MethodName := ⟨RX6, "opposite", "(I)I"⟩
abbrev cX6_cellsToEdge : ByteArray := prog_1_method_37_code
def yX6_cellsToEdge : MethodName := ⟨RX6, "cellsToEdge", "(II)I"⟩
abbrev cX6_cellAlong : ByteArray := prog_1_method_38_code
def yX6_cellAlong : MethodName := ⟨RX6, "cellAlong", "(III)I"⟩
abbrev cX6_distanceAlong : ByteArray := prog_1_method_39_code
def yX6_distanceAlong : MethodName := ⟨RX6, "distanceAlong", "(III)I"⟩
def RX7 : String := "ShadowTagModel"
def TX7 : u_T := fun k => match k with
  | 0 => ("ShadowTagModel", "row", "[I", true)
  | 1 => ("ShadowTagModel", "history", "[I", true)
  | 2 => ("ShadowTagModel", "states", "I", false)
  | 3 => ("ShadowTagModel", "snapshot", "[I", true)
  | 4 => ("ShadowTagModel", "isKept", "Z", false)
  | 5 => ("ShadowTagModel", "aside", "[I", true)
  | 6 => ("ShadowTagModel", "shade", "[I", true)
  | 7 => ("ShadowTagModel", "shadeMany", "I", false)
  | 8 => ("ShadowTagModel", "endsAt", "I", false)
  | 9 => ("ShadowTagModel", "text", "[I", true)
  | 10 => ("ShadowTagModel", "length", "I", false)
  | 11 => ("ShadowTagModel", "spot", "I", false)
  | 12 => ("ShadowTagModel", "number", "I", false)
  | 13 => ("ShadowTagModel", "things", "I", false)
  | 14 => ("ShadowTagModel", "sign", "[I", true)
  | 15 => ("ShadowTagModel", "one", "[I", true)
  | 16 => ("ShadowTagModel", "two", "[I", true)
  | 17 => ("ShadowTagModel", "stopThing", "I", false)
  | 18 => ("ShadowTagModel", "stopError", "I", false)
  | _ => ("ShadowTagModel", "far", "[I", true)
def tyX7 : Nat → FieldType := fun k => match k with
  | 0 => .array .int
  | 1 => .array .int
  | 2 => .int
  | 3 => .array .int
  | 4 => .boolean
  | 5 => .array .int
  | 6 => .array .int
  | 7 => .int
  | 8 => .int
  | 9 => .array .int
  | 10 => .int
  | 11 => .int
  | 12 => .int
  | 13 => .int
  | 14 => .array .int
  | 15 => .array .int
  | 16 => .array .int
  | 17 => .int
  | 18 => .int
  | _ => .array .int
abbrev wsX70 : List Cond := u_ws RX7 TX7 20
theorem nmX7 : ∀ a, a < 20 → ∀ b, b < 20 → a ≠ b → (TX7 a).2.1 ≠ (TX7 b).2.1 := by decide +kernel
theorem tyX7_ok : ∀ k, k < 20 → parseFieldDescriptor (TX7 k).2.2.1 = some (tyX7 k) := by decide +kernel
abbrev cX7_init : ByteArray := prog_9_method_1_code
def yX7_init : MethodName := ⟨RX7, "<init>", "()V"⟩
abbrev cX7_in : ByteArray := prog_9_method_2_code
def yX7_in : MethodName := ⟨RX7, "in", "(III)Z"⟩
abbrev cX7_isCell : ByteArray := prog_9_method_3_code
def yX7_isCell : MethodName := ⟨RX7, "isCell", "(I)Z"⟩
abbrev cX7_isRunner : ByteArray := prog_9_method_4_code
def yX7_isRunner : MethodName := ⟨RX7, "isRunner", "(I)Z"⟩
abbrev cX7_isLamp : ByteArray := prog_9_method_5_code
def yX7_isLamp : MethodName := ⟨RX7, "isLamp", "(I)Z"⟩
abbrev cX7_of : ByteArray := prog_9_method_6_code
def yX7_of : MethodName := ⟨RX7, "of", "(II)I"⟩
abbrev cX7_put : ByteArray := prog_9_method_7_code
def yX7_put : MethodName := ⟨RX7, "put", "(III)V"⟩
abbrev cX7_ofLamp : ByteArray := prog_9_method_8_code
def yX7_ofLamp : MethodName := ⟨RX7, "ofLamp", "(II)I"⟩
abbrev cX7_putLamp : ByteArray := prog_9_method_9_code
def yX7_putLamp : MethodName := ⟨RX7, "putLamp", "(III)V"⟩
abbrev cX7_putAside : ByteArray := prog_9_method_10_code
def yX7_putAside : MethodName := ⟨RX7, "putAside", "()V"⟩
abbrev cX7_putBack : ByteArray := prog_9_method_11_code
def yX7_putBack : MethodName := ⟨RX7, "putBack", "()V"⟩
abbrev cX7_record : ByteArray := prog_9_method_12_code
def yX7_record : MethodName := ⟨RX7, "record", "()V"⟩
abbrev cX7_acted : ByteArray := prog_9_method_13_code
def yX7_acted : MethodName := ⟨RX7, "acted", "(I)I"⟩
abbrev cX7_undo : ByteArray := prog_9_method_14_code
def yX7_undo : MethodName := ⟨RX7, "undo", "()I"⟩
abbrev cX7_keep : ByteArray := prog_9_method_15_code
def yX7_keep : MethodName := ⟨RX7, "keep", "()I"⟩
abbrev cX7_restore : ByteArray := prog_9_method_16_code
def yX7_restore : MethodName := ⟨RX7, "restore", "()I"⟩
abbrev cX7_next : ByteArray := prog_9_method_17_code
def yX7_next : MethodName := ⟨RX7, "next", "(II)I"⟩
abbrev cX7_runnerAt : ByteArray := prog_9_method_18_code
def yX7_runnerAt : MethodName := ⟨RX7, "runnerAt", "(I)I"⟩
abbrev cX7_follow : ByteArray := prog_9_method_19_code
def yX7_follow : MethodName := ⟨RX7, "follow", "(II)V"⟩
abbrev cX7_isShaded : ByteArray := prog_9_method_20_code
def yX7_isShaded : MethodName := ⟨RX7, "isShaded", "(III)Z"⟩
abbrev cX7_isInShadowOf : ByteArray := prog_9_method_21_code
def yX7_isInShadowOf : MethodName := ⟨RX7, "isInShadowOf", "(II)Z"⟩
abbrev cX7_hasShadow : ByteArray := prog_9_method_22_code
def yX7_hasShadow : MethodName := ⟨RX7, "hasShadow", "(I)Z"⟩
abbrev cX7_go : ByteArray := prog_9_method_23_code
def yX7_go : MethodName := ⟨RX7, "go", "(I)V"⟩
abbrev cX7_tagNow : ByteArray := prog_9_method_24_code
def yX7_tagNow : MethodName := ⟨RX7, "tagNow", "()I"⟩
abbrev cX7_tag : ByteArray := prog_9_method_25_code
def yX7_tag : MethodName := ⟨RX7, "tag", "(I)V"⟩
abbrev cX7_turnPlatform : ByteArray := prog_9_method_26_code
def yX7_turnPlatform : MethodName := ⟨RX7, "turnPlatform", "()V"⟩
abbrev cX7_turn : ByteArray := prog_9_method_27_code
def yX7_turn : MethodName := ⟨RX7, "turn", "()V"⟩
abbrev cX7_comeNow : ByteArray := prog_9_method_28_code
def yX7_comeNow : MethodName := ⟨RX7, "comeNow", "(II)I"⟩
abbrev cX7_headNow : ByteArray := prog_9_method_29_code
def yX7_headNow : MethodName := ⟨RX7, "headNow", "(II)I"⟩
abbrev cX7_lampsOn : ByteArray := prog_9_method_30_code
def yX7_lampsOn : MethodName := ⟨RX7, "lampsOn", "()I"⟩
abbrev cX7_lightNow : ByteArray := prog_9_method_31_code
def yX7_lightNow : MethodName := ⟨RX7, "lightNow", "(II)I"⟩
abbrev cX7_setLampNow : ByteArray := prog_9_method_32_code
def yX7_setLampNow : MethodName := ⟨RX7, "setLampNow", "(III)I"⟩
abbrev cX7_setNow : ByteArray := prog_9_method_33_code
def yX7_setNow : MethodName := ⟨RX7, "setNow", "(II)I"⟩
abbrev cX7_passNow : ByteArray := prog_9_method_34_code
def yX7_passNow : MethodName := ⟨RX7, "passNow", "(I)I"⟩
abbrev cX7_come : ByteArray := prog_9_method_35_code
def yX7_come : MethodName := ⟨RX7, "come", "(II)I"⟩
abbrev cX7_head : ByteArray := prog_9_method_36_code
def yX7_head : MethodName := ⟨RX7, "head", "(II)I"⟩
abbrev cX7_light : ByteArray := prog_9_method_37_code
def yX7_light : MethodName := ⟨RX7, "light", "(IZ)I"⟩
abbrev cX7_setLamp : ByteArray := prog_9_method_38_code
def yX7_setLamp : MethodName := ⟨RX7, "setLamp", "(III)I"⟩
abbrev cX7_set : ByteArray := prog_9_method_39_code
def yX7_set : MethodName := ⟨RX7, "set", "(II)I"⟩
abbrev cX7_pass : ByteArray := prog_9_method_40_code
def yX7_pass : MethodName := ⟨RX7, "pass", "(I)I"⟩
abbrev cX7_type : ByteArray := prog_9_method_41_code
def yX7_type : MethodName := ⟨RX7, "type", "(C)I"⟩
abbrev cX7_clearText : ByteArray := prog_9_method_42_code
def yX7_clearText : MethodName := ⟨RX7, "clearText", "()I"⟩
abbrev cX7_code : ByteArray := prog_9_method_43_code
def yX7_code : MethodName := ⟨RX7, "code", "()I"⟩
abbrev cX7_takes : ByteArray := prog_9_method_44_code
def yX7_takes : MethodName := ⟨RX7, "takes", "(I)Z"⟩
abbrev cX7_isDigit : ByteArray := prog_9_method_45_code
def yX7_isDigit : MethodName := ⟨RX7, "isDigit", "()Z"⟩
abbrev cX7_reads : ByteArray := prog_9_method_46_code
def yX7_reads : MethodName := ⟨RX7, "reads", "(II)Z"⟩
abbrev cX7_readsDirection : ByteArray := prog_9_method_47_code
def yX7_readsDirection : MethodName := ⟨RX7, "readsDirection", "()Z"⟩
abbrev cX7_readsRest : ByteArray := prog_9_method_48_code
def yX7_readsRest : MethodName := ⟨RX7, "readsRest", "(I)Z"⟩
abbrev cX7_readsThing : ByteArray := prog_9_method_49_code
def yX7_readsThing : MethodName := ⟨RX7, "readsThing", "()Z"⟩
abbrev cX7_faultNow : ByteArray := prog_9_method_50_code
def yX7_faultNow : MethodName := ⟨RX7, "faultNow", "()I"⟩
abbrev cX7_doThing : ByteArray := prog_9_method_51_code
def yX7_doThing : MethodName := ⟨RX7, "doThing", "(I)I"⟩
abbrev cX7_perform : ByteArray := prog_9_method_52_code
def yX7_perform : MethodName := ⟨RX7, "perform", "()I"⟩
abbrev cX7_stopped : ByteArray := prog_9_method_53_code
def yX7_stopped : MethodName := ⟨RX7, "stopped", "(I)I"⟩
abbrev cX7_shadowsOn : ByteArray := prog_9_method_54_code
def yX7_shadowsOn : MethodName := ⟨RX7, "shadowsOn", "(III)I"⟩
abbrev cX7_dark : ByteArray := prog_9_method_55_code
def yX7_dark : MethodName := ⟨RX7, "dark", "(II)I"⟩
abbrev cX7_runner : ByteArray := prog_9_method_56_code
def yX7_runner : MethodName := ⟨RX7, "runner", "(II)I"⟩
abbrev cX7_lamp : ByteArray := prog_9_method_57_code
def yX7_lamp : MethodName := ⟨RX7, "lamp", "(II)I"⟩
abbrev cX7_shadow : ByteArray := prog_9_method_58_code
def yX7_shadow : MethodName := ⟨RX7, "shadow", "(III)I"⟩
abbrev cX7_darkness : ByteArray := prog_9_method_59_code
def yX7_darkness : MethodName := ⟨RX7, "darkness", "(I)I"⟩
abbrev cX7_looked : ByteArray := prog_9_method_60_code
def yX7_looked : MethodName := ⟨RX7, "looked", "(I)I"⟩
abbrev cX7_at : ByteArray := prog_9_method_61_code
def yX7_at : MethodName := ⟨RX7, "at", "(I)I"⟩
abbrev cX7_reason : ByteArray := prog_9_method_62_code
def yX7_reason : MethodName := ⟨RX7, "reason", "(I)I"⟩
abbrev cX7_way : ByteArray := prog_9_method_63_code
def yX7_way : MethodName := ⟨RX7, "way", "(I)I"⟩
abbrev cX7_isSought : ByteArray := prog_9_method_64_code
def yX7_isSought : MethodName := ⟨RX7, "isSought", "(I)Z"⟩
abbrev cX7_stepsTo : ByteArray := prog_9_method_65_code
def yX7_stepsTo : MethodName := ⟨RX7, "stepsTo", "(I)I"⟩
abbrev cX7_safest : ByteArray := prog_9_method_66_code
def yX7_safest : MethodName := ⟨RX7, "safest", "()I"⟩
abbrev cX7_ifTurns : ByteArray := prog_9_method_67_code
def yX7_ifTurns : MethodName := ⟨RX7, "ifTurns", "(II)I"⟩
abbrev cX7_withoutShadow : ByteArray := prog_9_method_68_code
def yX7_withoutShadow : MethodName := ⟨RX7, "withoutShadow", "()I"⟩
abbrev cX7_count : ByteArray := prog_9_method_69_code
def yX7_count : MethodName := ⟨RX7, "count", "(I)I"⟩
def RJ9 : String := "java/lang/Math"
def TJ9 : u_T := fun k => match k with
  | _ => ("", "", "", false)
def tyJ9 : Nat → FieldType := fun k => match k with
  | _ => .int
abbrev cJ9_min_7cf53 : ByteArray := prog_10_method_69_code
def yJ9_min_7cf53 : MethodName := ⟨RJ9, "min", "(II)I"⟩
def RJ10 : String := "java/lang/System"
def TJ10 : u_T := fun k => match k with
  | _ => ("", "", "", false)
def tyJ10 : Nat → FieldType := fun k => match k with
  | _ => .int
def RL : String := "ShadowTagLaw"
abbrev cL_law : ByteArray := code
def yL_law : MethodName := ⟨RL, "law", "([I)Z"⟩
abbrev vwCl : List vw_C := [(RX0, TX0, 5), (RX1, TX1, 7), (RX2, TX2, 3), (RX3, TX3, 4), (RX4, TX4, 5), (RX5, TX5, 12), (RX6, TX6, 9), (RX7, TX7, 20)]
end
section
theorem dX0_init_0 : decode cX0_init 0 = .ok (.aload_n 0, 1) := by decide +kernel
theorem dX0_init_1 : decode cX0_init 1 = .ok (.invokespecial 3, 3) := by decide +kernel
theorem dX0_init_4 : decode cX0_init 4 = .ok (.aload_n 0, 1) := by decide +kernel
theorem dX0_init_5 : decode cX0_init 5 = .ok (.bipush 100, 2) := by decide +kernel
theorem dX0_init_7 : decode cX0_init 7 = .ok (.newarray .boolean, 2) := by decide +kernel
theorem dX0_init_9 : decode cX0_init 9 = .ok (.putfield 9, 3) := by decide +kernel
theorem dX0_init_12 : decode cX0_init 12 = .ok (.aload_n 0, 1) := by decide +kernel
theorem dX0_init_13 : decode cX0_init 13 = .ok (.bipush 100, 2) := by decide +kernel
theorem dX0_init_15 : decode cX0_init 15 = .ok (.newarray .boolean, 2) := by decide +kernel
theorem dX0_init_17 : decode cX0_init 17 = .ok (.putfield 15, 3) := by decide +kernel
theorem dX0_init_20 : decode cX0_init 20 = .ok (.aload_n 0, 1) := by decide +kernel
theorem dX0_init_21 : decode cX0_init 21 = .ok (.bipush 100, 2) := by decide +kernel
theorem dX0_init_23 : decode cX0_init 23 = .ok (.newarray .int, 2) := by decide +kernel
theorem dX0_init_25 : decode cX0_init 25 = .ok (.putfield 18, 3) := by decide +kernel
theorem dX0_init_28 : decode cX0_init 28 = .ok (.aload_n 0, 1) := by decide +kernel
theorem dX0_init_29 : decode cX0_init 29 = .ok (.bipush 100, 2) := by decide +kernel
theorem dX0_init_31 : decode cX0_init 31 = .ok (.newarray .int, 2) := by decide +kernel
theorem dX0_init_33 : decode cX0_init 33 = .ok (.putfield 22, 3) := by decide +kernel
theorem dX0_init_36 : decode cX0_init 36 = .ok (.aload_n 0, 1) := by decide +kernel
theorem dX0_init_37 : decode cX0_init 37 = .ok (.iconst 0, 1) := by decide +kernel
theorem dX0_init_38 : decode cX0_init 38 = .ok (.putfield 25, 3) := by decide +kernel
theorem dX0_init_41 : decode cX0_init 41 = .ok (.return_, 1) := by decide +kernel
theorem dX0_clear_0 : decode cX0_clear 0 = .ok (.aload_n 0, 1) := by decide +kernel
theorem dX0_clear_1 : decode cX0_clear 1 = .ok (.iconst 0, 1) := by decide +kernel
theorem dX0_clear_2 : decode cX0_clear 2 = .ok (.putfield 25, 3) := by decide +kernel
theorem dX0_clear_5 : decode cX0_clear 5 = .ok (.iconst 0, 1) := by decide +kernel
theorem dX0_clear_6 : decode cX0_clear 6 = .ok (.istore_n 1, 1) := by decide +kernel
theorem dX0_clear_7 : decode cX0_clear 7 = .ok (.iload_n 1, 1) := by decide +kernel
theorem dX0_clear_8 : decode cX0_clear 8 = .ok (.bipush 100, 2) := by decide +kernel
theorem dX0_clear_10 : decode cX0_clear 10 = .ok (.if_icmp .ge 23, 3) := by decide +kernel
theorem dX0_clear_13 : decode cX0_clear 13 = .ok (.aload_n 0, 1) := by decide +kernel
theorem dX0_clear_14 : decode cX0_clear 14 = .ok (.getfield 9, 3) := by decide +kernel
theorem dX0_clear_17 : decode cX0_clear 17 = .ok (.iload_n 1, 1) := by decide +kernel
theorem dX0_clear_18 : decode cX0_clear 18 = .ok (.iconst 0, 1) := by decide +kernel
theorem dX0_clear_19 : decode cX0_clear 19 = .ok (.bastore, 1) := by decide +kernel
theorem dX0_clear_20 : decode cX0_clear 20 = .ok (.aload_n 0, 1) := by decide +kernel
theorem dX0_clear_21 : decode cX0_clear 21 = .ok (.getfield 15, 3) := by decide +kernel
theorem dX0_clear_24 : decode cX0_clear 24 = .ok (.iload_n 1, 1) := by decide +kernel
theorem dX0_clear_25 : decode cX0_clear 25 = .ok (.iconst 0, 1) := by decide +kernel
theorem dX0_clear_26 : decode cX0_clear 26 = .ok (.bastore, 1) := by decide +kernel
theorem dX0_clear_27 : decode cX0_clear 27 = .ok (.iinc 1 1, 3) := by decide +kernel
theorem dX0_clear_30 : decode cX0_clear 30 = .ok (.goto (-23), 3) := by decide +kernel
theorem dX0_clear_33 : decode cX0_clear 33 = .ok (.return_, 1) := by decide +kernel
theorem dX0_darken_0 : decode cX0_darken 0 = .ok (.iload_n 1, 1) := by decide +kernel
theorem dX0_darken_1 : decode cX0_darken 1 = .ok (.invokestatic 29, 3) := by decide +kernel
theorem dX0_darken_4 : decode cX0_darken 4 = .ok (.ifCond .eq 10, 3) := by decide +kernel
theorem dX0_darken_7 : decode cX0_darken 7 = .ok (.aload_n 0, 1) := by decide +kernel
theorem dX0_darken_8 : decode cX0_darken 8 = .ok (.getfield 9, 3) := by decide +kernel
theorem dX0_darken_11 : decode cX0_darken 11 = .ok (.iload_n 1, 1) := by decide +kernel
theorem dX0_darken_12 : decode cX0_darken 12 = .ok (.iconst 1, 1) := by decide +kernel
theorem dX0_darken_13 : decode cX0_darken 13 = .ok (.bastore, 1) := by decide +kernel
theorem dX0_darken_14 : decode cX0_darken 14 = .ok (.return_, 1) := by decide +kernel
theorem dX0_block_0 : decode cX0_block 0 = .ok (.iload_n 1, 1) := by decide +kernel
theorem dX0_block_1 : decode cX0_block 1 = .ok (.invokestatic 29, 3) := by decide +kernel
theorem dX0_block_4 : decode cX0_block 4 = .ok (.ifCond .eq 10, 3) := by decide +kernel
theorem dX0_block_7 : decode cX0_block 7 = .ok (.aload_n 0, 1) := by decide +kernel
theorem dX0_block_8 : decode cX0_block 8 = .ok (.getfield 15, 3) := by decide +kernel
theorem dX0_block_11 : decode cX0_block 11 = .ok (.iload_n 1, 1) := by decide +kernel
theorem dX0_block_12 : decode cX0_block 12 = .ok (.iconst 1, 1) := by decide +kernel
theorem dX0_block_13 : decode cX0_block 13 = .ok (.bastore, 1) := by decide +kernel
theorem dX0_block_14 : decode cX0_block 14 = .ok (.return_, 1) := by decide +kernel
theorem dX0_darkCells_0 : decode cX0_darkCells 0 = .ok (.iconst 0, 1) := by decide +kernel
theorem dX0_darkCells_1 : decode cX0_darkCells 1 = .ok (.istore_n 1, 1) := by decide +kernel
theorem dX0_darkCells_2 : decode cX0_darkCells 2 = .ok (.iconst 0, 1) := by decide +kernel
theorem dX0_darkCells_3 : decode cX0_darkCells 3 = .ok (.istore_n 2, 1) := by decide +kernel
theorem dX0_darkCells_4 : decode cX0_darkCells 4 = .ok (.iload_n 2, 1) := by decide +kernel
theorem dX0_darkCells_5 : decode cX0_darkCells 5 = .ok (.bipush 100, 2) := by decide +kernel
theorem dX0_darkCells_7 : decode cX0_darkCells 7 = .ok (.if_icmp .ge 21, 3) := by decide +kernel
theorem dX0_darkCells_10 : decode cX0_darkCells 10 = .ok (.aload_n 0, 1) := by decide +kernel
theorem dX0_darkCells_11 : decode cX0_darkCells 11 = .ok (.getfield 9, 3) := by decide +kernel
theorem dX0_darkCells_14 : decode cX0_darkCells 14 = .ok (.iload_n 2, 1) := by decide +kernel
theorem dX0_darkCells_15 : decode cX0_darkCells 15 = .ok (.baload, 1) := by decide +kernel
theorem dX0_darkCells_16 : decode cX0_darkCells 16 = .ok (.ifCond .eq 6, 3) := by decide +kernel
theorem dX0_darkCells_19 : decode cX0_darkCells 19 = .ok (.iinc 1 1, 3) := by decide +kernel
theorem dX0_darkCells_22 : decode cX0_darkCells 22 = .ok (.iinc 2 1, 3) := by decide +kernel
theorem dX0_darkCells_25 : decode cX0_darkCells 25 = .ok (.goto (-21), 3) := by decide +kernel
theorem dX0_darkCells_28 : decode cX0_darkCells 28 = .ok (.iload_n 1, 1) := by decide +kernel
theorem dX0_darkCells_29 : decode cX0_darkCells 29 = .ok (.ireturn, 1) := by decide +kernel
theorem dX0_stepsIntoTheDark_0 : decode cX0_stepsIntoTheDark 0 = .ok (.aload_n 0, 1) := by decide +kernel
theorem dX0_stepsIntoTheDark_1 : decode cX0_stepsIntoTheDark 1 = .ok (.iload_n 1, 1) := by decide +kernel
theorem dX0_stepsIntoTheDark_2 : decode cX0_stepsIntoTheDark 2 = .ok (.iconst 0, 1) := by decide +kernel
theorem dX0_stepsIntoTheDark_3 : decode cX0_stepsIntoTheDark 3 = .ok (.invokevirtual 33, 3) := by decide +kernel
theorem dX0_stepsIntoTheDark_6 : decode cX0_stepsIntoTheDark 6 = .ok (.iconst 0, 1) := by decide +kernel
theorem dX0_stepsIntoTheDark_7 : decode cX0_stepsIntoTheDark 7 = .ok (.istore_n 2, 1) := by decide +kernel
theorem dX0_stepsIntoTheDark_8 : decode cX0_stepsIntoTheDark 8 = .ok (.iload_n 2, 1) := by decide +kernel
theorem dX0_stepsIntoTheDark_9 : decode cX0_stepsIntoTheDark 9 = .ok (.aload_n 0, 1) := by decide +kernel
theorem dX0_stepsIntoTheDark_10 : decode cX0_stepsIntoTheDark 10 = .ok (.getfield 25, 3) := by decide +kernel
theorem dX0_stepsIntoTheDark_13 : decode cX0_stepsIntoTheDark 13 = .ok (.if_icmp .ge 91, 3) := by decide +kernel
theorem dX0_stepsIntoTheDark_16 : decode cX0_stepsIntoTheDark 16 = .ok (.iload_n 2, 1) := by decide +kernel
theorem dX0_stepsIntoTheDark_17 : decode cX0_stepsIntoTheDark 17 = .ok (.bipush 100, 2) := by decide +kernel
theorem dX0_stepsIntoTheDark_19 : decode cX0_stepsIntoTheDark 19 = .ok (.if_icmp .ge 85, 3) := by decide +kernel
theorem dX0_stepsIntoTheDark_22 : decode cX0_stepsIntoTheDark 22 = .ok (.aload_n 0, 1) := by decide +kernel
theorem dX0_stepsIntoTheDark_23 : decode cX0_stepsIntoTheDark 23 = .ok (.getfield 22, 3) := by decide +kernel
theorem dX0_stepsIntoTheDark_26 : decode cX0_stepsIntoTheDark 26 = .ok (.iload_n 2, 1) := by decide +kernel
theorem dX0_stepsIntoTheDark_27 : decode cX0_stepsIntoTheDark 27 = .ok (.iaload, 1) := by decide +kernel
theorem dX0_stepsIntoTheDark_28 : decode cX0_stepsIntoTheDark 28 = .ok (.istore_n 3, 1) := by decide +kernel
theorem dX0_stepsIntoTheDark_29 : decode cX0_stepsIntoTheDark 29 = .ok (.iload_n 3, 1) := by decide +kernel
theorem dX0_stepsIntoTheDark_30 : decode cX0_stepsIntoTheDark 30 = .ok (.invokestatic 29, 3) := by decide +kernel
theorem dX0_stepsIntoTheDark_33 : decode cX0_stepsIntoTheDark 33 = .ok (.ifCond .ne 6, 3) := by decide +kernel
theorem dX0_stepsIntoTheDark_36 : decode cX0_stepsIntoTheDark 36 = .ok (.bipush (-5), 2) := by decide +kernel
theorem dX0_stepsIntoTheDark_38 : decode cX0_stepsIntoTheDark 38 = .ok (.ireturn, 1) := by decide +kernel
theorem dX0_stepsIntoTheDark_39 : decode cX0_stepsIntoTheDark 39 = .ok (.aload_n 0, 1) := by decide +kernel
theorem dX0_stepsIntoTheDark_40 : decode cX0_stepsIntoTheDark 40 = .ok (.getfield 9, 3) := by decide +kernel
theorem dX0_stepsIntoTheDark_43 : decode cX0_stepsIntoTheDark 43 = .ok (.iload_n 3, 1) := by decide +kernel
theorem dX0_stepsIntoTheDark_44 : decode cX0_stepsIntoTheDark 44 = .ok (.baload, 1) := by decide +kernel
theorem dX0_stepsIntoTheDark_45 : decode cX0_stepsIntoTheDark 45 = .ok (.ifCond .eq 10, 3) := by decide +kernel
theorem dX0_stepsIntoTheDark_48 : decode cX0_stepsIntoTheDark 48 = .ok (.aload_n 0, 1) := by decide +kernel
theorem dX0_stepsIntoTheDark_49 : decode cX0_stepsIntoTheDark 49 = .ok (.getfield 18, 3) := by decide +kernel
theorem dX0_stepsIntoTheDark_52 : decode cX0_stepsIntoTheDark 52 = .ok (.iload_n 3, 1) := by decide +kernel
theorem dX0_stepsIntoTheDark_53 : decode cX0_stepsIntoTheDark 53 = .ok (.iaload, 1) := by decide +kernel
theorem dX0_stepsIntoTheDark_54 : decode cX0_stepsIntoTheDark 54 = .ok (.ireturn, 1) := by decide +kernel
theorem dX0_stepsIntoTheDark_55 : decode cX0_stepsIntoTheDark 55 = .ok (.iconst 0, 1) := by decide +kernel
theorem dX0_stepsIntoTheDark_56 : decode cX0_stepsIntoTheDark 56 = .ok (.istore 4, 2) := by decide +kernel
theorem dX0_stepsIntoTheDark_58 : decode cX0_stepsIntoTheDark 58 = .ok (.iload 4, 2) := by decide +kernel
theorem dX0_stepsIntoTheDark_60 : decode cX0_stepsIntoTheDark 60 = .ok (.iconst 4, 1) := by decide +kernel
theorem dX0_stepsIntoTheDark_61 : decode cX0_stepsIntoTheDark 61 = .ok (.if_icmp .ge 37, 3) := by decide +kernel
theorem dX0_stepsIntoTheDark_64 : decode cX0_stepsIntoTheDark 64 = .ok (.iload_n 3, 1) := by decide +kernel
theorem dX0_stepsIntoTheDark_65 : decode cX0_stepsIntoTheDark 65 = .ok (.iload 4, 2) := by decide +kernel
theorem dX0_stepsIntoTheDark_67 : decode cX0_stepsIntoTheDark 67 = .ok (.invokestatic 37, 3) := by decide +kernel
theorem dX0_stepsIntoTheDark_70 : decode cX0_stepsIntoTheDark 70 = .ok (.ifCond .le 22, 3) := by decide +kernel
theorem dX0_stepsIntoTheDark_73 : decode cX0_stepsIntoTheDark 73 = .ok (.aload_n 0, 1) := by decide +kernel
theorem dX0_stepsIntoTheDark_74 : decode cX0_stepsIntoTheDark 74 = .ok (.iload_n 3, 1) := by decide +kernel
theorem dX0_stepsIntoTheDark_75 : decode cX0_stepsIntoTheDark 75 = .ok (.iload 4, 2) := by decide +kernel
theorem dX0_stepsIntoTheDark_77 : decode cX0_stepsIntoTheDark 77 = .ok (.iconst 1, 1) := by decide +kernel
theorem dX0_stepsIntoTheDark_78 : decode cX0_stepsIntoTheDark 78 = .ok (.invokestatic 41, 3) := by decide +kernel
theorem dX0_stepsIntoTheDark_81 : decode cX0_stepsIntoTheDark 81 = .ok (.aload_n 0, 1) := by decide +kernel
theorem dX0_stepsIntoTheDark_82 : decode cX0_stepsIntoTheDark 82 = .ok (.getfield 18, 3) := by decide +kernel
theorem dX0_stepsIntoTheDark_85 : decode cX0_stepsIntoTheDark 85 = .ok (.iload_n 3, 1) := by decide +kernel
theorem dX0_stepsIntoTheDark_86 : decode cX0_stepsIntoTheDark 86 = .ok (.iaload, 1) := by decide +kernel
theorem dX0_stepsIntoTheDark_87 : decode cX0_stepsIntoTheDark 87 = .ok (.iconst 1, 1) := by decide +kernel
theorem dX0_stepsIntoTheDark_88 : decode cX0_stepsIntoTheDark 88 = .ok (.iadd, 1) := by decide +kernel
theorem dX0_stepsIntoTheDark_89 : decode cX0_stepsIntoTheDark 89 = .ok (.invokevirtual 33, 3) := by decide +kernel
theorem dX0_stepsIntoTheDark_92 : decode cX0_stepsIntoTheDark 92 = .ok (.iinc 4 1, 3) := by decide +kernel
theorem dX0_stepsIntoTheDark_95 : decode cX0_stepsIntoTheDark 95 = .ok (.goto (-37), 3) := by decide +kernel
theorem dX0_stepsIntoTheDark_98 : decode cX0_stepsIntoTheDark 98 = .ok (.iinc 2 1, 3) := by decide +kernel
theorem dX0_stepsIntoTheDark_101 : decode cX0_stepsIntoTheDark 101 = .ok (.goto (-93), 3) := by decide +kernel
theorem dX0_stepsIntoTheDark_104 : decode cX0_stepsIntoTheDark 104 = .ok (.bipush (-5), 2) := by decide +kernel
theorem dX0_stepsIntoTheDark_106 : decode cX0_stepsIntoTheDark 106 = .ok (.ireturn, 1) := by decide +kernel
theorem dX0_enter_0 : decode cX0_enter 0 = .ok (.iload_n 1, 1) := by decide +kernel
theorem dX0_enter_1 : decode cX0_enter 1 = .ok (.invokestatic 29, 3) := by decide +kernel
theorem dX0_enter_4 : decode cX0_enter 4 = .ok (.ifCond .eq 55, 3) := by decide +kernel
theorem dX0_enter_7 : decode cX0_enter 7 = .ok (.aload_n 0, 1) := by decide +kernel
theorem dX0_enter_8 : decode cX0_enter 8 = .ok (.getfield 15, 3) := by decide +kernel
theorem dX0_enter_11 : decode cX0_enter 11 = .ok (.iload_n 1, 1) := by decide +kernel
theorem dX0_enter_12 : decode cX0_enter 12 = .ok (.baload, 1) := by decide +kernel
theorem dX0_enter_13 : decode cX0_enter 13 = .ok (.ifCond .ne 46, 3) := by decide +kernel
theorem dX0_enter_16 : decode cX0_enter 16 = .ok (.aload_n 0, 1) := by decide +kernel
theorem dX0_enter_17 : decode cX0_enter 17 = .ok (.getfield 25, 3) := by decide +kernel
theorem dX0_enter_20 : decode cX0_enter 20 = .ok (.bipush 100, 2) := by decide +kernel
theorem dX0_enter_22 : decode cX0_enter 22 = .ok (.if_icmp .ge 37, 3) := by decide +kernel
theorem dX0_enter_25 : decode cX0_enter 25 = .ok (.aload_n 0, 1) := by decide +kernel
theorem dX0_enter_26 : decode cX0_enter 26 = .ok (.getfield 15, 3) := by decide +kernel
theorem dX0_enter_29 : decode cX0_enter 29 = .ok (.iload_n 1, 1) := by decide +kernel
theorem dX0_enter_30 : decode cX0_enter 30 = .ok (.iconst 1, 1) := by decide +kernel
theorem dX0_enter_31 : decode cX0_enter 31 = .ok (.bastore, 1) := by decide +kernel
theorem dX0_enter_32 : decode cX0_enter 32 = .ok (.aload_n 0, 1) := by decide +kernel
theorem dX0_enter_33 : decode cX0_enter 33 = .ok (.getfield 18, 3) := by decide +kernel
theorem dX0_enter_36 : decode cX0_enter 36 = .ok (.iload_n 1, 1) := by decide +kernel
theorem dX0_enter_37 : decode cX0_enter 37 = .ok (.iload_n 2, 1) := by decide +kernel
theorem dX0_enter_38 : decode cX0_enter 38 = .ok (.iastore, 1) := by decide +kernel
theorem dX0_enter_39 : decode cX0_enter 39 = .ok (.aload_n 0, 1) := by decide +kernel
theorem dX0_enter_40 : decode cX0_enter 40 = .ok (.getfield 22, 3) := by decide +kernel
theorem dX0_enter_43 : decode cX0_enter 43 = .ok (.aload_n 0, 1) := by decide +kernel
theorem dX0_enter_44 : decode cX0_enter 44 = .ok (.getfield 25, 3) := by decide +kernel
theorem dX0_enter_47 : decode cX0_enter 47 = .ok (.iload_n 1, 1) := by decide +kernel
theorem dX0_enter_48 : decode cX0_enter 48 = .ok (.iastore, 1) := by decide +kernel
theorem dX0_enter_49 : decode cX0_enter 49 = .ok (.aload_n 0, 1) := by decide +kernel
theorem dX0_enter_50 : decode cX0_enter 50 = .ok (.dup, 1) := by decide +kernel
theorem dX0_enter_51 : decode cX0_enter 51 = .ok (.getfield 25, 3) := by decide +kernel
theorem dX0_enter_54 : decode cX0_enter 54 = .ok (.iconst 1, 1) := by decide +kernel
theorem dX0_enter_55 : decode cX0_enter 55 = .ok (.iadd, 1) := by decide +kernel
theorem dX0_enter_56 : decode cX0_enter 56 = .ok (.putfield 25, 3) := by decide +kernel
theorem dX0_enter_59 : decode cX0_enter 59 = .ok (.return_, 1) := by decide +kernel
theorem dX1_init_0 : decode cX1_init 0 = .ok (.aload_n 0, 1) := by decide +kernel
theorem dX1_init_1 : decode cX1_init 1 = .ok (.invokespecial 3, 3) := by decide +kernel
theorem dX1_init_4 : decode cX1_init 4 = .ok (.aload_n 0, 1) := by decide +kernel
theorem dX1_init_5 : decode cX1_init 5 = .ok (.bipush 60, 2) := by decide +kernel
theorem dX1_init_7 : decode cX1_init 7 = .ok (.newarray .char, 2) := by decide +kernel
theorem dX1_init_9 : decode cX1_init 9 = .ok (.putfield 9, 3) := by decide +kernel
theorem dX1_init_12 : decode cX1_init 12 = .ok (.aload_n 0, 1) := by decide +kernel
theorem dX1_init_13 : decode cX1_init 13 = .ok (.iconst 0, 1) := by decide +kernel
theorem dX1_init_14 : decode cX1_init 14 = .ok (.putfield 15, 3) := by decide +kernel
theorem dX1_init_17 : decode cX1_init 17 = .ok (.aload_n 0, 1) := by decide +kernel
theorem dX1_init_18 : decode cX1_init 18 = .ok (.iconst 0, 1) := by decide +kernel
theorem dX1_init_19 : decode cX1_init 19 = .ok (.putfield 19, 3) := by decide +kernel
theorem dX1_init_22 : decode cX1_init 22 = .ok (.aload_n 0, 1) := by decide +kernel
theorem dX1_init_23 : decode cX1_init 23 = .ok (.bipush 20, 2) := by decide +kernel
theorem dX1_init_25 : decode cX1_init 25 = .ok (.newarray .int, 2) := by decide +kernel
theorem dX1_init_27 : decode cX1_init 27 = .ok (.putfield 22, 3) := by decide +kernel
theorem dX1_init_30 : decode cX1_init 30 = .ok (.aload_n 0, 1) := by decide +kernel
theorem dX1_init_31 : decode cX1_init 31 = .ok (.bipush 20, 2) := by decide +kernel
theorem dX1_init_33 : decode cX1_init 33 = .ok (.newarray .int, 2) := by decide +kernel
theorem dX1_init_35 : decode cX1_init 35 = .ok (.putfield 26, 3) := by decide +kernel
theorem dX1_init_38 : decode cX1_init 38 = .ok (.aload_n 0, 1) := by decide +kernel
theorem dX1_init_39 : decode cX1_init 39 = .ok (.bipush 20, 2) := by decide +kernel
theorem dX1_init_41 : decode cX1_init 41 = .ok (.newarray .int, 2) := by decide +kernel
theorem dX1_init_43 : decode cX1_init 43 = .ok (.putfield 29, 3) := by decide +kernel
theorem dX1_init_46 : decode cX1_init 46 = .ok (.aload_n 0, 1) := by decide +kernel
theorem dX1_init_47 : decode cX1_init 47 = .ok (.iconst 0, 1) := by decide +kernel
theorem dX1_init_48 : decode cX1_init 48 = .ok (.putfield 32, 3) := by decide +kernel
theorem dX1_init_51 : decode cX1_init 51 = .ok (.return_, 1) := by decide +kernel
theorem dX1_append_0 : decode cX1_append 0 = .ok (.aload_n 0, 1) := by decide +kernel
theorem dX1_append_1 : decode cX1_append 1 = .ok (.getfield 15, 3) := by decide +kernel
theorem dX1_append_4 : decode cX1_append 4 = .ok (.bipush 60, 2) := by decide +kernel
theorem dX1_append_6 : decode cX1_append 6 = .ok (.if_icmp .lt 6, 3) := by decide +kernel
theorem dX1_append_9 : decode cX1_append 9 = .ok (.bipush (-3), 2) := by decide +kernel
theorem dX1_append_11 : decode cX1_append 11 = .ok (.ireturn, 1) := by decide +kernel
theorem dX1_append_12 : decode cX1_append 12 = .ok (.aload_n 0, 1) := by decide +kernel
theorem dX1_append_13 : decode cX1_append 13 = .ok (.getfield 9, 3) := by decide +kernel
theorem dX1_append_16 : decode cX1_append 16 = .ok (.aload_n 0, 1) := by decide +kernel
theorem dX1_append_17 : decode cX1_append 17 = .ok (.getfield 15, 3) := by decide +kernel
theorem dX1_append_20 : decode cX1_append 20 = .ok (.iload_n 1, 1) := by decide +kernel
theorem dX1_append_21 : decode cX1_append 21 = .ok (.castore, 1) := by decide +kernel
theorem dX1_append_22 : decode cX1_append 22 = .ok (.aload_n 0, 1) := by decide +kernel
theorem dX1_append_23 : decode cX1_append 23 = .ok (.dup, 1) := by decide +kernel
theorem dX1_append_24 : decode cX1_append 24 = .ok (.getfield 15, 3) := by decide +kernel
theorem dX1_append_27 : decode cX1_append 27 = .ok (.iconst 1, 1) := by decide +kernel
theorem dX1_append_28 : decode cX1_append 28 = .ok (.iadd, 1) := by decide +kernel
theorem dX1_append_29 : decode cX1_append 29 = .ok (.putfield 15, 3) := by decide +kernel
theorem dX1_append_32 : decode cX1_append 32 = .ok (.aload_n 0, 1) := by decide +kernel
theorem dX1_append_33 : decode cX1_append 33 = .ok (.getfield 15, 3) := by decide +kernel
theorem dX1_append_36 : decode cX1_append 36 = .ok (.ireturn, 1) := by decide +kernel
theorem dX1_clear_0 : decode cX1_clear 0 = .ok (.aload_n 0, 1) := by decide +kernel
theorem dX1_clear_1 : decode cX1_clear 1 = .ok (.getfield 15, 3) := by decide +kernel
theorem dX1_clear_4 : decode cX1_clear 4 = .ok (.istore_n 1, 1) := by decide +kernel
theorem dX1_clear_5 : decode cX1_clear 5 = .ok (.aload_n 0, 1) := by decide +kernel
theorem dX1_clear_6 : decode cX1_clear 6 = .ok (.iconst 0, 1) := by decide +kernel
theorem dX1_clear_7 : decode cX1_clear 7 = .ok (.putfield 15, 3) := by decide +kernel
theorem dX1_clear_10 : decode cX1_clear 10 = .ok (.iload_n 1, 1) := by decide +kernel
theorem dX1_clear_11 : decode cX1_clear 11 = .ok (.ireturn, 1) := by decide +kernel
theorem dX1_read_0 : decode cX1_read 0 = .ok (.aload_n 0, 1) := by decide +kernel
theorem dX1_read_1 : decode cX1_read 1 = .ok (.iconst 0, 1) := by decide +kernel
theorem dX1_read_2 : decode cX1_read 2 = .ok (.putfield 19, 3) := by decide +kernel
theorem dX1_read_5 : decode cX1_read 5 = .ok (.aload_n 0, 1) := by decide +kernel
theorem dX1_read_6 : decode cX1_read 6 = .ok (.iconst 0, 1) := by decide +kernel
theorem dX1_read_7 : decode cX1_read 7 = .ok (.putfield 32, 3) := by decide +kernel
theorem dX1_read_10 : decode cX1_read 10 = .ok (.iconst 0, 1) := by decide +kernel
theorem dX1_read_11 : decode cX1_read 11 = .ok (.istore_n 1, 1) := by decide +kernel
theorem dX1_read_12 : decode cX1_read 12 = .ok (.iload_n 1, 1) := by decide +kernel
theorem dX1_read_13 : decode cX1_read 13 = .ok (.bipush 20, 2) := by decide +kernel
theorem dX1_read_15 : decode cX1_read 15 = .ok (.if_icmp .ge 56, 3) := by decide +kernel
theorem dX1_read_18 : decode cX1_read 18 = .ok (.aload_n 0, 1) := by decide +kernel
theorem dX1_read_19 : decode cX1_read 19 = .ok (.iload_n 1, 1) := by decide +kernel
theorem dX1_read_20 : decode cX1_read 20 = .ok (.invokevirtual 35, 3) := by decide +kernel
theorem dX1_read_23 : decode cX1_read 23 = .ok (.ifCond .ne 8, 3) := by decide +kernel
theorem dX1_read_26 : decode cX1_read 26 = .ok (.aload_n 0, 1) := by decide +kernel
theorem dX1_read_27 : decode cX1_read 27 = .ok (.getfield 19, 3) := by decide +kernel
theorem dX1_read_30 : decode cX1_read 30 = .ok (.ireturn, 1) := by decide +kernel
theorem dX1_read_31 : decode cX1_read 31 = .ok (.aload_n 0, 1) := by decide +kernel
theorem dX1_read_32 : decode cX1_read 32 = .ok (.iload_n 1, 1) := by decide +kernel
theorem dX1_read_33 : decode cX1_read 33 = .ok (.iconst 1, 1) := by decide +kernel
theorem dX1_read_34 : decode cX1_read 34 = .ok (.iadd, 1) := by decide +kernel
theorem dX1_read_35 : decode cX1_read 35 = .ok (.putfield 32, 3) := by decide +kernel
theorem dX1_read_38 : decode cX1_read 38 = .ok (.aload_n 0, 1) := by decide +kernel
theorem dX1_read_39 : decode cX1_read 39 = .ok (.getfield 19, 3) := by decide +kernel
theorem dX1_read_42 : decode cX1_read 42 = .ok (.aload_n 0, 1) := by decide +kernel
theorem dX1_read_43 : decode cX1_read 43 = .ok (.getfield 15, 3) := by decide +kernel
theorem dX1_read_46 : decode cX1_read 46 = .ok (.if_icmp .lt 5, 3) := by decide +kernel
theorem dX1_read_49 : decode cX1_read 49 = .ok (.iconst (-1), 1) := by decide +kernel
theorem dX1_read_50 : decode cX1_read 50 = .ok (.ireturn, 1) := by decide +kernel
theorem dX1_read_51 : decode cX1_read 51 = .ok (.aload_n 0, 1) := by decide +kernel
theorem dX1_read_52 : decode cX1_read 52 = .ok (.bipush 59, 2) := by decide +kernel
theorem dX1_read_54 : decode cX1_read 54 = .ok (.invokevirtual 39, 3) := by decide +kernel
theorem dX1_read_57 : decode cX1_read 57 = .ok (.ifCond .ne 8, 3) := by decide +kernel
theorem dX1_read_60 : decode cX1_read 60 = .ok (.aload_n 0, 1) := by decide +kernel
theorem dX1_read_61 : decode cX1_read 61 = .ok (.getfield 19, 3) := by decide +kernel
theorem dX1_read_64 : decode cX1_read 64 = .ok (.ireturn, 1) := by decide +kernel
theorem dX1_read_65 : decode cX1_read 65 = .ok (.iinc 1 1, 3) := by decide +kernel
theorem dX1_read_68 : decode cX1_read 68 = .ok (.goto (-56), 3) := by decide +kernel
theorem dX1_read_71 : decode cX1_read 71 = .ok (.aload_n 0, 1) := by decide +kernel
theorem dX1_read_72 : decode cX1_read 72 = .ok (.getfield 19, 3) := by decide +kernel
theorem dX1_read_75 : decode cX1_read 75 = .ok (.ireturn, 1) := by decide +kernel
theorem dX1_readThing_0 : decode cX1_readThing 0 = .ok (.aload_n 0, 1) := by decide +kernel
theorem dX1_readThing_1 : decode cX1_readThing 1 = .ok (.invokevirtual 42, 3) := by decide +kernel
theorem dX1_readThing_4 : decode cX1_readThing 4 = .ok (.istore_n 2, 1) := by decide +kernel
theorem dX1_readThing_5 : decode cX1_readThing 5 = .ok (.iload_n 2, 1) := by decide +kernel
theorem dX1_readThing_6 : decode cX1_readThing 6 = .ok (.lookupswitch 215 #[(46, 181), (100, 99), (108, 140), (114, 42)], 42) := by decide +kernel
theorem dX1_readThing_48 : decode cX1_readThing 48 = .ok (.aload_n 0, 1) := by decide +kernel
theorem dX1_readThing_49 : decode cX1_readThing 49 = .ok (.iload_n 2, 1) := by decide +kernel
theorem dX1_readThing_50 : decode cX1_readThing 50 = .ok (.aload_n 0, 1) := by decide +kernel
theorem dX1_readThing_51 : decode cX1_readThing 51 = .ok (.getfield 22, 3) := by decide +kernel
theorem dX1_readThing_54 : decode cX1_readThing 54 = .ok (.iload_n 1, 1) := by decide +kernel
theorem dX1_readThing_55 : decode cX1_readThing 55 = .ok (.invokevirtual 46, 3) := by decide +kernel
theorem dX1_readThing_58 : decode cX1_readThing 58 = .ok (.ifCond .eq 45, 3) := by decide +kernel
theorem dX1_readThing_61 : decode cX1_readThing 61 = .ok (.aload_n 0, 1) := by decide +kernel
theorem dX1_readThing_62 : decode cX1_readThing 62 = .ok (.aload_n 0, 1) := by decide +kernel
theorem dX1_readThing_63 : decode cX1_readThing 63 = .ok (.getfield 26, 3) := by decide +kernel
theorem dX1_readThing_66 : decode cX1_readThing 66 = .ok (.iload_n 1, 1) := by decide +kernel
theorem dX1_readThing_67 : decode cX1_readThing 67 = .ok (.iconst 0, 1) := by decide +kernel
theorem dX1_readThing_68 : decode cX1_readThing 68 = .ok (.bipush 99, 2) := by decide +kernel
theorem dX1_readThing_70 : decode cX1_readThing 70 = .ok (.invokevirtual 50, 3) := by decide +kernel
theorem dX1_readThing_73 : decode cX1_readThing 73 = .ok (.ifCond .eq 30, 3) := by decide +kernel
theorem dX1_readThing_76 : decode cX1_readThing 76 = .ok (.aload_n 0, 1) := by decide +kernel
theorem dX1_readThing_77 : decode cX1_readThing 77 = .ok (.bipush 104, 2) := by decide +kernel
theorem dX1_readThing_79 : decode cX1_readThing 79 = .ok (.invokevirtual 39, 3) := by decide +kernel
theorem dX1_readThing_82 : decode cX1_readThing 82 = .ok (.ifCond .eq 21, 3) := by decide +kernel
theorem dX1_readThing_85 : decode cX1_readThing 85 = .ok (.aload_n 0, 1) := by decide +kernel
theorem dX1_readThing_86 : decode cX1_readThing 86 = .ok (.aload_n 0, 1) := by decide +kernel
theorem dX1_readThing_87 : decode cX1_readThing 87 = .ok (.getfield 29, 3) := by decide +kernel
theorem dX1_readThing_90 : decode cX1_readThing 90 = .ok (.iload_n 1, 1) := by decide +kernel
theorem dX1_readThing_91 : decode cX1_readThing 91 = .ok (.iconst 1, 1) := by decide +kernel
theorem dX1_readThing_92 : decode cX1_readThing 92 = .ok (.iconst 5, 1) := by decide +kernel
theorem dX1_readThing_93 : decode cX1_readThing 93 = .ok (.invokevirtual 50, 3) := by decide +kernel
theorem dX1_readThing_96 : decode cX1_readThing 96 = .ok (.ifCond .eq 7, 3) := by decide +kernel
theorem dX1_readThing_99 : decode cX1_readThing 99 = .ok (.iconst 1, 1) := by decide +kernel
theorem dX1_readThing_100 : decode cX1_readThing 100 = .ok (.goto 4, 3) := by decide +kernel
theorem dX1_readThing_103 : decode cX1_readThing 103 = .ok (.iconst 0, 1) := by decide +kernel
theorem dX1_readThing_104 : decode cX1_readThing 104 = .ok (.ireturn, 1) := by decide +kernel
theorem dX1_readThing_105 : decode cX1_readThing 105 = .ok (.aload_n 0, 1) := by decide +kernel
theorem dX1_readThing_106 : decode cX1_readThing 106 = .ok (.iload_n 2, 1) := by decide +kernel
theorem dX1_readThing_107 : decode cX1_readThing 107 = .ok (.aload_n 0, 1) := by decide +kernel
theorem dX1_readThing_108 : decode cX1_readThing 108 = .ok (.getfield 22, 3) := by decide +kernel
theorem dX1_readThing_111 : decode cX1_readThing 111 = .ok (.iload_n 1, 1) := by decide +kernel
theorem dX1_readThing_112 : decode cX1_readThing 112 = .ok (.invokevirtual 46, 3) := by decide +kernel
theorem dX1_readThing_115 : decode cX1_readThing 115 = .ok (.ifCond .eq 29, 3) := by decide +kernel
theorem dX1_readThing_118 : decode cX1_readThing 118 = .ok (.aload_n 0, 1) := by decide +kernel
theorem dX1_readThing_119 : decode cX1_readThing 119 = .ok (.aload_n 0, 1) := by decide +kernel
theorem dX1_readThing_120 : decode cX1_readThing 120 = .ok (.getfield 26, 3) := by decide +kernel
theorem dX1_readThing_123 : decode cX1_readThing 123 = .ok (.iload_n 1, 1) := by decide +kernel
theorem dX1_readThing_124 : decode cX1_readThing 124 = .ok (.iconst 0, 1) := by decide +kernel
theorem dX1_readThing_125 : decode cX1_readThing 125 = .ok (.iconst 5, 1) := by decide +kernel
theorem dX1_readThing_126 : decode cX1_readThing 126 = .ok (.invokevirtual 50, 3) := by decide +kernel
theorem dX1_readThing_129 : decode cX1_readThing 129 = .ok (.ifCond .eq 15, 3) := by decide +kernel
theorem dX1_readThing_132 : decode cX1_readThing 132 = .ok (.aload_n 0, 1) := by decide +kernel
theorem dX1_readThing_133 : decode cX1_readThing 133 = .ok (.iload_n 1, 1) := by decide +kernel
theorem dX1_readThing_134 : decode cX1_readThing 134 = .ok (.invokevirtual 54, 3) := by decide +kernel
theorem dX1_readThing_137 : decode cX1_readThing 137 = .ok (.ifCond .eq 7, 3) := by decide +kernel
theorem dX1_readThing_140 : decode cX1_readThing 140 = .ok (.iconst 1, 1) := by decide +kernel
theorem dX1_readThing_141 : decode cX1_readThing 141 = .ok (.goto 4, 3) := by decide +kernel
theorem dX1_readThing_144 : decode cX1_readThing 144 = .ok (.iconst 0, 1) := by decide +kernel
theorem dX1_readThing_145 : decode cX1_readThing 145 = .ok (.ireturn, 1) := by decide +kernel
theorem dX1_readThing_146 : decode cX1_readThing 146 = .ok (.aload_n 0, 1) := by decide +kernel
theorem dX1_readThing_147 : decode cX1_readThing 147 = .ok (.iload_n 2, 1) := by decide +kernel
theorem dX1_readThing_148 : decode cX1_readThing 148 = .ok (.aload_n 0, 1) := by decide +kernel
theorem dX1_readThing_149 : decode cX1_readThing 149 = .ok (.getfield 22, 3) := by decide +kernel
theorem dX1_readThing_152 : decode cX1_readThing 152 = .ok (.iload_n 1, 1) := by decide +kernel
theorem dX1_readThing_153 : decode cX1_readThing 153 = .ok (.invokevirtual 46, 3) := by decide +kernel
theorem dX1_readThing_156 : decode cX1_readThing 156 = .ok (.ifCond .eq 29, 3) := by decide +kernel
theorem dX1_readThing_159 : decode cX1_readThing 159 = .ok (.aload_n 0, 1) := by decide +kernel
theorem dX1_readThing_160 : decode cX1_readThing 160 = .ok (.aload_n 0, 1) := by decide +kernel
theorem dX1_readThing_161 : decode cX1_readThing 161 = .ok (.getfield 26, 3) := by decide +kernel
theorem dX1_readThing_164 : decode cX1_readThing 164 = .ok (.iload_n 1, 1) := by decide +kernel
theorem dX1_readThing_165 : decode cX1_readThing 165 = .ok (.iconst 0, 1) := by decide +kernel
theorem dX1_readThing_166 : decode cX1_readThing 166 = .ok (.iconst 2, 1) := by decide +kernel
theorem dX1_readThing_167 : decode cX1_readThing 167 = .ok (.invokevirtual 50, 3) := by decide +kernel
theorem dX1_readThing_170 : decode cX1_readThing 170 = .ok (.ifCond .eq 15, 3) := by decide +kernel
theorem dX1_readThing_173 : decode cX1_readThing 173 = .ok (.aload_n 0, 1) := by decide +kernel
theorem dX1_readThing_174 : decode cX1_readThing 174 = .ok (.iload_n 1, 1) := by decide +kernel
theorem dX1_readThing_175 : decode cX1_readThing 175 = .ok (.invokevirtual 57, 3) := by decide +kernel
theorem dX1_readThing_178 : decode cX1_readThing 178 = .ok (.ifCond .eq 7, 3) := by decide +kernel
theorem dX1_readThing_181 : decode cX1_readThing 181 = .ok (.iconst 1, 1) := by decide +kernel
theorem dX1_readThing_182 : decode cX1_readThing 182 = .ok (.goto 4, 3) := by decide +kernel
theorem dX1_readThing_185 : decode cX1_readThing 185 = .ok (.iconst 0, 1) := by decide +kernel
theorem dX1_readThing_186 : decode cX1_readThing 186 = .ok (.ireturn, 1) := by decide +kernel
theorem dX1_readThing_187 : decode cX1_readThing 187 = .ok (.aload_n 0, 1) := by decide +kernel
theorem dX1_readThing_188 : decode cX1_readThing 188 = .ok (.iload_n 2, 1) := by decide +kernel
theorem dX1_readThing_189 : decode cX1_readThing 189 = .ok (.aload_n 0, 1) := by decide +kernel
theorem dX1_readThing_190 : decode cX1_readThing 190 = .ok (.getfield 22, 3) := by decide +kernel
theorem dX1_readThing_193 : decode cX1_readThing 193 = .ok (.iload_n 1, 1) := by decide +kernel
theorem dX1_readThing_194 : decode cX1_readThing 194 = .ok (.invokevirtual 46, 3) := by decide +kernel
theorem dX1_readThing_197 : decode cX1_readThing 197 = .ok (.ifCond .eq 22, 3) := by decide +kernel
theorem dX1_readThing_200 : decode cX1_readThing 200 = .ok (.aload_n 0, 1) := by decide +kernel
theorem dX1_readThing_201 : decode cX1_readThing 201 = .ok (.aload_n 0, 1) := by decide +kernel
theorem dX1_readThing_202 : decode cX1_readThing 202 = .ok (.getfield 26, 3) := by decide +kernel
theorem dX1_readThing_205 : decode cX1_readThing 205 = .ok (.iload_n 1, 1) := by decide +kernel
theorem dX1_readThing_206 : decode cX1_readThing 206 = .ok (.iconst 1, 1) := by decide +kernel
theorem dX1_readThing_207 : decode cX1_readThing 207 = .ok (.bipush 99, 2) := by decide +kernel
theorem dX1_readThing_209 : decode cX1_readThing 209 = .ok (.invokevirtual 50, 3) := by decide +kernel
theorem dX1_readThing_212 : decode cX1_readThing 212 = .ok (.ifCond .eq 7, 3) := by decide +kernel
theorem dX1_readThing_215 : decode cX1_readThing 215 = .ok (.iconst 1, 1) := by decide +kernel
theorem dX1_readThing_216 : decode cX1_readThing 216 = .ok (.goto 4, 3) := by decide +kernel
theorem dX1_readThing_219 : decode cX1_readThing 219 = .ok (.iconst 0, 1) := by decide +kernel
theorem dX1_readThing_220 : decode cX1_readThing 220 = .ok (.ireturn, 1) := by decide +kernel
theorem dX1_readThing_221 : decode cX1_readThing 221 = .ok (.iconst 0, 1) := by decide +kernel
theorem dX1_readThing_222 : decode cX1_readThing 222 = .ok (.ireturn, 1) := by decide +kernel
theorem dX1_readNumber_0 : decode cX1_readNumber 0 = .ok (.aload_n 0, 1) := by decide +kernel
theorem dX1_readNumber_1 : decode cX1_readNumber 1 = .ok (.invokevirtual 60, 3) := by decide +kernel
theorem dX1_readNumber_4 : decode cX1_readNumber 4 = .ok (.istore 5, 2) := by decide +kernel
theorem dX1_readNumber_6 : decode cX1_readNumber 6 = .ok (.iload 5, 2) := by decide +kernel
theorem dX1_readNumber_8 : decode cX1_readNumber 8 = .ok (.iload_n 3, 1) := by decide +kernel
theorem dX1_readNumber_9 : decode cX1_readNumber 9 = .ok (.if_icmp .lt 21, 3) := by decide +kernel
theorem dX1_readNumber_12 : decode cX1_readNumber 12 = .ok (.iload 5, 2) := by decide +kernel
theorem dX1_readNumber_14 : decode cX1_readNumber 14 = .ok (.iload 4, 2) := by decide +kernel
theorem dX1_readNumber_16 : decode cX1_readNumber 16 = .ok (.if_icmp .gt 14, 3) := by decide +kernel
theorem dX1_readNumber_19 : decode cX1_readNumber 19 = .ok (.aload_n 0, 1) := by decide +kernel
theorem dX1_readNumber_20 : decode cX1_readNumber 20 = .ok (.iload 5, 2) := by decide +kernel
theorem dX1_readNumber_22 : decode cX1_readNumber 22 = .ok (.aload_n 1, 1) := by decide +kernel
theorem dX1_readNumber_23 : decode cX1_readNumber 23 = .ok (.iload_n 2, 1) := by decide +kernel
theorem dX1_readNumber_24 : decode cX1_readNumber 24 = .ok (.invokevirtual 46, 3) := by decide +kernel
theorem dX1_readNumber_27 : decode cX1_readNumber 27 = .ok (.ifCond .ne 5, 3) := by decide +kernel
theorem dX1_readNumber_30 : decode cX1_readNumber 30 = .ok (.iconst 0, 1) := by decide +kernel
theorem dX1_readNumber_31 : decode cX1_readNumber 31 = .ok (.ireturn, 1) := by decide +kernel
theorem dX1_readNumber_32 : decode cX1_readNumber 32 = .ok (.aload_n 0, 1) := by decide +kernel
theorem dX1_readNumber_33 : decode cX1_readNumber 33 = .ok (.invokevirtual 60, 3) := by decide +kernel
theorem dX1_readNumber_36 : decode cX1_readNumber 36 = .ok (.istore 6, 2) := by decide +kernel
theorem dX1_readNumber_38 : decode cX1_readNumber 38 = .ok (.iload 5, 2) := by decide +kernel
theorem dX1_readNumber_40 : decode cX1_readNumber 40 = .ok (.ifCond .le 37, 3) := by decide +kernel
theorem dX1_readNumber_43 : decode cX1_readNumber 43 = .ok (.iload 6, 2) := by decide +kernel
theorem dX1_readNumber_45 : decode cX1_readNumber 45 = .ok (.iconst (-1), 1) := by decide +kernel
theorem dX1_readNumber_46 : decode cX1_readNumber 46 = .ok (.if_icmp .eq 31, 3) := by decide +kernel
theorem dX1_readNumber_49 : decode cX1_readNumber 49 = .ok (.iload 5, 2) := by decide +kernel
theorem dX1_readNumber_51 : decode cX1_readNumber 51 = .ok (.bipush 10, 2) := by decide +kernel
theorem dX1_readNumber_53 : decode cX1_readNumber 53 = .ok (.imul, 1) := by decide +kernel
theorem dX1_readNumber_54 : decode cX1_readNumber 54 = .ok (.iload 6, 2) := by decide +kernel
theorem dX1_readNumber_56 : decode cX1_readNumber 56 = .ok (.iadd, 1) := by decide +kernel
theorem dX1_readNumber_57 : decode cX1_readNumber 57 = .ok (.iload 4, 2) := by decide +kernel
theorem dX1_readNumber_59 : decode cX1_readNumber 59 = .ok (.if_icmp .gt 18, 3) := by decide +kernel
theorem dX1_readNumber_62 : decode cX1_readNumber 62 = .ok (.aload_n 0, 1) := by decide +kernel
theorem dX1_readNumber_63 : decode cX1_readNumber 63 = .ok (.iload 5, 2) := by decide +kernel
theorem dX1_readNumber_65 : decode cX1_readNumber 65 = .ok (.bipush 10, 2) := by decide +kernel
theorem dX1_readNumber_67 : decode cX1_readNumber 67 = .ok (.imul, 1) := by decide +kernel
theorem dX1_readNumber_68 : decode cX1_readNumber 68 = .ok (.iload 6, 2) := by decide +kernel
theorem dX1_readNumber_70 : decode cX1_readNumber 70 = .ok (.iadd, 1) := by decide +kernel
theorem dX1_readNumber_71 : decode cX1_readNumber 71 = .ok (.aload_n 1, 1) := by decide +kernel
theorem dX1_readNumber_72 : decode cX1_readNumber 72 = .ok (.iload_n 2, 1) := by decide +kernel
theorem dX1_readNumber_73 : decode cX1_readNumber 73 = .ok (.invokevirtual 46, 3) := by decide +kernel
theorem dX1_readNumber_76 : decode cX1_readNumber 76 = .ok (.ireturn, 1) := by decide +kernel
theorem dX1_readNumber_77 : decode cX1_readNumber 77 = .ok (.iconst 1, 1) := by decide +kernel
theorem dX1_readNumber_78 : decode cX1_readNumber 78 = .ok (.ireturn, 1) := by decide +kernel
theorem dX1_readDirection_0 : decode cX1_readDirection 0 = .ok (.aload_n 0, 1) := by decide +kernel
theorem dX1_readDirection_1 : decode cX1_readDirection 1 = .ok (.invokevirtual 42, 3) := by decide +kernel
theorem dX1_readDirection_4 : decode cX1_readDirection 4 = .ok (.lookupswitch 107 #[(45, 96), (101, 63), (110, 52), (115, 74), (119, 85)], 52) := by decide +kernel
theorem dX1_readDirection_56 : decode cX1_readDirection 56 = .ok (.aload_n 0, 1) := by decide +kernel
theorem dX1_readDirection_57 : decode cX1_readDirection 57 = .ok (.iconst 0, 1) := by decide +kernel
theorem dX1_readDirection_58 : decode cX1_readDirection 58 = .ok (.aload_n 0, 1) := by decide +kernel
theorem dX1_readDirection_59 : decode cX1_readDirection 59 = .ok (.getfield 29, 3) := by decide +kernel
theorem dX1_readDirection_62 : decode cX1_readDirection 62 = .ok (.iload_n 1, 1) := by decide +kernel
theorem dX1_readDirection_63 : decode cX1_readDirection 63 = .ok (.invokevirtual 46, 3) := by decide +kernel
theorem dX1_readDirection_66 : decode cX1_readDirection 66 = .ok (.ireturn, 1) := by decide +kernel
theorem dX1_readDirection_67 : decode cX1_readDirection 67 = .ok (.aload_n 0, 1) := by decide +kernel
theorem dX1_readDirection_68 : decode cX1_readDirection 68 = .ok (.iconst 1, 1) := by decide +kernel
theorem dX1_readDirection_69 : decode cX1_readDirection 69 = .ok (.aload_n 0, 1) := by decide +kernel
theorem dX1_readDirection_70 : decode cX1_readDirection 70 = .ok (.getfield 29, 3) := by decide +kernel
theorem dX1_readDirection_73 : decode cX1_readDirection 73 = .ok (.iload_n 1, 1) := by decide +kernel
theorem dX1_readDirection_74 : decode cX1_readDirection 74 = .ok (.invokevirtual 46, 3) := by decide +kernel
theorem dX1_readDirection_77 : decode cX1_readDirection 77 = .ok (.ireturn, 1) := by decide +kernel
theorem dX1_readDirection_78 : decode cX1_readDirection 78 = .ok (.aload_n 0, 1) := by decide +kernel
theorem dX1_readDirection_79 : decode cX1_readDirection 79 = .ok (.iconst 2, 1) := by decide +kernel
theorem dX1_readDirection_80 : decode cX1_readDirection 80 = .ok (.aload_n 0, 1) := by decide +kernel
theorem dX1_readDirection_81 : decode cX1_readDirection 81 = .ok (.getfield 29, 3) := by decide +kernel
theorem dX1_readDirection_84 : decode cX1_readDirection 84 = .ok (.iload_n 1, 1) := by decide +kernel
theorem dX1_readDirection_85 : decode cX1_readDirection 85 = .ok (.invokevirtual 46, 3) := by decide +kernel
theorem dX1_readDirection_88 : decode cX1_readDirection 88 = .ok (.ireturn, 1) := by decide +kernel
theorem dX1_readDirection_89 : decode cX1_readDirection 89 = .ok (.aload_n 0, 1) := by decide +kernel
theorem dX1_readDirection_90 : decode cX1_readDirection 90 = .ok (.iconst 3, 1) := by decide +kernel
theorem dX1_readDirection_91 : decode cX1_readDirection 91 = .ok (.aload_n 0, 1) := by decide +kernel
theorem dX1_readDirection_92 : decode cX1_readDirection 92 = .ok (.getfield 29, 3) := by decide +kernel
theorem dX1_readDirection_95 : decode cX1_readDirection 95 = .ok (.iload_n 1, 1) := by decide +kernel
theorem dX1_readDirection_96 : decode cX1_readDirection 96 = .ok (.invokevirtual 46, 3) := by decide +kernel
theorem dX1_readDirection_99 : decode cX1_readDirection 99 = .ok (.ireturn, 1) := by decide +kernel
theorem dX1_readDirection_100 : decode cX1_readDirection 100 = .ok (.aload_n 0, 1) := by decide +kernel
theorem dX1_readDirection_101 : decode cX1_readDirection 101 = .ok (.iconst (-1), 1) := by decide +kernel
theorem dX1_readDirection_102 : decode cX1_readDirection 102 = .ok (.aload_n 0, 1) := by decide +kernel
theorem dX1_readDirection_103 : decode cX1_readDirection 103 = .ok (.getfield 29, 3) := by decide +kernel
theorem dX1_readDirection_106 : decode cX1_readDirection 106 = .ok (.iload_n 1, 1) := by decide +kernel
theorem dX1_readDirection_107 : decode cX1_readDirection 107 = .ok (.invokevirtual 46, 3) := by decide +kernel
theorem dX1_readDirection_110 : decode cX1_readDirection 110 = .ok (.ireturn, 1) := by decide +kernel
theorem dX1_readDirection_111 : decode cX1_readDirection 111 = .ok (.iconst 0, 1) := by decide +kernel
theorem dX1_readDirection_112 : decode cX1_readDirection 112 = .ok (.ireturn, 1) := by decide +kernel
theorem dX1_readOnOrOff_0 : decode cX1_readOnOrOff 0 = .ok (.aload_n 0, 1) := by decide +kernel
theorem dX1_readOnOrOff_1 : decode cX1_readOnOrOff 1 = .ok (.invokevirtual 42, 3) := by decide +kernel
theorem dX1_readOnOrOff_4 : decode cX1_readOnOrOff 4 = .ok (.lookupswitch 50 #[(43, 28), (45, 39)], 28) := by decide +kernel
theorem dX1_readOnOrOff_32 : decode cX1_readOnOrOff 32 = .ok (.aload_n 0, 1) := by decide +kernel
theorem dX1_readOnOrOff_33 : decode cX1_readOnOrOff 33 = .ok (.iconst 1, 1) := by decide +kernel
theorem dX1_readOnOrOff_34 : decode cX1_readOnOrOff 34 = .ok (.aload_n 0, 1) := by decide +kernel
theorem dX1_readOnOrOff_35 : decode cX1_readOnOrOff 35 = .ok (.getfield 29, 3) := by decide +kernel
theorem dX1_readOnOrOff_38 : decode cX1_readOnOrOff 38 = .ok (.iload_n 1, 1) := by decide +kernel
theorem dX1_readOnOrOff_39 : decode cX1_readOnOrOff 39 = .ok (.invokevirtual 46, 3) := by decide +kernel
theorem dX1_readOnOrOff_42 : decode cX1_readOnOrOff 42 = .ok (.ireturn, 1) := by decide +kernel
theorem dX1_readOnOrOff_43 : decode cX1_readOnOrOff 43 = .ok (.aload_n 0, 1) := by decide +kernel
theorem dX1_readOnOrOff_44 : decode cX1_readOnOrOff 44 = .ok (.iconst 0, 1) := by decide +kernel
theorem dX1_readOnOrOff_45 : decode cX1_readOnOrOff 45 = .ok (.aload_n 0, 1) := by decide +kernel
theorem dX1_readOnOrOff_46 : decode cX1_readOnOrOff 46 = .ok (.getfield 29, 3) := by decide +kernel
theorem dX1_readOnOrOff_49 : decode cX1_readOnOrOff 49 = .ok (.iload_n 1, 1) := by decide +kernel
theorem dX1_readOnOrOff_50 : decode cX1_readOnOrOff 50 = .ok (.invokevirtual 46, 3) := by decide +kernel
theorem dX1_readOnOrOff_53 : decode cX1_readOnOrOff 53 = .ok (.ireturn, 1) := by decide +kernel
theorem dX1_readOnOrOff_54 : decode cX1_readOnOrOff 54 = .ok (.iconst 0, 1) := by decide +kernel
theorem dX1_readOnOrOff_55 : decode cX1_readOnOrOff 55 = .ok (.ireturn, 1) := by decide +kernel
theorem dX1_readAs_0 : decode cX1_readAs 0 = .ok (.iload_n 3, 1) := by decide +kernel
theorem dX1_readAs_1 : decode cX1_readAs 1 = .ok (.ifCond .lt 9, 3) := by decide +kernel
theorem dX1_readAs_4 : decode cX1_readAs 4 = .ok (.iload_n 3, 1) := by decide +kernel
theorem dX1_readAs_5 : decode cX1_readAs 5 = .ok (.aload_n 2, 1) := by decide +kernel
theorem dX1_readAs_6 : decode cX1_readAs 6 = .ok (.arraylength, 1) := by decide +kernel
theorem dX1_readAs_7 : decode cX1_readAs 7 = .ok (.if_icmp .lt 5, 3) := by decide +kernel
theorem dX1_readAs_10 : decode cX1_readAs 10 = .ok (.iconst 0, 1) := by decide +kernel
theorem dX1_readAs_11 : decode cX1_readAs 11 = .ok (.ireturn, 1) := by decide +kernel
theorem dX1_readAs_12 : decode cX1_readAs 12 = .ok (.aload_n 2, 1) := by decide +kernel
theorem dX1_readAs_13 : decode cX1_readAs 13 = .ok (.iload_n 3, 1) := by decide +kernel
theorem dX1_readAs_14 : decode cX1_readAs 14 = .ok (.iload_n 1, 1) := by decide +kernel
theorem dX1_readAs_15 : decode cX1_readAs 15 = .ok (.iastore, 1) := by decide +kernel
theorem dX1_readAs_16 : decode cX1_readAs 16 = .ok (.aload_n 0, 1) := by decide +kernel
theorem dX1_readAs_17 : decode cX1_readAs 17 = .ok (.dup, 1) := by decide +kernel
theorem dX1_readAs_18 : decode cX1_readAs 18 = .ok (.getfield 19, 3) := by decide +kernel
theorem dX1_readAs_21 : decode cX1_readAs 21 = .ok (.iconst 1, 1) := by decide +kernel
theorem dX1_readAs_22 : decode cX1_readAs 22 = .ok (.iadd, 1) := by decide +kernel
theorem dX1_readAs_23 : decode cX1_readAs 23 = .ok (.putfield 19, 3) := by decide +kernel
theorem dX1_readAs_26 : decode cX1_readAs 26 = .ok (.iconst 1, 1) := by decide +kernel
theorem dX1_readAs_27 : decode cX1_readAs 27 = .ok (.ireturn, 1) := by decide +kernel
theorem dX1_readSign_0 : decode cX1_readSign 0 = .ok (.aload_n 0, 1) := by decide +kernel
theorem dX1_readSign_1 : decode cX1_readSign 1 = .ok (.invokevirtual 42, 3) := by decide +kernel
theorem dX1_readSign_4 : decode cX1_readSign 4 = .ok (.iload_n 1, 1) := by decide +kernel
theorem dX1_readSign_5 : decode cX1_readSign 5 = .ok (.if_icmp .eq 5, 3) := by decide +kernel
theorem dX1_readSign_8 : decode cX1_readSign 8 = .ok (.iconst 0, 1) := by decide +kernel
theorem dX1_readSign_9 : decode cX1_readSign 9 = .ok (.ireturn, 1) := by decide +kernel
theorem dX1_readSign_10 : decode cX1_readSign 10 = .ok (.aload_n 0, 1) := by decide +kernel
theorem dX1_readSign_11 : decode cX1_readSign 11 = .ok (.dup, 1) := by decide +kernel
theorem dX1_readSign_12 : decode cX1_readSign 12 = .ok (.getfield 19, 3) := by decide +kernel
theorem dX1_readSign_15 : decode cX1_readSign 15 = .ok (.iconst 1, 1) := by decide +kernel
theorem dX1_readSign_16 : decode cX1_readSign 16 = .ok (.iadd, 1) := by decide +kernel
theorem dX1_readSign_17 : decode cX1_readSign 17 = .ok (.putfield 19, 3) := by decide +kernel
theorem dX1_readSign_20 : decode cX1_readSign 20 = .ok (.iconst 1, 1) := by decide +kernel
theorem dX1_readSign_21 : decode cX1_readSign 21 = .ok (.ireturn, 1) := by decide +kernel
theorem dX1_nextDigit_0 : decode cX1_nextDigit 0 = .ok (.aload_n 0, 1) := by decide +kernel
theorem dX1_nextDigit_1 : decode cX1_nextDigit 1 = .ok (.invokevirtual 42, 3) := by decide +kernel
theorem dX1_nextDigit_4 : decode cX1_nextDigit 4 = .ok (.istore_n 1, 1) := by decide +kernel
theorem dX1_nextDigit_5 : decode cX1_nextDigit 5 = .ok (.iload_n 1, 1) := by decide +kernel
theorem dX1_nextDigit_6 : decode cX1_nextDigit 6 = .ok (.bipush 48, 2) := by decide +kernel
theorem dX1_nextDigit_8 : decode cX1_nextDigit 8 = .ok (.if_icmp .lt 16, 3) := by decide +kernel
theorem dX1_nextDigit_11 : decode cX1_nextDigit 11 = .ok (.iload_n 1, 1) := by decide +kernel
theorem dX1_nextDigit_12 : decode cX1_nextDigit 12 = .ok (.bipush 57, 2) := by decide +kernel
theorem dX1_nextDigit_14 : decode cX1_nextDigit 14 = .ok (.if_icmp .gt 10, 3) := by decide +kernel
theorem dX1_nextDigit_17 : decode cX1_nextDigit 17 = .ok (.iload_n 1, 1) := by decide +kernel
theorem dX1_nextDigit_18 : decode cX1_nextDigit 18 = .ok (.bipush 48, 2) := by decide +kernel
theorem dX1_nextDigit_20 : decode cX1_nextDigit 20 = .ok (.isub, 1) := by decide +kernel
theorem dX1_nextDigit_21 : decode cX1_nextDigit 21 = .ok (.goto 4, 3) := by decide +kernel
theorem dX1_nextDigit_24 : decode cX1_nextDigit 24 = .ok (.iconst (-1), 1) := by decide +kernel
theorem dX1_nextDigit_25 : decode cX1_nextDigit 25 = .ok (.ireturn, 1) := by decide +kernel
theorem dX1_nextSign_0 : decode cX1_nextSign 0 = .ok (.aload_n 0, 1) := by decide +kernel
theorem dX1_nextSign_1 : decode cX1_nextSign 1 = .ok (.getfield 19, 3) := by decide +kernel
theorem dX1_nextSign_4 : decode cX1_nextSign 4 = .ok (.ifCond .lt 35, 3) := by decide +kernel
theorem dX1_nextSign_7 : decode cX1_nextSign 7 = .ok (.aload_n 0, 1) := by decide +kernel
theorem dX1_nextSign_8 : decode cX1_nextSign 8 = .ok (.getfield 19, 3) := by decide +kernel
theorem dX1_nextSign_11 : decode cX1_nextSign 11 = .ok (.aload_n 0, 1) := by decide +kernel
theorem dX1_nextSign_12 : decode cX1_nextSign 12 = .ok (.getfield 15, 3) := by decide +kernel
theorem dX1_nextSign_15 : decode cX1_nextSign 15 = .ok (.if_icmp .ge 24, 3) := by decide +kernel
theorem dX1_nextSign_18 : decode cX1_nextSign 18 = .ok (.aload_n 0, 1) := by decide +kernel
theorem dX1_nextSign_19 : decode cX1_nextSign 19 = .ok (.getfield 19, 3) := by decide +kernel
theorem dX1_nextSign_22 : decode cX1_nextSign 22 = .ok (.bipush 60, 2) := by decide +kernel
theorem dX1_nextSign_24 : decode cX1_nextSign 24 = .ok (.if_icmp .ge 15, 3) := by decide +kernel
theorem dX1_nextSign_27 : decode cX1_nextSign 27 = .ok (.aload_n 0, 1) := by decide +kernel
theorem dX1_nextSign_28 : decode cX1_nextSign 28 = .ok (.getfield 9, 3) := by decide +kernel
theorem dX1_nextSign_31 : decode cX1_nextSign 31 = .ok (.aload_n 0, 1) := by decide +kernel
theorem dX1_nextSign_32 : decode cX1_nextSign 32 = .ok (.getfield 19, 3) := by decide +kernel
theorem dX1_nextSign_35 : decode cX1_nextSign 35 = .ok (.caload, 1) := by decide +kernel
theorem dX1_nextSign_36 : decode cX1_nextSign 36 = .ok (.goto 4, 3) := by decide +kernel
theorem dX1_nextSign_39 : decode cX1_nextSign 39 = .ok (.iconst (-1), 1) := by decide +kernel
theorem dX1_nextSign_40 : decode cX1_nextSign 40 = .ok (.ireturn, 1) := by decide +kernel
theorem dX2_init_0 : decode cX2_init 0 = .ok (.aload_n 0, 1) := by decide +kernel
theorem dX2_init_1 : decode cX2_init 1 = .ok (.invokespecial 3, 3) := by decide +kernel
theorem dX2_init_4 : decode cX2_init 4 = .ok (.aload_n 0, 1) := by decide +kernel
theorem dX2_init_5 : decode cX2_init 5 = .ok (.iconst 4, 1) := by decide +kernel
theorem dX2_init_6 : decode cX2_init 6 = .ok (.anewarray 9, 3) := by decide +kernel
theorem dX2_init_9 : decode cX2_init 9 = .ok (.putfield 11, 3) := by decide +kernel
theorem dX2_init_12 : decode cX2_init 12 = .ok (.aload_n 0, 1) := by decide +kernel
theorem dX2_init_13 : decode cX2_init 13 = .ok (.iconst 0, 1) := by decide +kernel
theorem dX2_init_14 : decode cX2_init 14 = .ok (.putfield 17, 3) := by decide +kernel
theorem dX2_init_17 : decode cX2_init 17 = .ok (.aload_n 0, 1) := by decide +kernel
theorem dX2_init_18 : decode cX2_init 18 = .ok (.iconst 0, 1) := by decide +kernel
theorem dX2_init_19 : decode cX2_init 19 = .ok (.putfield 21, 3) := by decide +kernel
theorem dX2_init_22 : decode cX2_init 22 = .ok (.iconst 0, 1) := by decide +kernel
theorem dX2_init_23 : decode cX2_init 23 = .ok (.istore_n 1, 1) := by decide +kernel
theorem dX2_init_24 : decode cX2_init 24 = .ok (.iload_n 1, 1) := by decide +kernel
theorem dX2_init_25 : decode cX2_init 25 = .ok (.iconst 4, 1) := by decide +kernel
theorem dX2_init_26 : decode cX2_init 26 = .ok (.if_icmp .ge 22, 3) := by decide +kernel
theorem dX2_init_29 : decode cX2_init 29 = .ok (.aload_n 0, 1) := by decide +kernel
theorem dX2_init_30 : decode cX2_init 30 = .ok (.getfield 11, 3) := by decide +kernel
theorem dX2_init_33 : decode cX2_init 33 = .ok (.iload_n 1, 1) := by decide +kernel
theorem dX2_init_34 : decode cX2_init 34 = .ok (.new 9, 3) := by decide +kernel
theorem dX2_init_37 : decode cX2_init 37 = .ok (.dup, 1) := by decide +kernel
theorem dX2_init_38 : decode cX2_init 38 = .ok (.invokespecial 24, 3) := by decide +kernel
theorem dX2_init_41 : decode cX2_init 41 = .ok (.aastore, 1) := by decide +kernel
theorem dX2_init_42 : decode cX2_init 42 = .ok (.iinc 1 1, 3) := by decide +kernel
theorem dX2_init_45 : decode cX2_init 45 = .ok (.goto (-21), 3) := by decide +kernel
theorem dX2_init_48 : decode cX2_init 48 = .ok (.return_, 1) := by decide +kernel
theorem dX2_record_0 : decode cX2_record 0 = .ok (.aload_n 0, 1) := by decide +kernel
theorem dX2_record_1 : decode cX2_record 1 = .ok (.getfield 11, 3) := by decide +kernel
theorem dX2_record_4 : decode cX2_record 4 = .ok (.aload_n 0, 1) := by decide +kernel
theorem dX2_record_5 : decode cX2_record 5 = .ok (.getfield 17, 3) := by decide +kernel
theorem dX2_record_8 : decode cX2_record 8 = .ok (.aload_n 0, 1) := by decide +kernel
theorem dX2_record_9 : decode cX2_record 9 = .ok (.getfield 21, 3) := by decide +kernel
theorem dX2_record_12 : decode cX2_record 12 = .ok (.iadd, 1) := by decide +kernel
theorem dX2_record_13 : decode cX2_record 13 = .ok (.iconst 4, 1) := by decide +kernel
theorem dX2_record_14 : decode cX2_record 14 = .ok (.irem, 1) := by decide +kernel
theorem dX2_record_15 : decode cX2_record 15 = .ok (.aaload, 1) := by decide +kernel
theorem dX2_record_16 : decode cX2_record 16 = .ok (.astore_n 2, 1) := by decide +kernel
theorem dX2_record_17 : decode cX2_record 17 = .ok (.aload_n 2, 1) := by decide +kernel
theorem dX2_record_18 : decode cX2_record 18 = .ok (.ifnonnull 4, 3) := by decide +kernel
theorem dX2_record_21 : decode cX2_record 21 = .ok (.return_, 1) := by decide +kernel
theorem dX2_record_22 : decode cX2_record 22 = .ok (.aload_n 2, 1) := by decide +kernel
theorem dX2_record_23 : decode cX2_record 23 = .ok (.aload_n 1, 1) := by decide +kernel
theorem dX2_record_24 : decode cX2_record 24 = .ok (.invokevirtual 25, 3) := by decide +kernel
theorem dX2_record_27 : decode cX2_record 27 = .ok (.aload_n 0, 1) := by decide +kernel
theorem dX2_record_28 : decode cX2_record 28 = .ok (.getfield 21, 3) := by decide +kernel
theorem dX2_record_31 : decode cX2_record 31 = .ok (.iconst 4, 1) := by decide +kernel
theorem dX2_record_32 : decode cX2_record 32 = .ok (.if_icmp .ge 16, 3) := by decide +kernel
theorem dX2_record_35 : decode cX2_record 35 = .ok (.aload_n 0, 1) := by decide +kernel
theorem dX2_record_36 : decode cX2_record 36 = .ok (.dup, 1) := by decide +kernel
theorem dX2_record_37 : decode cX2_record 37 = .ok (.getfield 21, 3) := by decide +kernel
theorem dX2_record_40 : decode cX2_record 40 = .ok (.iconst 1, 1) := by decide +kernel
theorem dX2_record_41 : decode cX2_record 41 = .ok (.iadd, 1) := by decide +kernel
theorem dX2_record_42 : decode cX2_record 42 = .ok (.putfield 21, 3) := by decide +kernel
theorem dX2_record_45 : decode cX2_record 45 = .ok (.goto 15, 3) := by decide +kernel
theorem dX2_record_48 : decode cX2_record 48 = .ok (.aload_n 0, 1) := by decide +kernel
theorem dX2_record_49 : decode cX2_record 49 = .ok (.aload_n 0, 1) := by decide +kernel
theorem dX2_record_50 : decode cX2_record 50 = .ok (.getfield 17, 3) := by decide +kernel
theorem dX2_record_53 : decode cX2_record 53 = .ok (.iconst 1, 1) := by decide +kernel
theorem dX2_record_54 : decode cX2_record 54 = .ok (.iadd, 1) := by decide +kernel
theorem dX2_record_55 : decode cX2_record 55 = .ok (.iconst 4, 1) := by decide +kernel
theorem dX2_record_56 : decode cX2_record 56 = .ok (.irem, 1) := by decide +kernel
theorem dX2_record_57 : decode cX2_record 57 = .ok (.putfield 17, 3) := by decide +kernel
theorem dX2_record_60 : decode cX2_record 60 = .ok (.return_, 1) := by decide +kernel
theorem dX2_takeBack_0 : decode cX2_takeBack 0 = .ok (.aload_n 0, 1) := by decide +kernel
theorem dX2_takeBack_1 : decode cX2_takeBack 1 = .ok (.getfield 21, 3) := by decide +kernel
theorem dX2_takeBack_4 : decode cX2_takeBack 4 = .ok (.ifCond .ne 5, 3) := by decide +kernel
theorem dX2_takeBack_7 : decode cX2_takeBack 7 = .ok (.iconst 0, 1) := by decide +kernel
theorem dX2_takeBack_8 : decode cX2_takeBack 8 = .ok (.ireturn, 1) := by decide +kernel
theorem dX2_takeBack_9 : decode cX2_takeBack 9 = .ok (.aload_n 0, 1) := by decide +kernel
theorem dX2_takeBack_10 : decode cX2_takeBack 10 = .ok (.getfield 11, 3) := by decide +kernel
theorem dX2_takeBack_13 : decode cX2_takeBack 13 = .ok (.aload_n 0, 1) := by decide +kernel
theorem dX2_takeBack_14 : decode cX2_takeBack 14 = .ok (.getfield 17, 3) := by decide +kernel
theorem dX2_takeBack_17 : decode cX2_takeBack 17 = .ok (.aload_n 0, 1) := by decide +kernel
theorem dX2_takeBack_18 : decode cX2_takeBack 18 = .ok (.getfield 21, 3) := by decide +kernel
theorem dX2_takeBack_21 : decode cX2_takeBack 21 = .ok (.iadd, 1) := by decide +kernel
theorem dX2_takeBack_22 : decode cX2_takeBack 22 = .ok (.iconst 1, 1) := by decide +kernel
theorem dX2_takeBack_23 : decode cX2_takeBack 23 = .ok (.isub, 1) := by decide +kernel
theorem dX2_takeBack_24 : decode cX2_takeBack 24 = .ok (.iconst 4, 1) := by decide +kernel
theorem dX2_takeBack_25 : decode cX2_takeBack 25 = .ok (.irem, 1) := by decide +kernel
theorem dX2_takeBack_26 : decode cX2_takeBack 26 = .ok (.aaload, 1) := by decide +kernel
theorem dX2_takeBack_27 : decode cX2_takeBack 27 = .ok (.astore_n 2, 1) := by decide +kernel
theorem dX2_takeBack_28 : decode cX2_takeBack 28 = .ok (.aload_n 2, 1) := by decide +kernel
theorem dX2_takeBack_29 : decode cX2_takeBack 29 = .ok (.ifnonnull 5, 3) := by decide +kernel
theorem dX2_takeBack_32 : decode cX2_takeBack 32 = .ok (.iconst 0, 1) := by decide +kernel
theorem dX2_takeBack_33 : decode cX2_takeBack 33 = .ok (.ireturn, 1) := by decide +kernel
theorem dX2_takeBack_34 : decode cX2_takeBack 34 = .ok (.aload_n 0, 1) := by decide +kernel
theorem dX2_takeBack_35 : decode cX2_takeBack 35 = .ok (.dup, 1) := by decide +kernel
theorem dX2_takeBack_36 : decode cX2_takeBack 36 = .ok (.getfield 21, 3) := by decide +kernel
theorem dX2_takeBack_39 : decode cX2_takeBack 39 = .ok (.iconst 1, 1) := by decide +kernel
theorem dX2_takeBack_40 : decode cX2_takeBack 40 = .ok (.isub, 1) := by decide +kernel
theorem dX2_takeBack_41 : decode cX2_takeBack 41 = .ok (.putfield 21, 3) := by decide +kernel
theorem dX2_takeBack_44 : decode cX2_takeBack 44 = .ok (.aload_n 1, 1) := by decide +kernel
theorem dX2_takeBack_45 : decode cX2_takeBack 45 = .ok (.aload_n 2, 1) := by decide +kernel
theorem dX2_takeBack_46 : decode cX2_takeBack 46 = .ok (.invokevirtual 25, 3) := by decide +kernel
theorem dX2_takeBack_49 : decode cX2_takeBack 49 = .ok (.iconst 1, 1) := by decide +kernel
theorem dX2_takeBack_50 : decode cX2_takeBack 50 = .ok (.ireturn, 1) := by decide +kernel
theorem dX3_init_0 : decode cX3_init 0 = .ok (.aload_n 0, 1) := by decide +kernel
theorem dX3_init_1 : decode cX3_init 1 = .ok (.invokespecial 3, 3) := by decide +kernel
theorem dX3_init_4 : decode cX3_init 4 = .ok (.aload_n 0, 1) := by decide +kernel
theorem dX3_init_5 : decode cX3_init 5 = .ok (.iconst 3, 1) := by decide +kernel
theorem dX3_init_6 : decode cX3_init 6 = .ok (.newarray .int, 2) := by decide +kernel
theorem dX3_init_8 : decode cX3_init 8 = .ok (.dup, 1) := by decide +kernel
theorem dX3_init_9 : decode cX3_init 9 = .ok (.iconst 0, 1) := by decide +kernel
theorem dX3_init_10 : decode cX3_init 10 = .ok (.iconst 0, 1) := by decide +kernel
theorem dX3_init_11 : decode cX3_init 11 = .ok (.iastore, 1) := by decide +kernel
theorem dX3_init_12 : decode cX3_init 12 = .ok (.dup, 1) := by decide +kernel
theorem dX3_init_13 : decode cX3_init 13 = .ok (.iconst 1, 1) := by decide +kernel
theorem dX3_init_14 : decode cX3_init 14 = .ok (.iconst 1, 1) := by decide +kernel
theorem dX3_init_15 : decode cX3_init 15 = .ok (.iastore, 1) := by decide +kernel
theorem dX3_init_16 : decode cX3_init 16 = .ok (.dup, 1) := by decide +kernel
theorem dX3_init_17 : decode cX3_init 17 = .ok (.iconst 2, 1) := by decide +kernel
theorem dX3_init_18 : decode cX3_init 18 = .ok (.iconst 2, 1) := by decide +kernel
theorem dX3_init_19 : decode cX3_init 19 = .ok (.iastore, 1) := by decide +kernel
theorem dX3_init_20 : decode cX3_init 20 = .ok (.putfield 9, 3) := by decide +kernel
theorem dX3_init_23 : decode cX3_init 23 = .ok (.aload_n 0, 1) := by decide +kernel
theorem dX3_init_24 : decode cX3_init 24 = .ok (.iconst 3, 1) := by decide +kernel
theorem dX3_init_25 : decode cX3_init 25 = .ok (.newarray .int, 2) := by decide +kernel
theorem dX3_init_27 : decode cX3_init 27 = .ok (.dup, 1) := by decide +kernel
theorem dX3_init_28 : decode cX3_init 28 = .ok (.iconst 0, 1) := by decide +kernel
theorem dX3_init_29 : decode cX3_init 29 = .ok (.iconst 1, 1) := by decide +kernel
theorem dX3_init_30 : decode cX3_init 30 = .ok (.iastore, 1) := by decide +kernel
theorem dX3_init_31 : decode cX3_init 31 = .ok (.dup, 1) := by decide +kernel
theorem dX3_init_32 : decode cX3_init 32 = .ok (.iconst 1, 1) := by decide +kernel
theorem dX3_init_33 : decode cX3_init 33 = .ok (.iconst 1, 1) := by decide +kernel
theorem dX3_init_34 : decode cX3_init 34 = .ok (.iastore, 1) := by decide +kernel
theorem dX3_init_35 : decode cX3_init 35 = .ok (.dup, 1) := by decide +kernel
theorem dX3_init_36 : decode cX3_init 36 = .ok (.iconst 2, 1) := by decide +kernel
theorem dX3_init_37 : decode cX3_init 37 = .ok (.iconst 1, 1) := by decide +kernel
theorem dX3_init_38 : decode cX3_init 38 = .ok (.iastore, 1) := by decide +kernel
theorem dX3_init_39 : decode cX3_init 39 = .ok (.putfield 15, 3) := by decide +kernel
theorem dX3_init_42 : decode cX3_init 42 = .ok (.aload_n 0, 1) := by decide +kernel
theorem dX3_init_43 : decode cX3_init 43 = .ok (.iconst 3, 1) := by decide +kernel
theorem dX3_init_44 : decode cX3_init 44 = .ok (.newarray .int, 2) := by decide +kernel
theorem dX3_init_46 : decode cX3_init 46 = .ok (.dup, 1) := by decide +kernel
theorem dX3_init_47 : decode cX3_init 47 = .ok (.iconst 0, 1) := by decide +kernel
theorem dX3_init_48 : decode cX3_init 48 = .ok (.iconst 0, 1) := by decide +kernel
theorem dX3_init_49 : decode cX3_init 49 = .ok (.iastore, 1) := by decide +kernel
theorem dX3_init_50 : decode cX3_init 50 = .ok (.dup, 1) := by decide +kernel
theorem dX3_init_51 : decode cX3_init 51 = .ok (.iconst 1, 1) := by decide +kernel
theorem dX3_init_52 : decode cX3_init 52 = .ok (.iconst 0, 1) := by decide +kernel
theorem dX3_init_53 : decode cX3_init 53 = .ok (.iastore, 1) := by decide +kernel
theorem dX3_init_54 : decode cX3_init 54 = .ok (.dup, 1) := by decide +kernel
theorem dX3_init_55 : decode cX3_init 55 = .ok (.iconst 2, 1) := by decide +kernel
theorem dX3_init_56 : decode cX3_init 56 = .ok (.iconst 0, 1) := by decide +kernel
theorem dX3_init_57 : decode cX3_init 57 = .ok (.iastore, 1) := by decide +kernel
theorem dX3_init_58 : decode cX3_init 58 = .ok (.putfield 18, 3) := by decide +kernel
theorem dX3_init_61 : decode cX3_init 61 = .ok (.aload_n 0, 1) := by decide +kernel
theorem dX3_init_62 : decode cX3_init 62 = .ok (.iconst 3, 1) := by decide +kernel
theorem dX3_init_63 : decode cX3_init 63 = .ok (.newarray .int, 2) := by decide +kernel
theorem dX3_init_65 : decode cX3_init 65 = .ok (.dup, 1) := by decide +kernel
theorem dX3_init_66 : decode cX3_init 66 = .ok (.iconst 0, 1) := by decide +kernel
theorem dX3_init_67 : decode cX3_init 67 = .ok (.iconst 1, 1) := by decide +kernel
theorem dX3_init_68 : decode cX3_init 68 = .ok (.iastore, 1) := by decide +kernel
theorem dX3_init_69 : decode cX3_init 69 = .ok (.dup, 1) := by decide +kernel
theorem dX3_init_70 : decode cX3_init 70 = .ok (.iconst 1, 1) := by decide +kernel
theorem dX3_init_71 : decode cX3_init 71 = .ok (.iconst 1, 1) := by decide +kernel
theorem dX3_init_72 : decode cX3_init 72 = .ok (.iastore, 1) := by decide +kernel
theorem dX3_init_73 : decode cX3_init 73 = .ok (.dup, 1) := by decide +kernel
theorem dX3_init_74 : decode cX3_init 74 = .ok (.iconst 2, 1) := by decide +kernel
theorem dX3_init_75 : decode cX3_init 75 = .ok (.iconst 1, 1) := by decide +kernel
theorem dX3_init_76 : decode cX3_init 76 = .ok (.iastore, 1) := by decide +kernel
theorem dX3_init_77 : decode cX3_init 77 = .ok (.putfield 21, 3) := by decide +kernel
theorem dX3_init_80 : decode cX3_init 80 = .ok (.return_, 1) := by decide +kernel
theorem dX3_copyFrom_0 : decode cX3_copyFrom 0 = .ok (.aload_n 1, 1) := by decide +kernel
theorem dX3_copyFrom_1 : decode cX3_copyFrom 1 = .ok (.getfield 9, 3) := by decide +kernel
theorem dX3_copyFrom_4 : decode cX3_copyFrom 4 = .ok (.aload_n 0, 1) := by decide +kernel
theorem dX3_copyFrom_5 : decode cX3_copyFrom 5 = .ok (.getfield 9, 3) := by decide +kernel
theorem dX3_copyFrom_8 : decode cX3_copyFrom 8 = .ok (.invokestatic 24, 3) := by decide +kernel
theorem dX3_copyFrom_11 : decode cX3_copyFrom 11 = .ok (.aload_n 1, 1) := by decide +kernel
theorem dX3_copyFrom_12 : decode cX3_copyFrom 12 = .ok (.getfield 15, 3) := by decide +kernel
theorem dX3_copyFrom_15 : decode cX3_copyFrom 15 = .ok (.aload_n 0, 1) := by decide +kernel
theorem dX3_copyFrom_16 : decode cX3_copyFrom 16 = .ok (.getfield 15, 3) := by decide +kernel
theorem dX3_copyFrom_19 : decode cX3_copyFrom 19 = .ok (.invokestatic 24, 3) := by decide +kernel
theorem dX3_copyFrom_22 : decode cX3_copyFrom 22 = .ok (.aload_n 1, 1) := by decide +kernel
theorem dX3_copyFrom_23 : decode cX3_copyFrom 23 = .ok (.getfield 18, 3) := by decide +kernel
theorem dX3_copyFrom_26 : decode cX3_copyFrom 26 = .ok (.aload_n 0, 1) := by decide +kernel
theorem dX3_copyFrom_27 : decode cX3_copyFrom 27 = .ok (.getfield 18, 3) := by decide +kernel
theorem dX3_copyFrom_30 : decode cX3_copyFrom 30 = .ok (.invokestatic 24, 3) := by decide +kernel
theorem dX3_copyFrom_33 : decode cX3_copyFrom 33 = .ok (.aload_n 1, 1) := by decide +kernel
theorem dX3_copyFrom_34 : decode cX3_copyFrom 34 = .ok (.getfield 21, 3) := by decide +kernel
theorem dX3_copyFrom_37 : decode cX3_copyFrom 37 = .ok (.aload_n 0, 1) := by decide +kernel
theorem dX3_copyFrom_38 : decode cX3_copyFrom 38 = .ok (.getfield 21, 3) := by decide +kernel
theorem dX3_copyFrom_41 : decode cX3_copyFrom 41 = .ok (.invokestatic 24, 3) := by decide +kernel
theorem dX3_copyFrom_44 : decode cX3_copyFrom 44 = .ok (.return_, 1) := by decide +kernel
theorem dX3_burning_0 : decode cX3_burning 0 = .ok (.iconst 0, 1) := by decide +kernel
theorem dX3_burning_1 : decode cX3_burning 1 = .ok (.istore_n 1, 1) := by decide +kernel
theorem dX3_burning_2 : decode cX3_burning 2 = .ok (.iconst 0, 1) := by decide +kernel
theorem dX3_burning_3 : decode cX3_burning 3 = .ok (.istore_n 2, 1) := by decide +kernel
theorem dX3_burning_4 : decode cX3_burning 4 = .ok (.iload_n 2, 1) := by decide +kernel
theorem dX3_burning_5 : decode cX3_burning 5 = .ok (.iconst 3, 1) := by decide +kernel
theorem dX3_burning_6 : decode cX3_burning 6 = .ok (.if_icmp .ge 18, 3) := by decide +kernel
theorem dX3_burning_9 : decode cX3_burning 9 = .ok (.iload_n 1, 1) := by decide +kernel
theorem dX3_burning_10 : decode cX3_burning 10 = .ok (.aload_n 0, 1) := by decide +kernel
theorem dX3_burning_11 : decode cX3_burning 11 = .ok (.getfield 21, 3) := by decide +kernel
theorem dX3_burning_14 : decode cX3_burning 14 = .ok (.iload_n 2, 1) := by decide +kernel
theorem dX3_burning_15 : decode cX3_burning 15 = .ok (.iaload, 1) := by decide +kernel
theorem dX3_burning_16 : decode cX3_burning 16 = .ok (.iadd, 1) := by decide +kernel
theorem dX3_burning_17 : decode cX3_burning 17 = .ok (.istore_n 1, 1) := by decide +kernel
theorem dX3_burning_18 : decode cX3_burning 18 = .ok (.iinc 2 1, 3) := by decide +kernel
theorem dX3_burning_21 : decode cX3_burning 21 = .ok (.goto (-17), 3) := by decide +kernel
theorem dX3_burning_24 : decode cX3_burning 24 = .ok (.iload_n 1, 1) := by decide +kernel
theorem dX3_burning_25 : decode cX3_burning 25 = .ok (.ireturn, 1) := by decide +kernel
theorem dX3_switchTo_0 : decode cX3_switchTo 0 = .ok (.aload_n 0, 1) := by decide +kernel
theorem dX3_switchTo_1 : decode cX3_switchTo 1 = .ok (.getfield 21, 3) := by decide +kernel
theorem dX3_switchTo_4 : decode cX3_switchTo 4 = .ok (.iload_n 1, 1) := by decide +kernel
theorem dX3_switchTo_5 : decode cX3_switchTo 5 = .ok (.iload_n 2, 1) := by decide +kernel
theorem dX3_switchTo_6 : decode cX3_switchTo 6 = .ok (.iconst 0, 1) := by decide +kernel
theorem dX3_switchTo_7 : decode cX3_switchTo 7 = .ok (.iconst 1, 1) := by decide +kernel
theorem dX3_switchTo_8 : decode cX3_switchTo 8 = .ok (.invokestatic 28, 3) := by decide +kernel
theorem dX3_switchTo_11 : decode cX3_switchTo 11 = .ok (.istore_n 3, 1) := by decide +kernel
theorem dX3_switchTo_12 : decode cX3_switchTo 12 = .ok (.iload_n 3, 1) := by decide +kernel
theorem dX3_switchTo_13 : decode cX3_switchTo 13 = .ok (.ifCond .ge 7, 3) := by decide +kernel
theorem dX3_switchTo_16 : decode cX3_switchTo 16 = .ok (.iload_n 3, 1) := by decide +kernel
theorem dX3_switchTo_17 : decode cX3_switchTo 17 = .ok (.goto 7, 3) := by decide +kernel
theorem dX3_switchTo_20 : decode cX3_switchTo 20 = .ok (.aload_n 0, 1) := by decide +kernel
theorem dX3_switchTo_21 : decode cX3_switchTo 21 = .ok (.invokevirtual 32, 3) := by decide +kernel
theorem dX3_switchTo_24 : decode cX3_switchTo 24 = .ok (.ireturn, 1) := by decide +kernel
theorem dX3_adjust_0 : decode cX3_adjust 0 = .ok (.iload_n 1, 1) := by decide +kernel
theorem dX3_adjust_1 : decode cX3_adjust 1 = .ok (.invokestatic 36, 3) := by decide +kernel
theorem dX3_adjust_4 : decode cX3_adjust 4 = .ok (.ifCond .ne 5, 3) := by decide +kernel
theorem dX3_adjust_7 : decode cX3_adjust 7 = .ok (.iconst (-1), 1) := by decide +kernel
theorem dX3_adjust_8 : decode cX3_adjust 8 = .ok (.ireturn, 1) := by decide +kernel
theorem dX3_adjust_9 : decode cX3_adjust 9 = .ok (.iload_n 2, 1) := by decide +kernel
theorem dX3_adjust_10 : decode cX3_adjust 10 = .ok (.tableswitch 63 0 2 #[26, 38, 50], 26) := by decide +kernel
theorem dX3_adjust_36 : decode cX3_adjust 36 = .ok (.aload_n 0, 1) := by decide +kernel
theorem dX3_adjust_37 : decode cX3_adjust 37 = .ok (.getfield 9, 3) := by decide +kernel
theorem dX3_adjust_40 : decode cX3_adjust 40 = .ok (.iload_n 1, 1) := by decide +kernel
theorem dX3_adjust_41 : decode cX3_adjust 41 = .ok (.iload_n 3, 1) := by decide +kernel
theorem dX3_adjust_42 : decode cX3_adjust 42 = .ok (.iconst 0, 1) := by decide +kernel
theorem dX3_adjust_43 : decode cX3_adjust 43 = .ok (.iconst 3, 1) := by decide +kernel
theorem dX3_adjust_44 : decode cX3_adjust 44 = .ok (.invokestatic 28, 3) := by decide +kernel
theorem dX3_adjust_47 : decode cX3_adjust 47 = .ok (.ireturn, 1) := by decide +kernel
theorem dX3_adjust_48 : decode cX3_adjust 48 = .ok (.aload_n 0, 1) := by decide +kernel
theorem dX3_adjust_49 : decode cX3_adjust 49 = .ok (.getfield 15, 3) := by decide +kernel
theorem dX3_adjust_52 : decode cX3_adjust 52 = .ok (.iload_n 1, 1) := by decide +kernel
theorem dX3_adjust_53 : decode cX3_adjust 53 = .ok (.iload_n 3, 1) := by decide +kernel
theorem dX3_adjust_54 : decode cX3_adjust 54 = .ok (.iconst 1, 1) := by decide +kernel
theorem dX3_adjust_55 : decode cX3_adjust 55 = .ok (.iconst 4, 1) := by decide +kernel
theorem dX3_adjust_56 : decode cX3_adjust 56 = .ok (.invokestatic 28, 3) := by decide +kernel
theorem dX3_adjust_59 : decode cX3_adjust 59 = .ok (.ireturn, 1) := by decide +kernel
theorem dX3_adjust_60 : decode cX3_adjust 60 = .ok (.aload_n 0, 1) := by decide +kernel
theorem dX3_adjust_61 : decode cX3_adjust 61 = .ok (.getfield 18, 3) := by decide +kernel
theorem dX3_adjust_64 : decode cX3_adjust 64 = .ok (.iload_n 1, 1) := by decide +kernel
theorem dX3_adjust_65 : decode cX3_adjust 65 = .ok (.iload_n 3, 1) := by decide +kernel
theorem dX3_adjust_66 : decode cX3_adjust 66 = .ok (.iconst 0, 1) := by decide +kernel
theorem dX3_adjust_67 : decode cX3_adjust 67 = .ok (.bipush 9, 2) := by decide +kernel
theorem dX3_adjust_69 : decode cX3_adjust 69 = .ok (.invokestatic 28, 3) := by decide +kernel
theorem dX3_adjust_72 : decode cX3_adjust 72 = .ok (.ireturn, 1) := by decide +kernel
theorem dX3_adjust_73 : decode cX3_adjust 73 = .ok (.bipush (-2), 2) := by decide +kernel
theorem dX3_adjust_75 : decode cX3_adjust 75 = .ok (.ireturn, 1) := by decide +kernel
theorem dX3_swingAtTurn_0 : decode cX3_swingAtTurn 0 = .ok (.iconst 0, 1) := by decide +kernel
theorem dX3_swingAtTurn_1 : decode cX3_swingAtTurn 1 = .ok (.istore_n 2, 1) := by decide +kernel
theorem dX3_swingAtTurn_2 : decode cX3_swingAtTurn 2 = .ok (.iload_n 2, 1) := by decide +kernel
theorem dX3_swingAtTurn_3 : decode cX3_swingAtTurn 3 = .ok (.iconst 3, 1) := by decide +kernel
theorem dX3_swingAtTurn_4 : decode cX3_swingAtTurn 4 = .ok (.if_icmp .ge 45, 3) := by decide +kernel
theorem dX3_swingAtTurn_7 : decode cX3_swingAtTurn 7 = .ok (.aload_n 0, 1) := by decide +kernel
theorem dX3_swingAtTurn_8 : decode cX3_swingAtTurn 8 = .ok (.getfield 18, 3) := by decide +kernel
theorem dX3_swingAtTurn_11 : decode cX3_swingAtTurn 11 = .ok (.iload_n 2, 1) := by decide +kernel
theorem dX3_swingAtTurn_12 : decode cX3_swingAtTurn 12 = .ok (.iaload, 1) := by decide +kernel
theorem dX3_swingAtTurn_13 : decode cX3_swingAtTurn 13 = .ok (.ifCond .eq 30, 3) := by decide +kernel
theorem dX3_swingAtTurn_16 : decode cX3_swingAtTurn 16 = .ok (.iload_n 1, 1) := by decide +kernel
theorem dX3_swingAtTurn_17 : decode cX3_swingAtTurn 17 = .ok (.aload_n 0, 1) := by decide +kernel
theorem dX3_swingAtTurn_18 : decode cX3_swingAtTurn 18 = .ok (.getfield 18, 3) := by decide +kernel
theorem dX3_swingAtTurn_21 : decode cX3_swingAtTurn 21 = .ok (.iload_n 2, 1) := by decide +kernel
theorem dX3_swingAtTurn_22 : decode cX3_swingAtTurn 22 = .ok (.iaload, 1) := by decide +kernel
theorem dX3_swingAtTurn_23 : decode cX3_swingAtTurn 23 = .ok (.irem, 1) := by decide +kernel
theorem dX3_swingAtTurn_24 : decode cX3_swingAtTurn 24 = .ok (.ifCond .ne 19, 3) := by decide +kernel
theorem dX3_swingAtTurn_27 : decode cX3_swingAtTurn 27 = .ok (.aload_n 0, 1) := by decide +kernel
theorem dX3_swingAtTurn_28 : decode cX3_swingAtTurn 28 = .ok (.getfield 9, 3) := by decide +kernel
theorem dX3_swingAtTurn_31 : decode cX3_swingAtTurn 31 = .ok (.iload_n 2, 1) := by decide +kernel
theorem dX3_swingAtTurn_32 : decode cX3_swingAtTurn 32 = .ok (.aload_n 0, 1) := by decide +kernel
theorem dX3_swingAtTurn_33 : decode cX3_swingAtTurn 33 = .ok (.getfield 9, 3) := by decide +kernel
theorem dX3_swingAtTurn_36 : decode cX3_swingAtTurn 36 = .ok (.iload_n 2, 1) := by decide +kernel
theorem dX3_swingAtTurn_37 : decode cX3_swingAtTurn 37 = .ok (.iaload, 1) := by decide +kernel
theorem dX3_swingAtTurn_38 : decode cX3_swingAtTurn 38 = .ok (.iconst 1, 1) := by decide +kernel
theorem dX3_swingAtTurn_39 : decode cX3_swingAtTurn 39 = .ok (.iadd, 1) := by decide +kernel
theorem dX3_swingAtTurn_40 : decode cX3_swingAtTurn 40 = .ok (.iconst 4, 1) := by decide +kernel
theorem dX3_swingAtTurn_41 : decode cX3_swingAtTurn 41 = .ok (.irem, 1) := by decide +kernel
theorem dX3_swingAtTurn_42 : decode cX3_swingAtTurn 42 = .ok (.iastore, 1) := by decide +kernel
theorem dX3_swingAtTurn_43 : decode cX3_swingAtTurn 43 = .ok (.iinc 2 1, 3) := by decide +kernel
theorem dX3_swingAtTurn_46 : decode cX3_swingAtTurn 46 = .ok (.goto (-44), 3) := by decide +kernel
theorem dX3_swingAtTurn_49 : decode cX3_swingAtTurn 49 = .ok (.return_, 1) := by decide +kernel
theorem dX4_init_0 : decode cX4_init 0 = .ok (.aload_n 0, 1) := by decide +kernel
theorem dX4_init_1 : decode cX4_init 1 = .ok (.invokespecial 3, 3) := by decide +kernel
theorem dX4_init_4 : decode cX4_init 4 = .ok (.aload_n 0, 1) := by decide +kernel
theorem dX4_init_5 : decode cX4_init 5 = .ok (.new 9, 3) := by decide +kernel
theorem dX4_init_8 : decode cX4_init 8 = .ok (.dup, 1) := by decide +kernel
theorem dX4_init_9 : decode cX4_init 9 = .ok (.invokespecial 11, 3) := by decide +kernel
theorem dX4_init_12 : decode cX4_init 12 = .ok (.putfield 12, 3) := by decide +kernel
theorem dX4_init_15 : decode cX4_init 15 = .ok (.aload_n 0, 1) := by decide +kernel
theorem dX4_init_16 : decode cX4_init 16 = .ok (.new 18, 3) := by decide +kernel
theorem dX4_init_19 : decode cX4_init 19 = .ok (.dup, 1) := by decide +kernel
theorem dX4_init_20 : decode cX4_init 20 = .ok (.invokespecial 20, 3) := by decide +kernel
theorem dX4_init_23 : decode cX4_init 23 = .ok (.putfield 21, 3) := by decide +kernel
theorem dX4_init_26 : decode cX4_init 26 = .ok (.aload_n 0, 1) := by decide +kernel
theorem dX4_init_27 : decode cX4_init 27 = .ok (.iconst 2, 1) := by decide +kernel
theorem dX4_init_28 : decode cX4_init 28 = .ok (.newarray .int, 2) := by decide +kernel
theorem dX4_init_30 : decode cX4_init 30 = .ok (.dup, 1) := by decide +kernel
theorem dX4_init_31 : decode cX4_init 31 = .ok (.iconst 0, 1) := by decide +kernel
theorem dX4_init_32 : decode cX4_init 32 = .ok (.iconst 3, 1) := by decide +kernel
theorem dX4_init_33 : decode cX4_init 33 = .ok (.iastore, 1) := by decide +kernel
theorem dX4_init_34 : decode cX4_init 34 = .ok (.dup, 1) := by decide +kernel
theorem dX4_init_35 : decode cX4_init 35 = .ok (.iconst 1, 1) := by decide +kernel
theorem dX4_init_36 : decode cX4_init 36 = .ok (.iconst 0, 1) := by decide +kernel
theorem dX4_init_37 : decode cX4_init 37 = .ok (.iastore, 1) := by decide +kernel
theorem dX4_init_38 : decode cX4_init 38 = .ok (.putfield 25, 3) := by decide +kernel
theorem dX4_init_41 : decode cX4_init 41 = .ok (.aload_n 0, 1) := by decide +kernel
theorem dX4_init_42 : decode cX4_init 42 = .ok (.iconst 0, 1) := by decide +kernel
theorem dX4_init_43 : decode cX4_init 43 = .ok (.putfield 29, 3) := by decide +kernel
theorem dX4_init_46 : decode cX4_init 46 = .ok (.aload_n 0, 1) := by decide +kernel
theorem dX4_init_47 : decode cX4_init 47 = .ok (.iconst 0, 1) := by decide +kernel
theorem dX4_init_48 : decode cX4_init 48 = .ok (.putfield 33, 3) := by decide +kernel
theorem dX4_init_51 : decode cX4_init 51 = .ok (.return_, 1) := by decide +kernel
theorem dX4_copyFrom_0 : decode cX4_copyFrom 0 = .ok (.aload_n 0, 1) := by decide +kernel
theorem dX4_copyFrom_1 : decode cX4_copyFrom 1 = .ok (.getfield 12, 3) := by decide +kernel
theorem dX4_copyFrom_4 : decode cX4_copyFrom 4 = .ok (.aload_n 1, 1) := by decide +kernel
theorem dX4_copyFrom_5 : decode cX4_copyFrom 5 = .ok (.getfield 12, 3) := by decide +kernel
theorem dX4_copyFrom_8 : decode cX4_copyFrom 8 = .ok (.invokevirtual 36, 3) := by decide +kernel
theorem dX4_copyFrom_11 : decode cX4_copyFrom 11 = .ok (.aload_n 0, 1) := by decide +kernel
theorem dX4_copyFrom_12 : decode cX4_copyFrom 12 = .ok (.getfield 21, 3) := by decide +kernel
theorem dX4_copyFrom_15 : decode cX4_copyFrom 15 = .ok (.aload_n 1, 1) := by decide +kernel
theorem dX4_copyFrom_16 : decode cX4_copyFrom 16 = .ok (.getfield 21, 3) := by decide +kernel
theorem dX4_copyFrom_19 : decode cX4_copyFrom 19 = .ok (.invokevirtual 40, 3) := by decide +kernel
theorem dX4_copyFrom_22 : decode cX4_copyFrom 22 = .ok (.aload_n 1, 1) := by decide +kernel
theorem dX4_copyFrom_23 : decode cX4_copyFrom 23 = .ok (.getfield 25, 3) := by decide +kernel
theorem dX4_copyFrom_26 : decode cX4_copyFrom 26 = .ok (.aload_n 0, 1) := by decide +kernel
theorem dX4_copyFrom_27 : decode cX4_copyFrom 27 = .ok (.getfield 25, 3) := by decide +kernel
theorem dX4_copyFrom_30 : decode cX4_copyFrom 30 = .ok (.invokestatic 43, 3) := by decide +kernel
theorem dX4_copyFrom_33 : decode cX4_copyFrom 33 = .ok (.aload_n 0, 1) := by decide +kernel
theorem dX4_copyFrom_34 : decode cX4_copyFrom 34 = .ok (.aload_n 1, 1) := by decide +kernel
theorem dX4_copyFrom_35 : decode cX4_copyFrom 35 = .ok (.getfield 29, 3) := by decide +kernel
theorem dX4_copyFrom_38 : decode cX4_copyFrom 38 = .ok (.putfield 29, 3) := by decide +kernel
theorem dX4_copyFrom_41 : decode cX4_copyFrom 41 = .ok (.aload_n 0, 1) := by decide +kernel
theorem dX4_copyFrom_42 : decode cX4_copyFrom 42 = .ok (.aload_n 1, 1) := by decide +kernel
theorem dX4_copyFrom_43 : decode cX4_copyFrom 43 = .ok (.getfield 33, 3) := by decide +kernel
theorem dX4_copyFrom_46 : decode cX4_copyFrom 46 = .ok (.putfield 33, 3) := by decide +kernel
theorem dX4_copyFrom_49 : decode cX4_copyFrom 49 = .ok (.return_, 1) := by decide +kernel
theorem dX4_takeTurns_0 : decode cX4_takeTurns 0 = .ok (.iload_n 1, 1) := by decide +kernel
theorem dX4_takeTurns_1 : decode cX4_takeTurns 1 = .ok (.iconst 1, 1) := by decide +kernel
theorem dX4_takeTurns_2 : decode cX4_takeTurns 2 = .ok (.if_icmp .lt 9, 3) := by decide +kernel
theorem dX4_takeTurns_5 : decode cX4_takeTurns 5 = .ok (.iload_n 1, 1) := by decide +kernel
theorem dX4_takeTurns_6 : decode cX4_takeTurns 6 = .ok (.bipush 99, 2) := by decide +kernel
theorem dX4_takeTurns_8 : decode cX4_takeTurns 8 = .ok (.if_icmp .le 6, 3) := by decide +kernel
theorem dX4_takeTurns_11 : decode cX4_takeTurns 11 = .ok (.bipush (-2), 2) := by decide +kernel
theorem dX4_takeTurns_13 : decode cX4_takeTurns 13 = .ok (.ireturn, 1) := by decide +kernel
theorem dX4_takeTurns_14 : decode cX4_takeTurns 14 = .ok (.aload_n 0, 1) := by decide +kernel
theorem dX4_takeTurns_15 : decode cX4_takeTurns 15 = .ok (.getfield 29, 3) := by decide +kernel
theorem dX4_takeTurns_18 : decode cX4_takeTurns 18 = .ok (.iload_n 1, 1) := by decide +kernel
theorem dX4_takeTurns_19 : decode cX4_takeTurns 19 = .ok (.iadd, 1) := by decide +kernel
theorem dX4_takeTurns_20 : decode cX4_takeTurns 20 = .ok (.ldc 47, 2) := by decide +kernel
theorem dX4_takeTurns_22 : decode cX4_takeTurns 22 = .ok (.if_icmp .le 6, 3) := by decide +kernel
theorem dX4_takeTurns_25 : decode cX4_takeTurns 25 = .ok (.bipush (-3), 2) := by decide +kernel
theorem dX4_takeTurns_27 : decode cX4_takeTurns 27 = .ok (.ireturn, 1) := by decide +kernel
theorem dX4_takeTurns_28 : decode cX4_takeTurns 28 = .ok (.aload_n 0, 1) := by decide +kernel
theorem dX4_takeTurns_29 : decode cX4_takeTurns 29 = .ok (.getfield 12, 3) := by decide +kernel
theorem dX4_takeTurns_32 : decode cX4_takeTurns 32 = .ok (.getfield 48, 3) := by decide +kernel
theorem dX4_takeTurns_35 : decode cX4_takeTurns 35 = .ok (.istore_n 2, 1) := by decide +kernel
theorem dX4_takeTurns_36 : decode cX4_takeTurns 36 = .ok (.iconst 0, 1) := by decide +kernel
theorem dX4_takeTurns_37 : decode cX4_takeTurns 37 = .ok (.istore_n 3, 1) := by decide +kernel
theorem dX4_takeTurns_38 : decode cX4_takeTurns 38 = .ok (.iload_n 3, 1) := by decide +kernel
theorem dX4_takeTurns_39 : decode cX4_takeTurns 39 = .ok (.iload_n 1, 1) := by decide +kernel
theorem dX4_takeTurns_40 : decode cX4_takeTurns 40 = .ok (.if_icmp .ge 14, 3) := by decide +kernel
theorem dX4_takeTurns_43 : decode cX4_takeTurns 43 = .ok (.aload_n 0, 1) := by decide +kernel
theorem dX4_takeTurns_44 : decode cX4_takeTurns 44 = .ok (.invokevirtual 51, 3) := by decide +kernel
theorem dX4_takeTurns_47 : decode cX4_takeTurns 47 = .ok (.pop, 1) := by decide +kernel
theorem dX4_takeTurns_48 : decode cX4_takeTurns 48 = .ok (.iinc 3 1, 3) := by decide +kernel
theorem dX4_takeTurns_51 : decode cX4_takeTurns 51 = .ok (.goto (-13), 3) := by decide +kernel
theorem dX4_takeTurns_54 : decode cX4_takeTurns 54 = .ok (.aload_n 0, 1) := by decide +kernel
theorem dX4_takeTurns_55 : decode cX4_takeTurns 55 = .ok (.getfield 12, 3) := by decide +kernel
theorem dX4_takeTurns_58 : decode cX4_takeTurns 58 = .ok (.getfield 48, 3) := by decide +kernel
theorem dX4_takeTurns_61 : decode cX4_takeTurns 61 = .ok (.iload_n 2, 1) := by decide +kernel
theorem dX4_takeTurns_62 : decode cX4_takeTurns 62 = .ok (.isub, 1) := by decide +kernel
theorem dX4_takeTurns_63 : decode cX4_takeTurns 63 = .ok (.ireturn, 1) := by decide +kernel
theorem dX4_takeTurn_0 : decode cX4_takeTurn 0 = .ok (.aload_n 0, 1) := by decide +kernel
theorem dX4_takeTurn_1 : decode cX4_takeTurn 1 = .ok (.getfield 12, 3) := by decide +kernel
theorem dX4_takeTurn_4 : decode cX4_takeTurn 4 = .ok (.invokevirtual 55, 3) := by decide +kernel
theorem dX4_takeTurn_7 : decode cX4_takeTurn 7 = .ok (.aload_n 0, 1) := by decide +kernel
theorem dX4_takeTurn_8 : decode cX4_takeTurn 8 = .ok (.invokevirtual 58, 3) := by decide +kernel
theorem dX4_takeTurn_11 : decode cX4_takeTurn 11 = .ok (.istore_n 1, 1) := by decide +kernel
theorem dX4_takeTurn_12 : decode cX4_takeTurn 12 = .ok (.iload_n 1, 1) := by decide +kernel
theorem dX4_takeTurn_13 : decode cX4_takeTurn 13 = .ok (.bipush (-5), 2) := by decide +kernel
theorem dX4_takeTurn_15 : decode cX4_takeTurn 15 = .ok (.if_icmp .eq 19, 3) := by decide +kernel
theorem dX4_takeTurn_18 : decode cX4_takeTurn 18 = .ok (.aload_n 0, 1) := by decide +kernel
theorem dX4_takeTurn_19 : decode cX4_takeTurn 19 = .ok (.getfield 12, 3) := by decide +kernel
theorem dX4_takeTurn_22 : decode cX4_takeTurn 22 = .ok (.iload_n 1, 1) := by decide +kernel
theorem dX4_takeTurn_23 : decode cX4_takeTurn 23 = .ok (.aload_n 0, 1) := by decide +kernel
theorem dX4_takeTurn_24 : decode cX4_takeTurn 24 = .ok (.getfield 25, 3) := by decide +kernel
theorem dX4_takeTurn_27 : decode cX4_takeTurn 27 = .ok (.iconst 0, 1) := by decide +kernel
theorem dX4_takeTurn_28 : decode cX4_takeTurn 28 = .ok (.iaload, 1) := by decide +kernel
theorem dX4_takeTurn_29 : decode cX4_takeTurn 29 = .ok (.iconst 1, 1) := by decide +kernel
theorem dX4_takeTurn_30 : decode cX4_takeTurn 30 = .ok (.iadd, 1) := by decide +kernel
theorem dX4_takeTurn_31 : decode cX4_takeTurn 31 = .ok (.invokevirtual 62, 3) := by decide +kernel
theorem dX4_takeTurn_34 : decode cX4_takeTurn 34 = .ok (.aload_n 0, 1) := by decide +kernel
theorem dX4_takeTurn_35 : decode cX4_takeTurn 35 = .ok (.getfield 12, 3) := by decide +kernel
theorem dX4_takeTurn_38 : decode cX4_takeTurn 38 = .ok (.invokevirtual 66, 3) := by decide +kernel
theorem dX4_takeTurn_41 : decode cX4_takeTurn 41 = .ok (.aload_n 0, 1) := by decide +kernel
theorem dX4_takeTurn_42 : decode cX4_takeTurn 42 = .ok (.getfield 12, 3) := by decide +kernel
theorem dX4_takeTurn_45 : decode cX4_takeTurn 45 = .ok (.invokevirtual 69, 3) := by decide +kernel
theorem dX4_takeTurn_48 : decode cX4_takeTurn 48 = .ok (.aload_n 0, 1) := by decide +kernel
theorem dX4_takeTurn_49 : decode cX4_takeTurn 49 = .ok (.dup, 1) := by decide +kernel
theorem dX4_takeTurn_50 : decode cX4_takeTurn 50 = .ok (.getfield 29, 3) := by decide +kernel
theorem dX4_takeTurn_53 : decode cX4_takeTurn 53 = .ok (.iconst 1, 1) := by decide +kernel
theorem dX4_takeTurn_54 : decode cX4_takeTurn 54 = .ok (.iadd, 1) := by decide +kernel
theorem dX4_takeTurn_55 : decode cX4_takeTurn 55 = .ok (.putfield 29, 3) := by decide +kernel
theorem dX4_takeTurn_58 : decode cX4_takeTurn 58 = .ok (.aload_n 0, 1) := by decide +kernel
theorem dX4_takeTurn_59 : decode cX4_takeTurn 59 = .ok (.getfield 21, 3) := by decide +kernel
theorem dX4_takeTurn_62 : decode cX4_takeTurn 62 = .ok (.aload_n 0, 1) := by decide +kernel
theorem dX4_takeTurn_63 : decode cX4_takeTurn 63 = .ok (.getfield 29, 3) := by decide +kernel
theorem dX4_takeTurn_66 : decode cX4_takeTurn 66 = .ok (.invokevirtual 72, 3) := by decide +kernel
theorem dX4_takeTurn_69 : decode cX4_takeTurn 69 = .ok (.aload_n 0, 1) := by decide +kernel
theorem dX4_takeTurn_70 : decode cX4_takeTurn 70 = .ok (.getfield 25, 3) := by decide +kernel
theorem dX4_takeTurn_73 : decode cX4_takeTurn 73 = .ok (.iconst 1, 1) := by decide +kernel
theorem dX4_takeTurn_74 : decode cX4_takeTurn 74 = .ok (.iaload, 1) := by decide +kernel
theorem dX4_takeTurn_75 : decode cX4_takeTurn 75 = .ok (.ifCond .eq 34, 3) := by decide +kernel
theorem dX4_takeTurn_78 : decode cX4_takeTurn 78 = .ok (.aload_n 0, 1) := by decide +kernel
theorem dX4_takeTurn_79 : decode cX4_takeTurn 79 = .ok (.getfield 29, 3) := by decide +kernel
theorem dX4_takeTurn_82 : decode cX4_takeTurn 82 = .ok (.aload_n 0, 1) := by decide +kernel
theorem dX4_takeTurn_83 : decode cX4_takeTurn 83 = .ok (.getfield 25, 3) := by decide +kernel
theorem dX4_takeTurn_86 : decode cX4_takeTurn 86 = .ok (.iconst 1, 1) := by decide +kernel
theorem dX4_takeTurn_87 : decode cX4_takeTurn 87 = .ok (.iaload, 1) := by decide +kernel
theorem dX4_takeTurn_88 : decode cX4_takeTurn 88 = .ok (.irem, 1) := by decide +kernel
theorem dX4_takeTurn_89 : decode cX4_takeTurn 89 = .ok (.ifCond .ne 20, 3) := by decide +kernel
theorem dX4_takeTurn_92 : decode cX4_takeTurn 92 = .ok (.aload_n 0, 1) := by decide +kernel
theorem dX4_takeTurn_93 : decode cX4_takeTurn 93 = .ok (.getfield 12, 3) := by decide +kernel
theorem dX4_takeTurn_96 : decode cX4_takeTurn 96 = .ok (.invokevirtual 76, 3) := by decide +kernel
theorem dX4_takeTurn_99 : decode cX4_takeTurn 99 = .ok (.aload_n 0, 1) := by decide +kernel
theorem dX4_takeTurn_100 : decode cX4_takeTurn 100 = .ok (.dup, 1) := by decide +kernel
theorem dX4_takeTurn_101 : decode cX4_takeTurn 101 = .ok (.getfield 33, 3) := by decide +kernel
theorem dX4_takeTurn_104 : decode cX4_takeTurn 104 = .ok (.iconst 1, 1) := by decide +kernel
theorem dX4_takeTurn_105 : decode cX4_takeTurn 105 = .ok (.iadd, 1) := by decide +kernel
theorem dX4_takeTurn_106 : decode cX4_takeTurn 106 = .ok (.putfield 33, 3) := by decide +kernel
theorem dX4_takeTurn_109 : decode cX4_takeTurn 109 = .ok (.iload_n 1, 1) := by decide +kernel
theorem dX4_takeTurn_110 : decode cX4_takeTurn 110 = .ok (.bipush (-5), 2) := by decide +kernel
theorem dX4_takeTurn_112 : decode cX4_takeTurn 112 = .ok (.if_icmp .eq 7, 3) := by decide +kernel
theorem dX4_takeTurn_115 : decode cX4_takeTurn 115 = .ok (.iconst 1, 1) := by decide +kernel
theorem dX4_takeTurn_116 : decode cX4_takeTurn 116 = .ok (.goto 4, 3) := by decide +kernel
theorem dX4_takeTurn_119 : decode cX4_takeTurn 119 = .ok (.iconst 0, 1) := by decide +kernel
theorem dX4_takeTurn_120 : decode cX4_takeTurn 120 = .ok (.ireturn, 1) := by decide +kernel
theorem dX4_firstCaught_0 : decode cX4_firstCaught 0 = .ok (.aload_n 0, 1) := by decide +kernel
theorem dX4_firstCaught_1 : decode cX4_firstCaught 1 = .ok (.getfield 12, 3) := by decide +kernel
theorem dX4_firstCaught_4 : decode cX4_firstCaught 4 = .ok (.aload_n 0, 1) := by decide +kernel
theorem dX4_firstCaught_5 : decode cX4_firstCaught 5 = .ok (.getfield 12, 3) := by decide +kernel
theorem dX4_firstCaught_8 : decode cX4_firstCaught 8 = .ok (.getfield 79, 3) := by decide +kernel
theorem dX4_firstCaught_11 : decode cX4_firstCaught 11 = .ok (.invokevirtual 82, 3) := by decide +kernel
theorem dX4_firstCaught_14 : decode cX4_firstCaught 14 = .ok (.ifCond .ne 6, 3) := by decide +kernel
theorem dX4_firstCaught_17 : decode cX4_firstCaught 17 = .ok (.bipush (-5), 2) := by decide +kernel
theorem dX4_firstCaught_19 : decode cX4_firstCaught 19 = .ok (.ireturn, 1) := by decide +kernel
theorem dX4_firstCaught_20 : decode cX4_firstCaught 20 = .ok (.aload_n 0, 1) := by decide +kernel
theorem dX4_firstCaught_21 : decode cX4_firstCaught 21 = .ok (.getfield 12, 3) := by decide +kernel
theorem dX4_firstCaught_24 : decode cX4_firstCaught 24 = .ok (.getfield 86, 3) := by decide +kernel
theorem dX4_firstCaught_27 : decode cX4_firstCaught 27 = .ok (.aload_n 0, 1) := by decide +kernel
theorem dX4_firstCaught_28 : decode cX4_firstCaught 28 = .ok (.getfield 12, 3) := by decide +kernel
theorem dX4_firstCaught_31 : decode cX4_firstCaught 31 = .ok (.getfield 79, 3) := by decide +kernel
theorem dX4_firstCaught_34 : decode cX4_firstCaught 34 = .ok (.iaload, 1) := by decide +kernel
theorem dX4_firstCaught_35 : decode cX4_firstCaught 35 = .ok (.istore_n 1, 1) := by decide +kernel
theorem dX4_firstCaught_36 : decode cX4_firstCaught 36 = .ok (.bipush (-5), 2) := by decide +kernel
theorem dX4_firstCaught_38 : decode cX4_firstCaught 38 = .ok (.istore_n 2, 1) := by decide +kernel
theorem dX4_firstCaught_39 : decode cX4_firstCaught 39 = .ok (.iconst 0, 1) := by decide +kernel
theorem dX4_firstCaught_40 : decode cX4_firstCaught 40 = .ok (.istore_n 3, 1) := by decide +kernel
theorem dX4_firstCaught_41 : decode cX4_firstCaught 41 = .ok (.iload_n 3, 1) := by decide +kernel
theorem dX4_firstCaught_42 : decode cX4_firstCaught 42 = .ok (.iconst 3, 1) := by decide +kernel
theorem dX4_firstCaught_43 : decode cX4_firstCaught 43 = .ok (.if_icmp .ge 57, 3) := by decide +kernel
theorem dX4_firstCaught_46 : decode cX4_firstCaught 46 = .ok (.aload_n 0, 1) := by decide +kernel
theorem dX4_firstCaught_47 : decode cX4_firstCaught 47 = .ok (.iload_n 1, 1) := by decide +kernel
theorem dX4_firstCaught_48 : decode cX4_firstCaught 48 = .ok (.iload_n 3, 1) := by decide +kernel
theorem dX4_firstCaught_49 : decode cX4_firstCaught 49 = .ok (.invokevirtual 89, 3) := by decide +kernel
theorem dX4_firstCaught_52 : decode cX4_firstCaught 52 = .ok (.istore 4, 2) := by decide +kernel
theorem dX4_firstCaught_54 : decode cX4_firstCaught 54 = .ok (.aload_n 0, 1) := by decide +kernel
theorem dX4_firstCaught_55 : decode cX4_firstCaught 55 = .ok (.getfield 12, 3) := by decide +kernel
theorem dX4_firstCaught_58 : decode cX4_firstCaught 58 = .ok (.iload 4, 2) := by decide +kernel
theorem dX4_firstCaught_60 : decode cX4_firstCaught 60 = .ok (.invokevirtual 82, 3) := by decide +kernel
theorem dX4_firstCaught_63 : decode cX4_firstCaught 63 = .ok (.ifCond .eq 31, 3) := by decide +kernel
theorem dX4_firstCaught_66 : decode cX4_firstCaught 66 = .ok (.aload_n 0, 1) := by decide +kernel
theorem dX4_firstCaught_67 : decode cX4_firstCaught 67 = .ok (.getfield 12, 3) := by decide +kernel
theorem dX4_firstCaught_70 : decode cX4_firstCaught 70 = .ok (.getfield 93, 3) := by decide +kernel
theorem dX4_firstCaught_73 : decode cX4_firstCaught 73 = .ok (.iload 4, 2) := by decide +kernel
theorem dX4_firstCaught_75 : decode cX4_firstCaught 75 = .ok (.iaload, 1) := by decide +kernel
theorem dX4_firstCaught_76 : decode cX4_firstCaught 76 = .ok (.ifCond .ne 18, 3) := by decide +kernel
theorem dX4_firstCaught_79 : decode cX4_firstCaught 79 = .ok (.iload_n 2, 1) := by decide +kernel
theorem dX4_firstCaught_80 : decode cX4_firstCaught 80 = .ok (.bipush (-5), 2) := by decide +kernel
theorem dX4_firstCaught_82 : decode cX4_firstCaught 82 = .ok (.if_icmp .eq 9, 3) := by decide +kernel
theorem dX4_firstCaught_85 : decode cX4_firstCaught 85 = .ok (.iload 4, 2) := by decide +kernel
theorem dX4_firstCaught_87 : decode cX4_firstCaught 87 = .ok (.iload_n 2, 1) := by decide +kernel
theorem dX4_firstCaught_88 : decode cX4_firstCaught 88 = .ok (.if_icmp .ge 6, 3) := by decide +kernel
theorem dX4_firstCaught_91 : decode cX4_firstCaught 91 = .ok (.iload 4, 2) := by decide +kernel
theorem dX4_firstCaught_93 : decode cX4_firstCaught 93 = .ok (.istore_n 2, 1) := by decide +kernel
theorem dX4_firstCaught_94 : decode cX4_firstCaught 94 = .ok (.iinc 3 1, 3) := by decide +kernel
theorem dX4_firstCaught_97 : decode cX4_firstCaught 97 = .ok (.goto (-56), 3) := by decide +kernel
theorem dX4_firstCaught_100 : decode cX4_firstCaught 100 = .ok (.iload_n 2, 1) := by decide +kernel
theorem dX4_firstCaught_101 : decode cX4_firstCaught 101 = .ok (.ireturn, 1) := by decide +kernel
theorem dX4_catcherStandsInShadowOf_0 : decode cX4_catcherStandsInShadowOf 0 = .ok (.aload_n 0, 1) := by decide +kernel
theorem dX4_catcherStandsInShadowOf_1 : decode cX4_catcherStandsInShadowOf 1 = .ok (.getfield 12, 3) := by decide +kernel
theorem dX4_catcherStandsInShadowOf_4 : decode cX4_catcherStandsInShadowOf 4 = .ok (.aload_n 0, 1) := by decide +kernel
theorem dX4_catcherStandsInShadowOf_5 : decode cX4_catcherStandsInShadowOf 5 = .ok (.getfield 12, 3) := by decide +kernel
theorem dX4_catcherStandsInShadowOf_8 : decode cX4_catcherStandsInShadowOf 8 = .ok (.getfield 79, 3) := by decide +kernel
theorem dX4_catcherStandsInShadowOf_11 : decode cX4_catcherStandsInShadowOf 11 = .ok (.invokevirtual 82, 3) := by decide +kernel
theorem dX4_catcherStandsInShadowOf_14 : decode cX4_catcherStandsInShadowOf 14 = .ok (.ifCond .ne 5, 3) := by decide +kernel
theorem dX4_catcherStandsInShadowOf_17 : decode cX4_catcherStandsInShadowOf 17 = .ok (.iconst 0, 1) := by decide +kernel
theorem dX4_catcherStandsInShadowOf_18 : decode cX4_catcherStandsInShadowOf 18 = .ok (.ireturn, 1) := by decide +kernel
theorem dX4_catcherStandsInShadowOf_19 : decode cX4_catcherStandsInShadowOf 19 = .ok (.aload_n 0, 1) := by decide +kernel
theorem dX4_catcherStandsInShadowOf_20 : decode cX4_catcherStandsInShadowOf 20 = .ok (.getfield 12, 3) := by decide +kernel
theorem dX4_catcherStandsInShadowOf_23 : decode cX4_catcherStandsInShadowOf 23 = .ok (.getfield 86, 3) := by decide +kernel
theorem dX4_catcherStandsInShadowOf_26 : decode cX4_catcherStandsInShadowOf 26 = .ok (.aload_n 0, 1) := by decide +kernel
theorem dX4_catcherStandsInShadowOf_27 : decode cX4_catcherStandsInShadowOf 27 = .ok (.getfield 12, 3) := by decide +kernel
theorem dX4_catcherStandsInShadowOf_30 : decode cX4_catcherStandsInShadowOf 30 = .ok (.getfield 79, 3) := by decide +kernel
theorem dX4_catcherStandsInShadowOf_33 : decode cX4_catcherStandsInShadowOf 33 = .ok (.iaload, 1) := by decide +kernel
theorem dX4_catcherStandsInShadowOf_34 : decode cX4_catcherStandsInShadowOf 34 = .ok (.istore_n 2, 1) := by decide +kernel
theorem dX4_catcherStandsInShadowOf_35 : decode cX4_catcherStandsInShadowOf 35 = .ok (.iconst 0, 1) := by decide +kernel
theorem dX4_catcherStandsInShadowOf_36 : decode cX4_catcherStandsInShadowOf 36 = .ok (.istore_n 3, 1) := by decide +kernel
theorem dX4_catcherStandsInShadowOf_37 : decode cX4_catcherStandsInShadowOf 37 = .ok (.iload_n 3, 1) := by decide +kernel
theorem dX4_catcherStandsInShadowOf_38 : decode cX4_catcherStandsInShadowOf 38 = .ok (.iconst 3, 1) := by decide +kernel
theorem dX4_catcherStandsInShadowOf_39 : decode cX4_catcherStandsInShadowOf 39 = .ok (.if_icmp .ge 21, 3) := by decide +kernel
theorem dX4_catcherStandsInShadowOf_42 : decode cX4_catcherStandsInShadowOf 42 = .ok (.aload_n 0, 1) := by decide +kernel
theorem dX4_catcherStandsInShadowOf_43 : decode cX4_catcherStandsInShadowOf 43 = .ok (.iload_n 2, 1) := by decide +kernel
theorem dX4_catcherStandsInShadowOf_44 : decode cX4_catcherStandsInShadowOf 44 = .ok (.iload_n 1, 1) := by decide +kernel
theorem dX4_catcherStandsInShadowOf_45 : decode cX4_catcherStandsInShadowOf 45 = .ok (.iload_n 3, 1) := by decide +kernel
theorem dX4_catcherStandsInShadowOf_46 : decode cX4_catcherStandsInShadowOf 46 = .ok (.invokevirtual 96, 3) := by decide +kernel
theorem dX4_catcherStandsInShadowOf_49 : decode cX4_catcherStandsInShadowOf 49 = .ok (.ifCond .eq 5, 3) := by decide +kernel
theorem dX4_catcherStandsInShadowOf_52 : decode cX4_catcherStandsInShadowOf 52 = .ok (.iconst 1, 1) := by decide +kernel
theorem dX4_catcherStandsInShadowOf_53 : decode cX4_catcherStandsInShadowOf 53 = .ok (.ireturn, 1) := by decide +kernel
theorem dX4_catcherStandsInShadowOf_54 : decode cX4_catcherStandsInShadowOf 54 = .ok (.iinc 3 1, 3) := by decide +kernel
theorem dX4_catcherStandsInShadowOf_57 : decode cX4_catcherStandsInShadowOf 57 = .ok (.goto (-20), 3) := by decide +kernel
theorem dX4_catcherStandsInShadowOf_60 : decode cX4_catcherStandsInShadowOf 60 = .ok (.iconst 0, 1) := by decide +kernel
theorem dX4_catcherStandsInShadowOf_61 : decode cX4_catcherStandsInShadowOf 61 = .ok (.ireturn, 1) := by decide +kernel
theorem dX4_isInShadow_0 : decode cX4_isInShadow 0 = .ok (.aload_n 0, 1) := by decide +kernel
theorem dX4_isInShadow_1 : decode cX4_isInShadow 1 = .ok (.getfield 12, 3) := by decide +kernel
theorem dX4_isInShadow_4 : decode cX4_isInShadow 4 = .ok (.iload_n 2, 1) := by decide +kernel
theorem dX4_isInShadow_5 : decode cX4_isInShadow 5 = .ok (.invokevirtual 82, 3) := by decide +kernel
theorem dX4_isInShadow_8 : decode cX4_isInShadow 8 = .ok (.ifCond .eq 10, 3) := by decide +kernel
theorem dX4_isInShadow_11 : decode cX4_isInShadow 11 = .ok (.iload_n 3, 1) := by decide +kernel
theorem dX4_isInShadow_12 : decode cX4_isInShadow 12 = .ok (.invokestatic 100, 3) := by decide +kernel
theorem dX4_isInShadow_15 : decode cX4_isInShadow 15 = .ok (.ifCond .ne 5, 3) := by decide +kernel
theorem dX4_isInShadow_18 : decode cX4_isInShadow 18 = .ok (.iconst 0, 1) := by decide +kernel
theorem dX4_isInShadow_19 : decode cX4_isInShadow 19 = .ok (.ireturn, 1) := by decide +kernel
theorem dX4_isInShadow_20 : decode cX4_isInShadow 20 = .ok (.aload_n 0, 1) := by decide +kernel
theorem dX4_isInShadow_21 : decode cX4_isInShadow 21 = .ok (.getfield 12, 3) := by decide +kernel
theorem dX4_isInShadow_24 : decode cX4_isInShadow 24 = .ok (.getfield 86, 3) := by decide +kernel
theorem dX4_isInShadow_27 : decode cX4_isInShadow 27 = .ok (.iload_n 2, 1) := by decide +kernel
theorem dX4_isInShadow_28 : decode cX4_isInShadow 28 = .ok (.iaload, 1) := by decide +kernel
theorem dX4_isInShadow_29 : decode cX4_isInShadow 29 = .ok (.iload_n 1, 1) := by decide +kernel
theorem dX4_isInShadow_30 : decode cX4_isInShadow 30 = .ok (.aload_n 0, 1) := by decide +kernel
theorem dX4_isInShadow_31 : decode cX4_isInShadow 31 = .ok (.getfield 21, 3) := by decide +kernel
theorem dX4_isInShadow_34 : decode cX4_isInShadow 34 = .ok (.getfield 103, 3) := by decide +kernel
theorem dX4_isInShadow_37 : decode cX4_isInShadow 37 = .ok (.iload_n 3, 1) := by decide +kernel
theorem dX4_isInShadow_38 : decode cX4_isInShadow 38 = .ok (.iaload, 1) := by decide +kernel
theorem dX4_isInShadow_39 : decode cX4_isInShadow 39 = .ok (.invokestatic 106, 3) := by decide +kernel
theorem dX4_isInShadow_42 : decode cX4_isInShadow 42 = .ok (.invokestatic 110, 3) := by decide +kernel
theorem dX4_isInShadow_45 : decode cX4_isInShadow 45 = .ok (.istore 4, 2) := by decide +kernel
theorem dX4_isInShadow_47 : decode cX4_isInShadow 47 = .ok (.iload 4, 2) := by decide +kernel
theorem dX4_isInShadow_49 : decode cX4_isInShadow 49 = .ok (.ifCond .le 18, 3) := by decide +kernel
theorem dX4_isInShadow_52 : decode cX4_isInShadow 52 = .ok (.iload 4, 2) := by decide +kernel
theorem dX4_isInShadow_54 : decode cX4_isInShadow 54 = .ok (.aload_n 0, 1) := by decide +kernel
theorem dX4_isInShadow_55 : decode cX4_isInShadow 55 = .ok (.iload_n 2, 1) := by decide +kernel
theorem dX4_isInShadow_56 : decode cX4_isInShadow 56 = .ok (.iload_n 3, 1) := by decide +kernel
theorem dX4_isInShadow_57 : decode cX4_isInShadow 57 = .ok (.invokevirtual 114, 3) := by decide +kernel
theorem dX4_isInShadow_60 : decode cX4_isInShadow 60 = .ok (.if_icmp .gt 7, 3) := by decide +kernel
theorem dX4_isInShadow_63 : decode cX4_isInShadow 63 = .ok (.iconst 1, 1) := by decide +kernel
theorem dX4_isInShadow_64 : decode cX4_isInShadow 64 = .ok (.goto 4, 3) := by decide +kernel
theorem dX4_isInShadow_67 : decode cX4_isInShadow 67 = .ok (.iconst 0, 1) := by decide +kernel
theorem dX4_isInShadow_68 : decode cX4_isInShadow 68 = .ok (.ireturn, 1) := by decide +kernel
theorem dX4_shadowLength_0 : decode cX4_shadowLength 0 = .ok (.aload_n 0, 1) := by decide +kernel
theorem dX4_shadowLength_1 : decode cX4_shadowLength 1 = .ok (.getfield 12, 3) := by decide +kernel
theorem dX4_shadowLength_4 : decode cX4_shadowLength 4 = .ok (.iload_n 1, 1) := by decide +kernel
theorem dX4_shadowLength_5 : decode cX4_shadowLength 5 = .ok (.invokevirtual 82, 3) := by decide +kernel
theorem dX4_shadowLength_8 : decode cX4_shadowLength 8 = .ok (.ifCond .eq 22, 3) := by decide +kernel
theorem dX4_shadowLength_11 : decode cX4_shadowLength 11 = .ok (.iload_n 2, 1) := by decide +kernel
theorem dX4_shadowLength_12 : decode cX4_shadowLength 12 = .ok (.invokestatic 100, 3) := by decide +kernel
theorem dX4_shadowLength_15 : decode cX4_shadowLength 15 = .ok (.ifCond .eq 15, 3) := by decide +kernel
theorem dX4_shadowLength_18 : decode cX4_shadowLength 18 = .ok (.aload_n 0, 1) := by decide +kernel
theorem dX4_shadowLength_19 : decode cX4_shadowLength 19 = .ok (.getfield 21, 3) := by decide +kernel
theorem dX4_shadowLength_22 : decode cX4_shadowLength 22 = .ok (.getfield 117, 3) := by decide +kernel
theorem dX4_shadowLength_25 : decode cX4_shadowLength 25 = .ok (.iload_n 2, 1) := by decide +kernel
theorem dX4_shadowLength_26 : decode cX4_shadowLength 26 = .ok (.iaload, 1) := by decide +kernel
theorem dX4_shadowLength_27 : decode cX4_shadowLength 27 = .ok (.ifCond .ne 5, 3) := by decide +kernel
theorem dX4_shadowLength_30 : decode cX4_shadowLength 30 = .ok (.iconst 0, 1) := by decide +kernel
theorem dX4_shadowLength_31 : decode cX4_shadowLength 31 = .ok (.ireturn, 1) := by decide +kernel
theorem dX4_shadowLength_32 : decode cX4_shadowLength 32 = .ok (.aload_n 0, 1) := by decide +kernel
theorem dX4_shadowLength_33 : decode cX4_shadowLength 33 = .ok (.getfield 12, 3) := by decide +kernel
theorem dX4_shadowLength_36 : decode cX4_shadowLength 36 = .ok (.getfield 86, 3) := by decide +kernel
theorem dX4_shadowLength_39 : decode cX4_shadowLength 39 = .ok (.iload_n 1, 1) := by decide +kernel
theorem dX4_shadowLength_40 : decode cX4_shadowLength 40 = .ok (.iaload, 1) := by decide +kernel
theorem dX4_shadowLength_41 : decode cX4_shadowLength 41 = .ok (.istore_n 3, 1) := by decide +kernel
theorem dX4_shadowLength_42 : decode cX4_shadowLength 42 = .ok (.aload_n 0, 1) := by decide +kernel
theorem dX4_shadowLength_43 : decode cX4_shadowLength 43 = .ok (.getfield 21, 3) := by decide +kernel
theorem dX4_shadowLength_46 : decode cX4_shadowLength 46 = .ok (.getfield 103, 3) := by decide +kernel
theorem dX4_shadowLength_49 : decode cX4_shadowLength 49 = .ok (.iload_n 2, 1) := by decide +kernel
theorem dX4_shadowLength_50 : decode cX4_shadowLength 50 = .ok (.iaload, 1) := by decide +kernel
theorem dX4_shadowLength_51 : decode cX4_shadowLength 51 = .ok (.invokestatic 106, 3) := by decide +kernel
theorem dX4_shadowLength_54 : decode cX4_shadowLength 54 = .ok (.istore 4, 2) := by decide +kernel
theorem dX4_shadowLength_56 : decode cX4_shadowLength 56 = .ok (.aload_n 0, 1) := by decide +kernel
theorem dX4_shadowLength_57 : decode cX4_shadowLength 57 = .ok (.getfield 12, 3) := by decide +kernel
theorem dX4_shadowLength_60 : decode cX4_shadowLength 60 = .ok (.getfield 120, 3) := by decide +kernel
theorem dX4_shadowLength_63 : decode cX4_shadowLength 63 = .ok (.iload_n 1, 1) := by decide +kernel
theorem dX4_shadowLength_64 : decode cX4_shadowLength 64 = .ok (.iaload, 1) := by decide +kernel
theorem dX4_shadowLength_65 : decode cX4_shadowLength 65 = .ok (.aload_n 0, 1) := by decide +kernel
theorem dX4_shadowLength_66 : decode cX4_shadowLength 66 = .ok (.getfield 21, 3) := by decide +kernel
theorem dX4_shadowLength_69 : decode cX4_shadowLength 69 = .ok (.getfield 123, 3) := by decide +kernel
theorem dX4_shadowLength_72 : decode cX4_shadowLength 72 = .ok (.iload_n 2, 1) := by decide +kernel
theorem dX4_shadowLength_73 : decode cX4_shadowLength 73 = .ok (.iaload, 1) := by decide +kernel
theorem dX4_shadowLength_74 : decode cX4_shadowLength 74 = .ok (.imul, 1) := by decide +kernel
theorem dX4_shadowLength_75 : decode cX4_shadowLength 75 = .ok (.iload_n 3, 1) := by decide +kernel
theorem dX4_shadowLength_76 : decode cX4_shadowLength 76 = .ok (.iload 4, 2) := by decide +kernel
theorem dX4_shadowLength_78 : decode cX4_shadowLength 78 = .ok (.invokestatic 126, 3) := by decide +kernel
theorem dX4_shadowLength_81 : decode cX4_shadowLength 81 = .ok (.invokestatic 129, 3) := by decide +kernel
theorem dX4_shadowLength_84 : decode cX4_shadowLength 84 = .ok (.istore 5, 2) := by decide +kernel
theorem dX4_shadowLength_86 : decode cX4_shadowLength 86 = .ok (.iconst 0, 1) := by decide +kernel
theorem dX4_shadowLength_87 : decode cX4_shadowLength 87 = .ok (.istore 6, 2) := by decide +kernel
theorem dX4_shadowLength_89 : decode cX4_shadowLength 89 = .ok (.iload 6, 2) := by decide +kernel
theorem dX4_shadowLength_91 : decode cX4_shadowLength 91 = .ok (.aload_n 0, 1) := by decide +kernel
theorem dX4_shadowLength_92 : decode cX4_shadowLength 92 = .ok (.getfield 12, 3) := by decide +kernel
theorem dX4_shadowLength_95 : decode cX4_shadowLength 95 = .ok (.getfield 134, 3) := by decide +kernel
theorem dX4_shadowLength_98 : decode cX4_shadowLength 98 = .ok (.if_icmp .ge 43, 3) := by decide +kernel
theorem dX4_shadowLength_101 : decode cX4_shadowLength 101 = .ok (.iload_n 3, 1) := by decide +kernel
theorem dX4_shadowLength_102 : decode cX4_shadowLength 102 = .ok (.aload_n 0, 1) := by decide +kernel
theorem dX4_shadowLength_103 : decode cX4_shadowLength 103 = .ok (.getfield 12, 3) := by decide +kernel
theorem dX4_shadowLength_106 : decode cX4_shadowLength 106 = .ok (.getfield 86, 3) := by decide +kernel
theorem dX4_shadowLength_109 : decode cX4_shadowLength 109 = .ok (.iload 6, 2) := by decide +kernel
theorem dX4_shadowLength_111 : decode cX4_shadowLength 111 = .ok (.iaload, 1) := by decide +kernel
theorem dX4_shadowLength_112 : decode cX4_shadowLength 112 = .ok (.iload 4, 2) := by decide +kernel
theorem dX4_shadowLength_114 : decode cX4_shadowLength 114 = .ok (.invokestatic 110, 3) := by decide +kernel
theorem dX4_shadowLength_117 : decode cX4_shadowLength 117 = .ok (.istore 7, 2) := by decide +kernel
theorem dX4_shadowLength_119 : decode cX4_shadowLength 119 = .ok (.iload 7, 2) := by decide +kernel
theorem dX4_shadowLength_121 : decode cX4_shadowLength 121 = .ok (.ifCond .le 14, 3) := by decide +kernel
theorem dX4_shadowLength_124 : decode cX4_shadowLength 124 = .ok (.iload 7, 2) := by decide +kernel
theorem dX4_shadowLength_126 : decode cX4_shadowLength 126 = .ok (.iload 5, 2) := by decide +kernel
theorem dX4_shadowLength_128 : decode cX4_shadowLength 128 = .ok (.if_icmp .ge 7, 3) := by decide +kernel
theorem dX4_shadowLength_131 : decode cX4_shadowLength 131 = .ok (.iload 7, 2) := by decide +kernel
theorem dX4_shadowLength_133 : decode cX4_shadowLength 133 = .ok (.istore 5, 2) := by decide +kernel
theorem dX4_shadowLength_135 : decode cX4_shadowLength 135 = .ok (.iinc 6 1, 3) := by decide +kernel
theorem dX4_shadowLength_138 : decode cX4_shadowLength 138 = .ok (.goto (-49), 3) := by decide +kernel
theorem dX4_shadowLength_141 : decode cX4_shadowLength 141 = .ok (.iload 5, 2) := by decide +kernel
theorem dX4_shadowLength_143 : decode cX4_shadowLength 143 = .ok (.ireturn, 1) := by decide +kernel
theorem dX4_shadowEnd_0 : decode cX4_shadowEnd 0 = .ok (.aload_n 0, 1) := by decide +kernel
theorem dX4_shadowEnd_1 : decode cX4_shadowEnd 1 = .ok (.iload_n 1, 1) := by decide +kernel
theorem dX4_shadowEnd_2 : decode cX4_shadowEnd 2 = .ok (.iload_n 2, 1) := by decide +kernel
theorem dX4_shadowEnd_3 : decode cX4_shadowEnd 3 = .ok (.invokevirtual 114, 3) := by decide +kernel
theorem dX4_shadowEnd_6 : decode cX4_shadowEnd 6 = .ok (.istore_n 3, 1) := by decide +kernel
theorem dX4_shadowEnd_7 : decode cX4_shadowEnd 7 = .ok (.iload_n 3, 1) := by decide +kernel
theorem dX4_shadowEnd_8 : decode cX4_shadowEnd 8 = .ok (.ifCond .eq 21, 3) := by decide +kernel
theorem dX4_shadowEnd_11 : decode cX4_shadowEnd 11 = .ok (.aload_n 0, 1) := by decide +kernel
theorem dX4_shadowEnd_12 : decode cX4_shadowEnd 12 = .ok (.getfield 12, 3) := by decide +kernel
theorem dX4_shadowEnd_15 : decode cX4_shadowEnd 15 = .ok (.iload_n 1, 1) := by decide +kernel
theorem dX4_shadowEnd_16 : decode cX4_shadowEnd 16 = .ok (.invokevirtual 82, 3) := by decide +kernel
theorem dX4_shadowEnd_19 : decode cX4_shadowEnd 19 = .ok (.ifCond .eq 10, 3) := by decide +kernel
theorem dX4_shadowEnd_22 : decode cX4_shadowEnd 22 = .ok (.iload_n 2, 1) := by decide +kernel
theorem dX4_shadowEnd_23 : decode cX4_shadowEnd 23 = .ok (.invokestatic 100, 3) := by decide +kernel
theorem dX4_shadowEnd_26 : decode cX4_shadowEnd 26 = .ok (.ifCond .ne 6, 3) := by decide +kernel
theorem dX4_shadowEnd_29 : decode cX4_shadowEnd 29 = .ok (.bipush (-5), 2) := by decide +kernel
theorem dX4_shadowEnd_31 : decode cX4_shadowEnd 31 = .ok (.ireturn, 1) := by decide +kernel
theorem dX4_shadowEnd_32 : decode cX4_shadowEnd 32 = .ok (.aload_n 0, 1) := by decide +kernel
theorem dX4_shadowEnd_33 : decode cX4_shadowEnd 33 = .ok (.getfield 12, 3) := by decide +kernel
theorem dX4_shadowEnd_36 : decode cX4_shadowEnd 36 = .ok (.getfield 86, 3) := by decide +kernel
theorem dX4_shadowEnd_39 : decode cX4_shadowEnd 39 = .ok (.iload_n 1, 1) := by decide +kernel
theorem dX4_shadowEnd_40 : decode cX4_shadowEnd 40 = .ok (.iaload, 1) := by decide +kernel
theorem dX4_shadowEnd_41 : decode cX4_shadowEnd 41 = .ok (.aload_n 0, 1) := by decide +kernel
theorem dX4_shadowEnd_42 : decode cX4_shadowEnd 42 = .ok (.getfield 21, 3) := by decide +kernel
theorem dX4_shadowEnd_45 : decode cX4_shadowEnd 45 = .ok (.getfield 103, 3) := by decide +kernel
theorem dX4_shadowEnd_48 : decode cX4_shadowEnd 48 = .ok (.iload_n 2, 1) := by decide +kernel
theorem dX4_shadowEnd_49 : decode cX4_shadowEnd 49 = .ok (.iaload, 1) := by decide +kernel
theorem dX4_shadowEnd_50 : decode cX4_shadowEnd 50 = .ok (.invokestatic 106, 3) := by decide +kernel
theorem dX4_shadowEnd_53 : decode cX4_shadowEnd 53 = .ok (.iload_n 3, 1) := by decide +kernel
theorem dX4_shadowEnd_54 : decode cX4_shadowEnd 54 = .ok (.invokestatic 137, 3) := by decide +kernel
theorem dX4_shadowEnd_57 : decode cX4_shadowEnd 57 = .ok (.ireturn, 1) := by decide +kernel
theorem dX4_hasShadow_0 : decode cX4_hasShadow 0 = .ok (.iconst 0, 1) := by decide +kernel
theorem dX4_hasShadow_1 : decode cX4_hasShadow 1 = .ok (.istore_n 2, 1) := by decide +kernel
theorem dX4_hasShadow_2 : decode cX4_hasShadow 2 = .ok (.iload_n 2, 1) := by decide +kernel
theorem dX4_hasShadow_3 : decode cX4_hasShadow 3 = .ok (.iconst 3, 1) := by decide +kernel
theorem dX4_hasShadow_4 : decode cX4_hasShadow 4 = .ok (.if_icmp .ge 20, 3) := by decide +kernel
theorem dX4_hasShadow_7 : decode cX4_hasShadow 7 = .ok (.aload_n 0, 1) := by decide +kernel
theorem dX4_hasShadow_8 : decode cX4_hasShadow 8 = .ok (.iload_n 1, 1) := by decide +kernel
theorem dX4_hasShadow_9 : decode cX4_hasShadow 9 = .ok (.iload_n 2, 1) := by decide +kernel
theorem dX4_hasShadow_10 : decode cX4_hasShadow 10 = .ok (.invokevirtual 114, 3) := by decide +kernel
theorem dX4_hasShadow_13 : decode cX4_hasShadow 13 = .ok (.ifCond .le 5, 3) := by decide +kernel
theorem dX4_hasShadow_16 : decode cX4_hasShadow 16 = .ok (.iconst 1, 1) := by decide +kernel
theorem dX4_hasShadow_17 : decode cX4_hasShadow 17 = .ok (.ireturn, 1) := by decide +kernel
theorem dX4_hasShadow_18 : decode cX4_hasShadow 18 = .ok (.iinc 2 1, 3) := by decide +kernel
theorem dX4_hasShadow_21 : decode cX4_hasShadow 21 = .ok (.goto (-19), 3) := by decide +kernel
theorem dX4_hasShadow_24 : decode cX4_hasShadow 24 = .ok (.iconst 0, 1) := by decide +kernel
theorem dX4_hasShadow_25 : decode cX4_hasShadow 25 = .ok (.ireturn, 1) := by decide +kernel
theorem dX4_runnersWithoutShadow_0 : decode cX4_runnersWithoutShadow 0 = .ok (.iconst 0, 1) := by decide +kernel
theorem dX4_runnersWithoutShadow_1 : decode cX4_runnersWithoutShadow 1 = .ok (.istore_n 1, 1) := by decide +kernel
theorem dX4_runnersWithoutShadow_2 : decode cX4_runnersWithoutShadow 2 = .ok (.iconst 0, 1) := by decide +kernel
theorem dX4_runnersWithoutShadow_3 : decode cX4_runnersWithoutShadow 3 = .ok (.istore_n 2, 1) := by decide +kernel
theorem dX4_runnersWithoutShadow_4 : decode cX4_runnersWithoutShadow 4 = .ok (.iload_n 2, 1) := by decide +kernel
theorem dX4_runnersWithoutShadow_5 : decode cX4_runnersWithoutShadow 5 = .ok (.aload_n 0, 1) := by decide +kernel
theorem dX4_runnersWithoutShadow_6 : decode cX4_runnersWithoutShadow 6 = .ok (.getfield 12, 3) := by decide +kernel
theorem dX4_runnersWithoutShadow_9 : decode cX4_runnersWithoutShadow 9 = .ok (.getfield 134, 3) := by decide +kernel
theorem dX4_runnersWithoutShadow_12 : decode cX4_runnersWithoutShadow 12 = .ok (.if_icmp .ge 20, 3) := by decide +kernel
theorem dX4_runnersWithoutShadow_15 : decode cX4_runnersWithoutShadow 15 = .ok (.aload_n 0, 1) := by decide +kernel
theorem dX4_runnersWithoutShadow_16 : decode cX4_runnersWithoutShadow 16 = .ok (.iload_n 2, 1) := by decide +kernel
theorem dX4_runnersWithoutShadow_17 : decode cX4_runnersWithoutShadow 17 = .ok (.invokevirtual 140, 3) := by decide +kernel
theorem dX4_runnersWithoutShadow_20 : decode cX4_runnersWithoutShadow 20 = .ok (.ifCond .ne 6, 3) := by decide +kernel
theorem dX4_runnersWithoutShadow_23 : decode cX4_runnersWithoutShadow 23 = .ok (.iinc 1 1, 3) := by decide +kernel
theorem dX4_runnersWithoutShadow_26 : decode cX4_runnersWithoutShadow 26 = .ok (.iinc 2 1, 3) := by decide +kernel
theorem dX4_runnersWithoutShadow_29 : decode cX4_runnersWithoutShadow 29 = .ok (.goto (-25), 3) := by decide +kernel
theorem dX4_runnersWithoutShadow_32 : decode cX4_runnersWithoutShadow 32 = .ok (.iload_n 1, 1) := by decide +kernel
theorem dX4_runnersWithoutShadow_33 : decode cX4_runnersWithoutShadow 33 = .ok (.ireturn, 1) := by decide +kernel
theorem dX4_shadowerOf_0 : decode cX4_shadowerOf 0 = .ok (.iload_n 1, 1) := by decide +kernel
theorem dX4_shadowerOf_1 : decode cX4_shadowerOf 1 = .ok (.invokestatic 143, 3) := by decide +kernel
theorem dX4_shadowerOf_4 : decode cX4_shadowerOf 4 = .ok (.ifCond .eq 22, 3) := by decide +kernel
theorem dX4_shadowerOf_7 : decode cX4_shadowerOf 7 = .ok (.iload_n 2, 1) := by decide +kernel
theorem dX4_shadowerOf_8 : decode cX4_shadowerOf 8 = .ok (.invokestatic 100, 3) := by decide +kernel
theorem dX4_shadowerOf_11 : decode cX4_shadowerOf 11 = .ok (.ifCond .eq 15, 3) := by decide +kernel
theorem dX4_shadowerOf_14 : decode cX4_shadowerOf 14 = .ok (.aload_n 0, 1) := by decide +kernel
theorem dX4_shadowerOf_15 : decode cX4_shadowerOf 15 = .ok (.getfield 21, 3) := by decide +kernel
theorem dX4_shadowerOf_18 : decode cX4_shadowerOf 18 = .ok (.getfield 117, 3) := by decide +kernel
theorem dX4_shadowerOf_21 : decode cX4_shadowerOf 21 = .ok (.iload_n 2, 1) := by decide +kernel
theorem dX4_shadowerOf_22 : decode cX4_shadowerOf 22 = .ok (.iaload, 1) := by decide +kernel
theorem dX4_shadowerOf_23 : decode cX4_shadowerOf 23 = .ok (.ifCond .ne 6, 3) := by decide +kernel
theorem dX4_shadowerOf_26 : decode cX4_shadowerOf 26 = .ok (.bipush (-5), 2) := by decide +kernel
theorem dX4_shadowerOf_28 : decode cX4_shadowerOf 28 = .ok (.ireturn, 1) := by decide +kernel
theorem dX4_shadowerOf_29 : decode cX4_shadowerOf 29 = .ok (.aload_n 0, 1) := by decide +kernel
theorem dX4_shadowerOf_30 : decode cX4_shadowerOf 30 = .ok (.getfield 21, 3) := by decide +kernel
theorem dX4_shadowerOf_33 : decode cX4_shadowerOf 33 = .ok (.getfield 103, 3) := by decide +kernel
theorem dX4_shadowerOf_36 : decode cX4_shadowerOf 36 = .ok (.iload_n 2, 1) := by decide +kernel
theorem dX4_shadowerOf_37 : decode cX4_shadowerOf 37 = .ok (.iaload, 1) := by decide +kernel
theorem dX4_shadowerOf_38 : decode cX4_shadowerOf 38 = .ok (.istore_n 3, 1) := by decide +kernel
theorem dX4_shadowerOf_39 : decode cX4_shadowerOf 39 = .ok (.iload_n 1, 1) := by decide +kernel
theorem dX4_shadowerOf_40 : decode cX4_shadowerOf 40 = .ok (.iload_n 3, 1) := by decide +kernel
theorem dX4_shadowerOf_41 : decode cX4_shadowerOf 41 = .ok (.invokestatic 126, 3) := by decide +kernel
theorem dX4_shadowerOf_44 : decode cX4_shadowerOf 44 = .ok (.istore 4, 2) := by decide +kernel
theorem dX4_shadowerOf_46 : decode cX4_shadowerOf 46 = .ok (.iconst 1, 1) := by decide +kernel
theorem dX4_shadowerOf_47 : decode cX4_shadowerOf 47 = .ok (.istore 5, 2) := by decide +kernel
theorem dX4_shadowerOf_49 : decode cX4_shadowerOf 49 = .ok (.iload 5, 2) := by decide +kernel
theorem dX4_shadowerOf_51 : decode cX4_shadowerOf 51 = .ok (.iload 4, 2) := by decide +kernel
theorem dX4_shadowerOf_53 : decode cX4_shadowerOf 53 = .ok (.if_icmp .gt 70, 3) := by decide +kernel
theorem dX4_shadowerOf_56 : decode cX4_shadowerOf 56 = .ok (.aload_n 0, 1) := by decide +kernel
theorem dX4_shadowerOf_57 : decode cX4_shadowerOf 57 = .ok (.getfield 12, 3) := by decide +kernel
theorem dX4_shadowerOf_60 : decode cX4_shadowerOf 60 = .ok (.iload_n 1, 1) := by decide +kernel
theorem dX4_shadowerOf_61 : decode cX4_shadowerOf 61 = .ok (.iload_n 3, 1) := by decide +kernel
theorem dX4_shadowerOf_62 : decode cX4_shadowerOf 62 = .ok (.iload 5, 2) := by decide +kernel
theorem dX4_shadowerOf_64 : decode cX4_shadowerOf 64 = .ok (.invokestatic 137, 3) := by decide +kernel
theorem dX4_shadowerOf_67 : decode cX4_shadowerOf 67 = .ok (.invokevirtual 146, 3) := by decide +kernel
theorem dX4_shadowerOf_70 : decode cX4_shadowerOf 70 = .ok (.istore 6, 2) := by decide +kernel
theorem dX4_shadowerOf_72 : decode cX4_shadowerOf 72 = .ok (.aload_n 0, 1) := by decide +kernel
theorem dX4_shadowerOf_73 : decode cX4_shadowerOf 73 = .ok (.getfield 12, 3) := by decide +kernel
theorem dX4_shadowerOf_76 : decode cX4_shadowerOf 76 = .ok (.iload 6, 2) := by decide +kernel
theorem dX4_shadowerOf_78 : decode cX4_shadowerOf 78 = .ok (.invokevirtual 82, 3) := by decide +kernel
theorem dX4_shadowerOf_81 : decode cX4_shadowerOf 81 = .ok (.ifCond .eq 36, 3) := by decide +kernel
theorem dX4_shadowerOf_84 : decode cX4_shadowerOf 84 = .ok (.iload 5, 2) := by decide +kernel
theorem dX4_shadowerOf_86 : decode cX4_shadowerOf 86 = .ok (.aload_n 0, 1) := by decide +kernel
theorem dX4_shadowerOf_87 : decode cX4_shadowerOf 87 = .ok (.getfield 12, 3) := by decide +kernel
theorem dX4_shadowerOf_90 : decode cX4_shadowerOf 90 = .ok (.getfield 120, 3) := by decide +kernel
theorem dX4_shadowerOf_93 : decode cX4_shadowerOf 93 = .ok (.iload 6, 2) := by decide +kernel
theorem dX4_shadowerOf_95 : decode cX4_shadowerOf 95 = .ok (.iaload, 1) := by decide +kernel
theorem dX4_shadowerOf_96 : decode cX4_shadowerOf 96 = .ok (.aload_n 0, 1) := by decide +kernel
theorem dX4_shadowerOf_97 : decode cX4_shadowerOf 97 = .ok (.getfield 21, 3) := by decide +kernel
theorem dX4_shadowerOf_100 : decode cX4_shadowerOf 100 = .ok (.getfield 123, 3) := by decide +kernel
theorem dX4_shadowerOf_103 : decode cX4_shadowerOf 103 = .ok (.iload_n 2, 1) := by decide +kernel
theorem dX4_shadowerOf_104 : decode cX4_shadowerOf 104 = .ok (.iaload, 1) := by decide +kernel
theorem dX4_shadowerOf_105 : decode cX4_shadowerOf 105 = .ok (.imul, 1) := by decide +kernel
theorem dX4_shadowerOf_106 : decode cX4_shadowerOf 106 = .ok (.if_icmp .gt 8, 3) := by decide +kernel
theorem dX4_shadowerOf_109 : decode cX4_shadowerOf 109 = .ok (.iload 6, 2) := by decide +kernel
theorem dX4_shadowerOf_111 : decode cX4_shadowerOf 111 = .ok (.goto 5, 3) := by decide +kernel
theorem dX4_shadowerOf_114 : decode cX4_shadowerOf 114 = .ok (.bipush (-5), 2) := by decide +kernel
theorem dX4_shadowerOf_116 : decode cX4_shadowerOf 116 = .ok (.ireturn, 1) := by decide +kernel
theorem dX4_shadowerOf_117 : decode cX4_shadowerOf 117 = .ok (.iinc 5 1, 3) := by decide +kernel
theorem dX4_shadowerOf_120 : decode cX4_shadowerOf 120 = .ok (.goto (-71), 3) := by decide +kernel
theorem dX4_shadowerOf_123 : decode cX4_shadowerOf 123 = .ok (.bipush (-5), 2) := by decide +kernel
theorem dX4_shadowerOf_125 : decode cX4_shadowerOf 125 = .ok (.ireturn, 1) := by decide +kernel
theorem dX4_darkenShadowsOf_0 : decode cX4_darkenShadowsOf 0 = .ok (.iconst 0, 1) := by decide +kernel
theorem dX4_darkenShadowsOf_1 : decode cX4_darkenShadowsOf 1 = .ok (.istore_n 3, 1) := by decide +kernel
theorem dX4_darkenShadowsOf_2 : decode cX4_darkenShadowsOf 2 = .ok (.iload_n 3, 1) := by decide +kernel
theorem dX4_darkenShadowsOf_3 : decode cX4_darkenShadowsOf 3 = .ok (.iconst 3, 1) := by decide +kernel
theorem dX4_darkenShadowsOf_4 : decode cX4_darkenShadowsOf 4 = .ok (.if_icmp .ge 16, 3) := by decide +kernel
theorem dX4_darkenShadowsOf_7 : decode cX4_darkenShadowsOf 7 = .ok (.aload_n 0, 1) := by decide +kernel
theorem dX4_darkenShadowsOf_8 : decode cX4_darkenShadowsOf 8 = .ok (.iload_n 1, 1) := by decide +kernel
theorem dX4_darkenShadowsOf_9 : decode cX4_darkenShadowsOf 9 = .ok (.iload_n 3, 1) := by decide +kernel
theorem dX4_darkenShadowsOf_10 : decode cX4_darkenShadowsOf 10 = .ok (.aload_n 2, 1) := by decide +kernel
theorem dX4_darkenShadowsOf_11 : decode cX4_darkenShadowsOf 11 = .ok (.invokevirtual 149, 3) := by decide +kernel
theorem dX4_darkenShadowsOf_14 : decode cX4_darkenShadowsOf 14 = .ok (.iinc 3 1, 3) := by decide +kernel
theorem dX4_darkenShadowsOf_17 : decode cX4_darkenShadowsOf 17 = .ok (.goto (-15), 3) := by decide +kernel
theorem dX4_darkenShadowsOf_20 : decode cX4_darkenShadowsOf 20 = .ok (.return_, 1) := by decide +kernel
theorem dX4_darkenShadow_0 : decode cX4_darkenShadow 0 = .ok (.aload_n 0, 1) := by decide +kernel
theorem dX4_darkenShadow_1 : decode cX4_darkenShadow 1 = .ok (.iload_n 1, 1) := by decide +kernel
theorem dX4_darkenShadow_2 : decode cX4_darkenShadow 2 = .ok (.iload_n 2, 1) := by decide +kernel
theorem dX4_darkenShadow_3 : decode cX4_darkenShadow 3 = .ok (.invokevirtual 114, 3) := by decide +kernel
theorem dX4_darkenShadow_6 : decode cX4_darkenShadow 6 = .ok (.istore 4, 2) := by decide +kernel
theorem dX4_darkenShadow_8 : decode cX4_darkenShadow 8 = .ok (.iload 4, 2) := by decide +kernel
theorem dX4_darkenShadow_10 : decode cX4_darkenShadow 10 = .ok (.ifCond .eq 21, 3) := by decide +kernel
theorem dX4_darkenShadow_13 : decode cX4_darkenShadow 13 = .ok (.aload_n 0, 1) := by decide +kernel
theorem dX4_darkenShadow_14 : decode cX4_darkenShadow 14 = .ok (.getfield 12, 3) := by decide +kernel
theorem dX4_darkenShadow_17 : decode cX4_darkenShadow 17 = .ok (.iload_n 1, 1) := by decide +kernel
theorem dX4_darkenShadow_18 : decode cX4_darkenShadow 18 = .ok (.invokevirtual 82, 3) := by decide +kernel
theorem dX4_darkenShadow_21 : decode cX4_darkenShadow 21 = .ok (.ifCond .eq 10, 3) := by decide +kernel
theorem dX4_darkenShadow_24 : decode cX4_darkenShadow 24 = .ok (.iload_n 2, 1) := by decide +kernel
theorem dX4_darkenShadow_25 : decode cX4_darkenShadow 25 = .ok (.invokestatic 100, 3) := by decide +kernel
theorem dX4_darkenShadow_28 : decode cX4_darkenShadow 28 = .ok (.ifCond .ne 4, 3) := by decide +kernel
theorem dX4_darkenShadow_31 : decode cX4_darkenShadow 31 = .ok (.return_, 1) := by decide +kernel
theorem dX4_darkenShadow_32 : decode cX4_darkenShadow 32 = .ok (.aload_n 0, 1) := by decide +kernel
theorem dX4_darkenShadow_33 : decode cX4_darkenShadow 33 = .ok (.getfield 12, 3) := by decide +kernel
theorem dX4_darkenShadow_36 : decode cX4_darkenShadow 36 = .ok (.getfield 86, 3) := by decide +kernel
theorem dX4_darkenShadow_39 : decode cX4_darkenShadow 39 = .ok (.iload_n 1, 1) := by decide +kernel
theorem dX4_darkenShadow_40 : decode cX4_darkenShadow 40 = .ok (.iaload, 1) := by decide +kernel
theorem dX4_darkenShadow_41 : decode cX4_darkenShadow 41 = .ok (.istore 5, 2) := by decide +kernel
theorem dX4_darkenShadow_43 : decode cX4_darkenShadow 43 = .ok (.aload_n 0, 1) := by decide +kernel
theorem dX4_darkenShadow_44 : decode cX4_darkenShadow 44 = .ok (.getfield 21, 3) := by decide +kernel
theorem dX4_darkenShadow_47 : decode cX4_darkenShadow 47 = .ok (.getfield 103, 3) := by decide +kernel
theorem dX4_darkenShadow_50 : decode cX4_darkenShadow 50 = .ok (.iload_n 2, 1) := by decide +kernel
theorem dX4_darkenShadow_51 : decode cX4_darkenShadow 51 = .ok (.iaload, 1) := by decide +kernel
theorem dX4_darkenShadow_52 : decode cX4_darkenShadow 52 = .ok (.invokestatic 106, 3) := by decide +kernel
theorem dX4_darkenShadow_55 : decode cX4_darkenShadow 55 = .ok (.istore 6, 2) := by decide +kernel
theorem dX4_darkenShadow_57 : decode cX4_darkenShadow 57 = .ok (.iconst 1, 1) := by decide +kernel
theorem dX4_darkenShadow_58 : decode cX4_darkenShadow 58 = .ok (.istore 7, 2) := by decide +kernel
theorem dX4_darkenShadow_60 : decode cX4_darkenShadow 60 = .ok (.iload 7, 2) := by decide +kernel
theorem dX4_darkenShadow_62 : decode cX4_darkenShadow 62 = .ok (.iload 4, 2) := by decide +kernel
theorem dX4_darkenShadow_64 : decode cX4_darkenShadow 64 = .ok (.if_icmp .gt 22, 3) := by decide +kernel
theorem dX4_darkenShadow_67 : decode cX4_darkenShadow 67 = .ok (.aload_n 3, 1) := by decide +kernel
theorem dX4_darkenShadow_68 : decode cX4_darkenShadow 68 = .ok (.iload 5, 2) := by decide +kernel
theorem dX4_darkenShadow_70 : decode cX4_darkenShadow 70 = .ok (.iload 6, 2) := by decide +kernel
theorem dX4_darkenShadow_72 : decode cX4_darkenShadow 72 = .ok (.iload 7, 2) := by decide +kernel
theorem dX4_darkenShadow_74 : decode cX4_darkenShadow 74 = .ok (.invokestatic 137, 3) := by decide +kernel
theorem dX4_darkenShadow_77 : decode cX4_darkenShadow 77 = .ok (.invokevirtual 153, 3) := by decide +kernel
theorem dX4_darkenShadow_80 : decode cX4_darkenShadow 80 = .ok (.iinc 7 1, 3) := by decide +kernel
theorem dX4_darkenShadow_83 : decode cX4_darkenShadow 83 = .ok (.goto (-23), 3) := by decide +kernel
theorem dX4_darkenShadow_86 : decode cX4_darkenShadow 86 = .ok (.return_, 1) := by decide +kernel
theorem dX5_init_0 : decode cX5_init 0 = .ok (.aload_n 0, 1) := by decide +kernel
theorem dX5_init_1 : decode cX5_init 1 = .ok (.invokespecial 3, 3) := by decide +kernel
theorem dX5_init_4 : decode cX5_init 4 = .ok (.aload_n 0, 1) := by decide +kernel
theorem dX5_init_5 : decode cX5_init 5 = .ok (.bipush 6, 2) := by decide +kernel
theorem dX5_init_7 : decode cX5_init 7 = .ok (.newarray .int, 2) := by decide +kernel
theorem dX5_init_9 : decode cX5_init 9 = .ok (.putfield 9, 3) := by decide +kernel
theorem dX5_init_12 : decode cX5_init 12 = .ok (.aload_n 0, 1) := by decide +kernel
theorem dX5_init_13 : decode cX5_init 13 = .ok (.bipush 6, 2) := by decide +kernel
theorem dX5_init_15 : decode cX5_init 15 = .ok (.newarray .int, 2) := by decide +kernel
theorem dX5_init_17 : decode cX5_init 17 = .ok (.putfield 15, 3) := by decide +kernel
theorem dX5_init_20 : decode cX5_init 20 = .ok (.aload_n 0, 1) := by decide +kernel
theorem dX5_init_21 : decode cX5_init 21 = .ok (.bipush 6, 2) := by decide +kernel
theorem dX5_init_23 : decode cX5_init 23 = .ok (.newarray .int, 2) := by decide +kernel
theorem dX5_init_25 : decode cX5_init 25 = .ok (.putfield 18, 3) := by decide +kernel
theorem dX5_init_28 : decode cX5_init 28 = .ok (.aload_n 0, 1) := by decide +kernel
theorem dX5_init_29 : decode cX5_init 29 = .ok (.bipush 6, 2) := by decide +kernel
theorem dX5_init_31 : decode cX5_init 31 = .ok (.newarray .int, 2) := by decide +kernel
theorem dX5_init_33 : decode cX5_init 33 = .ok (.putfield 21, 3) := by decide +kernel
theorem dX5_init_36 : decode cX5_init 36 = .ok (.aload_n 0, 1) := by decide +kernel
theorem dX5_init_37 : decode cX5_init 37 = .ok (.bipush 6, 2) := by decide +kernel
theorem dX5_init_39 : decode cX5_init 39 = .ok (.newarray .int, 2) := by decide +kernel
theorem dX5_init_41 : decode cX5_init 41 = .ok (.putfield 24, 3) := by decide +kernel
theorem dX5_init_44 : decode cX5_init 44 = .ok (.aload_n 0, 1) := by decide +kernel
theorem dX5_init_45 : decode cX5_init 45 = .ok (.bipush 6, 2) := by decide +kernel
theorem dX5_init_47 : decode cX5_init 47 = .ok (.newarray .int, 2) := by decide +kernel
theorem dX5_init_49 : decode cX5_init 49 = .ok (.putfield 27, 3) := by decide +kernel
theorem dX5_init_52 : decode cX5_init 52 = .ok (.aload_n 0, 1) := by decide +kernel
theorem dX5_init_53 : decode cX5_init 53 = .ok (.bipush 6, 2) := by decide +kernel
theorem dX5_init_55 : decode cX5_init 55 = .ok (.newarray .int, 2) := by decide +kernel
theorem dX5_init_57 : decode cX5_init 57 = .ok (.putfield 30, 3) := by decide +kernel
theorem dX5_init_60 : decode cX5_init 60 = .ok (.aload_n 0, 1) := by decide +kernel
theorem dX5_init_61 : decode cX5_init 61 = .ok (.iconst 0, 1) := by decide +kernel
theorem dX5_init_62 : decode cX5_init 62 = .ok (.putfield 33, 3) := by decide +kernel
theorem dX5_init_65 : decode cX5_init 65 = .ok (.aload_n 0, 1) := by decide +kernel
theorem dX5_init_66 : decode cX5_init 66 = .ok (.bipush (-5), 2) := by decide +kernel
theorem dX5_init_68 : decode cX5_init 68 = .ok (.putfield 37, 3) := by decide +kernel
theorem dX5_init_71 : decode cX5_init 71 = .ok (.aload_n 0, 1) := by decide +kernel
theorem dX5_init_72 : decode cX5_init 72 = .ok (.iconst 0, 1) := by decide +kernel
theorem dX5_init_73 : decode cX5_init 73 = .ok (.putfield 40, 3) := by decide +kernel
theorem dX5_init_76 : decode cX5_init 76 = .ok (.aload_n 0, 1) := by decide +kernel
theorem dX5_init_77 : decode cX5_init 77 = .ok (.iconst 0, 1) := by decide +kernel
theorem dX5_init_78 : decode cX5_init 78 = .ok (.putfield 43, 3) := by decide +kernel
theorem dX5_init_81 : decode cX5_init 81 = .ok (.aload_n 0, 1) := by decide +kernel
theorem dX5_init_82 : decode cX5_init 82 = .ok (.iconst 0, 1) := by decide +kernel
theorem dX5_init_83 : decode cX5_init 83 = .ok (.putfield 46, 3) := by decide +kernel
theorem dX5_init_86 : decode cX5_init 86 = .ok (.return_, 1) := by decide +kernel
theorem dX5_copyFrom_0 : decode cX5_copyFrom 0 = .ok (.aload_n 1, 1) := by decide +kernel
theorem dX5_copyFrom_1 : decode cX5_copyFrom 1 = .ok (.getfield 9, 3) := by decide +kernel
theorem dX5_copyFrom_4 : decode cX5_copyFrom 4 = .ok (.aload_n 0, 1) := by decide +kernel
theorem dX5_copyFrom_5 : decode cX5_copyFrom 5 = .ok (.getfield 9, 3) := by decide +kernel
theorem dX5_copyFrom_8 : decode cX5_copyFrom 8 = .ok (.invokestatic 49, 3) := by decide +kernel
theorem dX5_copyFrom_11 : decode cX5_copyFrom 11 = .ok (.aload_n 1, 1) := by decide +kernel
theorem dX5_copyFrom_12 : decode cX5_copyFrom 12 = .ok (.getfield 15, 3) := by decide +kernel
theorem dX5_copyFrom_15 : decode cX5_copyFrom 15 = .ok (.aload_n 0, 1) := by decide +kernel
theorem dX5_copyFrom_16 : decode cX5_copyFrom 16 = .ok (.getfield 15, 3) := by decide +kernel
theorem dX5_copyFrom_19 : decode cX5_copyFrom 19 = .ok (.invokestatic 49, 3) := by decide +kernel
theorem dX5_copyFrom_22 : decode cX5_copyFrom 22 = .ok (.aload_n 1, 1) := by decide +kernel
theorem dX5_copyFrom_23 : decode cX5_copyFrom 23 = .ok (.getfield 18, 3) := by decide +kernel
theorem dX5_copyFrom_26 : decode cX5_copyFrom 26 = .ok (.aload_n 0, 1) := by decide +kernel
theorem dX5_copyFrom_27 : decode cX5_copyFrom 27 = .ok (.getfield 18, 3) := by decide +kernel
theorem dX5_copyFrom_30 : decode cX5_copyFrom 30 = .ok (.invokestatic 49, 3) := by decide +kernel
theorem dX5_copyFrom_33 : decode cX5_copyFrom 33 = .ok (.aload_n 1, 1) := by decide +kernel
theorem dX5_copyFrom_34 : decode cX5_copyFrom 34 = .ok (.getfield 21, 3) := by decide +kernel
theorem dX5_copyFrom_37 : decode cX5_copyFrom 37 = .ok (.aload_n 0, 1) := by decide +kernel
theorem dX5_copyFrom_38 : decode cX5_copyFrom 38 = .ok (.getfield 21, 3) := by decide +kernel
theorem dX5_copyFrom_41 : decode cX5_copyFrom 41 = .ok (.invokestatic 49, 3) := by decide +kernel
theorem dX5_copyFrom_44 : decode cX5_copyFrom 44 = .ok (.aload_n 1, 1) := by decide +kernel
theorem dX5_copyFrom_45 : decode cX5_copyFrom 45 = .ok (.getfield 24, 3) := by decide +kernel
theorem dX5_copyFrom_48 : decode cX5_copyFrom 48 = .ok (.aload_n 0, 1) := by decide +kernel
theorem dX5_copyFrom_49 : decode cX5_copyFrom 49 = .ok (.getfield 24, 3) := by decide +kernel
theorem dX5_copyFrom_52 : decode cX5_copyFrom 52 = .ok (.invokestatic 49, 3) := by decide +kernel
theorem dX5_copyFrom_55 : decode cX5_copyFrom 55 = .ok (.aload_n 1, 1) := by decide +kernel
theorem dX5_copyFrom_56 : decode cX5_copyFrom 56 = .ok (.getfield 27, 3) := by decide +kernel
theorem dX5_copyFrom_59 : decode cX5_copyFrom 59 = .ok (.aload_n 0, 1) := by decide +kernel
theorem dX5_copyFrom_60 : decode cX5_copyFrom 60 = .ok (.getfield 27, 3) := by decide +kernel
theorem dX5_copyFrom_63 : decode cX5_copyFrom 63 = .ok (.invokestatic 49, 3) := by decide +kernel
theorem dX5_copyFrom_66 : decode cX5_copyFrom 66 = .ok (.aload_n 1, 1) := by decide +kernel
theorem dX5_copyFrom_67 : decode cX5_copyFrom 67 = .ok (.getfield 30, 3) := by decide +kernel
theorem dX5_copyFrom_70 : decode cX5_copyFrom 70 = .ok (.aload_n 0, 1) := by decide +kernel
theorem dX5_copyFrom_71 : decode cX5_copyFrom 71 = .ok (.getfield 30, 3) := by decide +kernel
theorem dX5_copyFrom_74 : decode cX5_copyFrom 74 = .ok (.invokestatic 49, 3) := by decide +kernel
theorem dX5_copyFrom_77 : decode cX5_copyFrom 77 = .ok (.aload_n 0, 1) := by decide +kernel
theorem dX5_copyFrom_78 : decode cX5_copyFrom 78 = .ok (.aload_n 1, 1) := by decide +kernel
theorem dX5_copyFrom_79 : decode cX5_copyFrom 79 = .ok (.getfield 33, 3) := by decide +kernel
theorem dX5_copyFrom_82 : decode cX5_copyFrom 82 = .ok (.putfield 33, 3) := by decide +kernel
theorem dX5_copyFrom_85 : decode cX5_copyFrom 85 = .ok (.aload_n 0, 1) := by decide +kernel
theorem dX5_copyFrom_86 : decode cX5_copyFrom 86 = .ok (.aload_n 1, 1) := by decide +kernel
theorem dX5_copyFrom_87 : decode cX5_copyFrom 87 = .ok (.getfield 37, 3) := by decide +kernel
theorem dX5_copyFrom_90 : decode cX5_copyFrom 90 = .ok (.putfield 37, 3) := by decide +kernel
theorem dX5_copyFrom_93 : decode cX5_copyFrom 93 = .ok (.aload_n 0, 1) := by decide +kernel
theorem dX5_copyFrom_94 : decode cX5_copyFrom 94 = .ok (.aload_n 1, 1) := by decide +kernel
theorem dX5_copyFrom_95 : decode cX5_copyFrom 95 = .ok (.getfield 40, 3) := by decide +kernel
theorem dX5_copyFrom_98 : decode cX5_copyFrom 98 = .ok (.putfield 40, 3) := by decide +kernel
theorem dX5_copyFrom_101 : decode cX5_copyFrom 101 = .ok (.aload_n 0, 1) := by decide +kernel
theorem dX5_copyFrom_102 : decode cX5_copyFrom 102 = .ok (.aload_n 1, 1) := by decide +kernel
theorem dX5_copyFrom_103 : decode cX5_copyFrom 103 = .ok (.getfield 43, 3) := by decide +kernel
theorem dX5_copyFrom_106 : decode cX5_copyFrom 106 = .ok (.putfield 43, 3) := by decide +kernel
theorem dX5_copyFrom_109 : decode cX5_copyFrom 109 = .ok (.aload_n 0, 1) := by decide +kernel
theorem dX5_copyFrom_110 : decode cX5_copyFrom 110 = .ok (.aload_n 1, 1) := by decide +kernel
theorem dX5_copyFrom_111 : decode cX5_copyFrom 111 = .ok (.getfield 46, 3) := by decide +kernel
theorem dX5_copyFrom_114 : decode cX5_copyFrom 114 = .ok (.putfield 46, 3) := by decide +kernel
theorem dX5_copyFrom_117 : decode cX5_copyFrom 117 = .ok (.return_, 1) := by decide +kernel
theorem dX5_has_0 : decode cX5_has 0 = .ok (.iload_n 1, 1) := by decide +kernel
theorem dX5_has_1 : decode cX5_has 1 = .ok (.ifCond .lt 21, 3) := by decide +kernel
theorem dX5_has_4 : decode cX5_has 4 = .ok (.iload_n 1, 1) := by decide +kernel
theorem dX5_has_5 : decode cX5_has 5 = .ok (.aload_n 0, 1) := by decide +kernel
theorem dX5_has_6 : decode cX5_has 6 = .ok (.getfield 33, 3) := by decide +kernel
theorem dX5_has_9 : decode cX5_has 9 = .ok (.if_icmp .ge 13, 3) := by decide +kernel
theorem dX5_has_12 : decode cX5_has 12 = .ok (.iload_n 1, 1) := by decide +kernel
theorem dX5_has_13 : decode cX5_has 13 = .ok (.bipush 6, 2) := by decide +kernel
theorem dX5_has_15 : decode cX5_has 15 = .ok (.if_icmp .ge 7, 3) := by decide +kernel
theorem dX5_has_18 : decode cX5_has 18 = .ok (.iconst 1, 1) := by decide +kernel
theorem dX5_has_19 : decode cX5_has 19 = .ok (.goto 4, 3) := by decide +kernel
theorem dX5_has_22 : decode cX5_has 22 = .ok (.iconst 0, 1) := by decide +kernel
theorem dX5_has_23 : decode cX5_has 23 = .ok (.ireturn, 1) := by decide +kernel
theorem dX5_standingOn_0 : decode cX5_standingOn 0 = .ok (.iconst 0, 1) := by decide +kernel
theorem dX5_standingOn_1 : decode cX5_standingOn 1 = .ok (.istore_n 2, 1) := by decide +kernel
theorem dX5_standingOn_2 : decode cX5_standingOn 2 = .ok (.iload_n 2, 1) := by decide +kernel
theorem dX5_standingOn_3 : decode cX5_standingOn 3 = .ok (.aload_n 0, 1) := by decide +kernel
theorem dX5_standingOn_4 : decode cX5_standingOn 4 = .ok (.getfield 33, 3) := by decide +kernel
theorem dX5_standingOn_7 : decode cX5_standingOn 7 = .ok (.if_icmp .ge 21, 3) := by decide +kernel
theorem dX5_standingOn_10 : decode cX5_standingOn 10 = .ok (.aload_n 0, 1) := by decide +kernel
theorem dX5_standingOn_11 : decode cX5_standingOn 11 = .ok (.getfield 9, 3) := by decide +kernel
theorem dX5_standingOn_14 : decode cX5_standingOn 14 = .ok (.iload_n 2, 1) := by decide +kernel
theorem dX5_standingOn_15 : decode cX5_standingOn 15 = .ok (.iaload, 1) := by decide +kernel
theorem dX5_standingOn_16 : decode cX5_standingOn 16 = .ok (.iload_n 1, 1) := by decide +kernel
theorem dX5_standingOn_17 : decode cX5_standingOn 17 = .ok (.if_icmp .ne 5, 3) := by decide +kernel
theorem dX5_standingOn_20 : decode cX5_standingOn 20 = .ok (.iload_n 2, 1) := by decide +kernel
theorem dX5_standingOn_21 : decode cX5_standingOn 21 = .ok (.ireturn, 1) := by decide +kernel
theorem dX5_standingOn_22 : decode cX5_standingOn 22 = .ok (.iinc 2 1, 3) := by decide +kernel
theorem dX5_standingOn_25 : decode cX5_standingOn 25 = .ok (.goto (-23), 3) := by decide +kernel
theorem dX5_standingOn_28 : decode cX5_standingOn 28 = .ok (.bipush (-5), 2) := by decide +kernel
theorem dX5_standingOn_30 : decode cX5_standingOn 30 = .ok (.ireturn, 1) := by decide +kernel
theorem dX5_welcome_0 : decode cX5_welcome 0 = .ok (.iload_n 1, 1) := by decide +kernel
theorem dX5_welcome_1 : decode cX5_welcome 1 = .ok (.invokestatic 53, 3) := by decide +kernel
theorem dX5_welcome_4 : decode cX5_welcome 4 = .ok (.ifCond .ne 5, 3) := by decide +kernel
theorem dX5_welcome_7 : decode cX5_welcome 7 = .ok (.iconst (-1), 1) := by decide +kernel
theorem dX5_welcome_8 : decode cX5_welcome 8 = .ok (.ireturn, 1) := by decide +kernel
theorem dX5_welcome_9 : decode cX5_welcome 9 = .ok (.iload_n 2, 1) := by decide +kernel
theorem dX5_welcome_10 : decode cX5_welcome 10 = .ok (.iconst 1, 1) := by decide +kernel
theorem dX5_welcome_11 : decode cX5_welcome 11 = .ok (.if_icmp .lt 8, 3) := by decide +kernel
theorem dX5_welcome_14 : decode cX5_welcome 14 = .ok (.iload_n 2, 1) := by decide +kernel
theorem dX5_welcome_15 : decode cX5_welcome 15 = .ok (.iconst 5, 1) := by decide +kernel
theorem dX5_welcome_16 : decode cX5_welcome 16 = .ok (.if_icmp .le 6, 3) := by decide +kernel
theorem dX5_welcome_19 : decode cX5_welcome 19 = .ok (.bipush (-2), 2) := by decide +kernel
theorem dX5_welcome_21 : decode cX5_welcome 21 = .ok (.ireturn, 1) := by decide +kernel
theorem dX5_welcome_22 : decode cX5_welcome 22 = .ok (.aload_n 0, 1) := by decide +kernel
theorem dX5_welcome_23 : decode cX5_welcome 23 = .ok (.iload_n 1, 1) := by decide +kernel
theorem dX5_welcome_24 : decode cX5_welcome 24 = .ok (.invokevirtual 57, 3) := by decide +kernel
theorem dX5_welcome_27 : decode cX5_welcome 27 = .ok (.bipush (-5), 2) := by decide +kernel
theorem dX5_welcome_29 : decode cX5_welcome 29 = .ok (.if_icmp .eq 6, 3) := by decide +kernel
theorem dX5_welcome_32 : decode cX5_welcome 32 = .ok (.bipush (-4), 2) := by decide +kernel
theorem dX5_welcome_34 : decode cX5_welcome 34 = .ok (.ireturn, 1) := by decide +kernel
theorem dX5_welcome_35 : decode cX5_welcome 35 = .ok (.aload_n 0, 1) := by decide +kernel
theorem dX5_welcome_36 : decode cX5_welcome 36 = .ok (.getfield 33, 3) := by decide +kernel
theorem dX5_welcome_39 : decode cX5_welcome 39 = .ok (.bipush 6, 2) := by decide +kernel
theorem dX5_welcome_41 : decode cX5_welcome 41 = .ok (.if_icmp .lt 6, 3) := by decide +kernel
theorem dX5_welcome_44 : decode cX5_welcome 44 = .ok (.bipush (-3), 2) := by decide +kernel
theorem dX5_welcome_46 : decode cX5_welcome 46 = .ok (.ireturn, 1) := by decide +kernel
theorem dX5_welcome_47 : decode cX5_welcome 47 = .ok (.aload_n 0, 1) := by decide +kernel
theorem dX5_welcome_48 : decode cX5_welcome 48 = .ok (.getfield 33, 3) := by decide +kernel
theorem dX5_welcome_51 : decode cX5_welcome 51 = .ok (.istore_n 3, 1) := by decide +kernel
theorem dX5_welcome_52 : decode cX5_welcome 52 = .ok (.aload_n 0, 1) := by decide +kernel
theorem dX5_welcome_53 : decode cX5_welcome 53 = .ok (.getfield 9, 3) := by decide +kernel
theorem dX5_welcome_56 : decode cX5_welcome 56 = .ok (.iload_n 3, 1) := by decide +kernel
theorem dX5_welcome_57 : decode cX5_welcome 57 = .ok (.iload_n 1, 1) := by decide +kernel
theorem dX5_welcome_58 : decode cX5_welcome 58 = .ok (.iastore, 1) := by decide +kernel
theorem dX5_welcome_59 : decode cX5_welcome 59 = .ok (.aload_n 0, 1) := by decide +kernel
theorem dX5_welcome_60 : decode cX5_welcome 60 = .ok (.getfield 15, 3) := by decide +kernel
theorem dX5_welcome_63 : decode cX5_welcome 63 = .ok (.iload_n 3, 1) := by decide +kernel
theorem dX5_welcome_64 : decode cX5_welcome 64 = .ok (.iload_n 2, 1) := by decide +kernel
theorem dX5_welcome_65 : decode cX5_welcome 65 = .ok (.iastore, 1) := by decide +kernel
theorem dX5_welcome_66 : decode cX5_welcome 66 = .ok (.aload_n 0, 1) := by decide +kernel
theorem dX5_welcome_67 : decode cX5_welcome 67 = .ok (.getfield 18, 3) := by decide +kernel
theorem dX5_welcome_70 : decode cX5_welcome 70 = .ok (.iload_n 3, 1) := by decide +kernel
theorem dX5_welcome_71 : decode cX5_welcome 71 = .ok (.iconst 4, 1) := by decide +kernel
theorem dX5_welcome_72 : decode cX5_welcome 72 = .ok (.iastore, 1) := by decide +kernel
theorem dX5_welcome_73 : decode cX5_welcome 73 = .ok (.aload_n 0, 1) := by decide +kernel
theorem dX5_welcome_74 : decode cX5_welcome 74 = .ok (.getfield 21, 3) := by decide +kernel
theorem dX5_welcome_77 : decode cX5_welcome 77 = .ok (.iload_n 3, 1) := by decide +kernel
theorem dX5_welcome_78 : decode cX5_welcome 78 = .ok (.iconst 0, 1) := by decide +kernel
theorem dX5_welcome_79 : decode cX5_welcome 79 = .ok (.iastore, 1) := by decide +kernel
theorem dX5_welcome_80 : decode cX5_welcome 80 = .ok (.aload_n 0, 1) := by decide +kernel
theorem dX5_welcome_81 : decode cX5_welcome 81 = .ok (.getfield 24, 3) := by decide +kernel
theorem dX5_welcome_84 : decode cX5_welcome 84 = .ok (.iload_n 3, 1) := by decide +kernel
theorem dX5_welcome_85 : decode cX5_welcome 85 = .ok (.iconst 0, 1) := by decide +kernel
theorem dX5_welcome_86 : decode cX5_welcome 86 = .ok (.iastore, 1) := by decide +kernel
theorem dX5_welcome_87 : decode cX5_welcome 87 = .ok (.aload_n 0, 1) := by decide +kernel
theorem dX5_welcome_88 : decode cX5_welcome 88 = .ok (.getfield 27, 3) := by decide +kernel
theorem dX5_welcome_91 : decode cX5_welcome 91 = .ok (.iload_n 3, 1) := by decide +kernel
theorem dX5_welcome_92 : decode cX5_welcome 92 = .ok (.iconst 0, 1) := by decide +kernel
theorem dX5_welcome_93 : decode cX5_welcome 93 = .ok (.iastore, 1) := by decide +kernel
theorem dX5_welcome_94 : decode cX5_welcome 94 = .ok (.aload_n 0, 1) := by decide +kernel
theorem dX5_welcome_95 : decode cX5_welcome 95 = .ok (.getfield 30, 3) := by decide +kernel
theorem dX5_welcome_98 : decode cX5_welcome 98 = .ok (.iload_n 3, 1) := by decide +kernel
theorem dX5_welcome_99 : decode cX5_welcome 99 = .ok (.iconst 0, 1) := by decide +kernel
theorem dX5_welcome_100 : decode cX5_welcome 100 = .ok (.iastore, 1) := by decide +kernel
theorem dX5_welcome_101 : decode cX5_welcome 101 = .ok (.aload_n 0, 1) := by decide +kernel
theorem dX5_welcome_102 : decode cX5_welcome 102 = .ok (.dup, 1) := by decide +kernel
theorem dX5_welcome_103 : decode cX5_welcome 103 = .ok (.getfield 33, 3) := by decide +kernel
theorem dX5_welcome_106 : decode cX5_welcome 106 = .ok (.iconst 1, 1) := by decide +kernel
theorem dX5_welcome_107 : decode cX5_welcome 107 = .ok (.iadd, 1) := by decide +kernel
theorem dX5_welcome_108 : decode cX5_welcome 108 = .ok (.putfield 33, 3) := by decide +kernel
theorem dX5_welcome_111 : decode cX5_welcome 111 = .ok (.aload_n 0, 1) := by decide +kernel
theorem dX5_welcome_112 : decode cX5_welcome 112 = .ok (.aload_n 0, 1) := by decide +kernel
theorem dX5_welcome_113 : decode cX5_welcome 113 = .ok (.getfield 37, 3) := by decide +kernel
theorem dX5_welcome_116 : decode cX5_welcome 116 = .ok (.bipush (-5), 2) := by decide +kernel
theorem dX5_welcome_118 : decode cX5_welcome 118 = .ok (.if_icmp .ne 7, 3) := by decide +kernel
theorem dX5_welcome_121 : decode cX5_welcome 121 = .ok (.iload_n 3, 1) := by decide +kernel
theorem dX5_welcome_122 : decode cX5_welcome 122 = .ok (.goto 7, 3) := by decide +kernel
theorem dX5_welcome_125 : decode cX5_welcome 125 = .ok (.aload_n 0, 1) := by decide +kernel
theorem dX5_welcome_126 : decode cX5_welcome 126 = .ok (.getfield 37, 3) := by decide +kernel
theorem dX5_welcome_129 : decode cX5_welcome 129 = .ok (.putfield 37, 3) := by decide +kernel
theorem dX5_welcome_132 : decode cX5_welcome 132 = .ok (.iload_n 3, 1) := by decide +kernel
theorem dX5_welcome_133 : decode cX5_welcome 133 = .ok (.ireturn, 1) := by decide +kernel
theorem dX5_steer_0 : decode cX5_steer 0 = .ok (.aload_n 0, 1) := by decide +kernel
theorem dX5_steer_1 : decode cX5_steer 1 = .ok (.iload_n 1, 1) := by decide +kernel
theorem dX5_steer_2 : decode cX5_steer 2 = .ok (.invokevirtual 61, 3) := by decide +kernel
theorem dX5_steer_5 : decode cX5_steer 5 = .ok (.ifCond .ne 5, 3) := by decide +kernel
theorem dX5_steer_8 : decode cX5_steer 8 = .ok (.iconst (-1), 1) := by decide +kernel
theorem dX5_steer_9 : decode cX5_steer 9 = .ok (.ireturn, 1) := by decide +kernel
theorem dX5_steer_10 : decode cX5_steer 10 = .ok (.iload_n 2, 1) := by decide +kernel
theorem dX5_steer_11 : decode cX5_steer 11 = .ok (.iconst (-1), 1) := by decide +kernel
theorem dX5_steer_12 : decode cX5_steer 12 = .ok (.if_icmp .lt 8, 3) := by decide +kernel
theorem dX5_steer_15 : decode cX5_steer 15 = .ok (.iload_n 2, 1) := by decide +kernel
theorem dX5_steer_16 : decode cX5_steer 16 = .ok (.iconst 4, 1) := by decide +kernel
theorem dX5_steer_17 : decode cX5_steer 17 = .ok (.if_icmp .lt 6, 3) := by decide +kernel
theorem dX5_steer_20 : decode cX5_steer 20 = .ok (.bipush (-2), 2) := by decide +kernel
theorem dX5_steer_22 : decode cX5_steer 22 = .ok (.ireturn, 1) := by decide +kernel
theorem dX5_steer_23 : decode cX5_steer 23 = .ok (.aload_n 0, 1) := by decide +kernel
theorem dX5_steer_24 : decode cX5_steer 24 = .ok (.getfield 18, 3) := by decide +kernel
theorem dX5_steer_27 : decode cX5_steer 27 = .ok (.iload_n 1, 1) := by decide +kernel
theorem dX5_steer_28 : decode cX5_steer 28 = .ok (.iload_n 2, 1) := by decide +kernel
theorem dX5_steer_29 : decode cX5_steer 29 = .ok (.iconst (-1), 1) := by decide +kernel
theorem dX5_steer_30 : decode cX5_steer 30 = .ok (.if_icmp .ne 7, 3) := by decide +kernel
theorem dX5_steer_33 : decode cX5_steer 33 = .ok (.iconst 4, 1) := by decide +kernel
theorem dX5_steer_34 : decode cX5_steer 34 = .ok (.goto 4, 3) := by decide +kernel
theorem dX5_steer_37 : decode cX5_steer 37 = .ok (.iload_n 2, 1) := by decide +kernel
theorem dX5_steer_38 : decode cX5_steer 38 = .ok (.iconst 0, 1) := by decide +kernel
theorem dX5_steer_39 : decode cX5_steer 39 = .ok (.iconst 4, 1) := by decide +kernel
theorem dX5_steer_40 : decode cX5_steer 40 = .ok (.invokestatic 64, 3) := by decide +kernel
theorem dX5_steer_43 : decode cX5_steer 43 = .ok (.ireturn, 1) := by decide +kernel
theorem dX5_stepAll_0 : decode cX5_stepAll 0 = .ok (.iconst 0, 1) := by decide +kernel
theorem dX5_stepAll_1 : decode cX5_stepAll 1 = .ok (.istore_n 1, 1) := by decide +kernel
theorem dX5_stepAll_2 : decode cX5_stepAll 2 = .ok (.iload_n 1, 1) := by decide +kernel
theorem dX5_stepAll_3 : decode cX5_stepAll 3 = .ok (.aload_n 0, 1) := by decide +kernel
theorem dX5_stepAll_4 : decode cX5_stepAll 4 = .ok (.getfield 33, 3) := by decide +kernel
theorem dX5_stepAll_7 : decode cX5_stepAll 7 = .ok (.if_icmp .ge 14, 3) := by decide +kernel
theorem dX5_stepAll_10 : decode cX5_stepAll 10 = .ok (.aload_n 0, 1) := by decide +kernel
theorem dX5_stepAll_11 : decode cX5_stepAll 11 = .ok (.iload_n 1, 1) := by decide +kernel
theorem dX5_stepAll_12 : decode cX5_stepAll 12 = .ok (.invokevirtual 68, 3) := by decide +kernel
theorem dX5_stepAll_15 : decode cX5_stepAll 15 = .ok (.iinc 1 1, 3) := by decide +kernel
theorem dX5_stepAll_18 : decode cX5_stepAll 18 = .ok (.goto (-16), 3) := by decide +kernel
theorem dX5_stepAll_21 : decode cX5_stepAll 21 = .ok (.return_, 1) := by decide +kernel
theorem dX5_step_0 : decode cX5_step 0 = .ok (.aload_n 0, 1) := by decide +kernel
theorem dX5_step_1 : decode cX5_step 1 = .ok (.iload_n 1, 1) := by decide +kernel
theorem dX5_step_2 : decode cX5_step 2 = .ok (.invokevirtual 61, 3) := by decide +kernel
theorem dX5_step_5 : decode cX5_step 5 = .ok (.ifCond .eq 13, 3) := by decide +kernel
theorem dX5_step_8 : decode cX5_step 8 = .ok (.aload_n 0, 1) := by decide +kernel
theorem dX5_step_9 : decode cX5_step 9 = .ok (.getfield 18, 3) := by decide +kernel
theorem dX5_step_12 : decode cX5_step 12 = .ok (.iload_n 1, 1) := by decide +kernel
theorem dX5_step_13 : decode cX5_step 13 = .ok (.iaload, 1) := by decide +kernel
theorem dX5_step_14 : decode cX5_step 14 = .ok (.iconst 4, 1) := by decide +kernel
theorem dX5_step_15 : decode cX5_step 15 = .ok (.if_icmp .ne 4, 3) := by decide +kernel
theorem dX5_step_18 : decode cX5_step 18 = .ok (.return_, 1) := by decide +kernel
theorem dX5_step_19 : decode cX5_step 19 = .ok (.aload_n 0, 1) := by decide +kernel
theorem dX5_step_20 : decode cX5_step 20 = .ok (.getfield 9, 3) := by decide +kernel
theorem dX5_step_23 : decode cX5_step 23 = .ok (.iload_n 1, 1) := by decide +kernel
theorem dX5_step_24 : decode cX5_step 24 = .ok (.iaload, 1) := by decide +kernel
theorem dX5_step_25 : decode cX5_step 25 = .ok (.istore_n 2, 1) := by decide +kernel
theorem dX5_step_26 : decode cX5_step 26 = .ok (.aload_n 0, 1) := by decide +kernel
theorem dX5_step_27 : decode cX5_step 27 = .ok (.getfield 18, 3) := by decide +kernel
theorem dX5_step_30 : decode cX5_step 30 = .ok (.iload_n 1, 1) := by decide +kernel
theorem dX5_step_31 : decode cX5_step 31 = .ok (.iaload, 1) := by decide +kernel
theorem dX5_step_32 : decode cX5_step 32 = .ok (.istore_n 3, 1) := by decide +kernel
theorem dX5_step_33 : decode cX5_step 33 = .ok (.iload_n 2, 1) := by decide +kernel
theorem dX5_step_34 : decode cX5_step 34 = .ok (.iload_n 3, 1) := by decide +kernel
theorem dX5_step_35 : decode cX5_step 35 = .ok (.iconst 1, 1) := by decide +kernel
theorem dX5_step_36 : decode cX5_step 36 = .ok (.invokestatic 72, 3) := by decide +kernel
theorem dX5_step_39 : decode cX5_step 39 = .ok (.istore 4, 2) := by decide +kernel
theorem dX5_step_41 : decode cX5_step 41 = .ok (.iload_n 2, 1) := by decide +kernel
theorem dX5_step_42 : decode cX5_step 42 = .ok (.iload_n 3, 1) := by decide +kernel
theorem dX5_step_43 : decode cX5_step 43 = .ok (.invokestatic 76, 3) := by decide +kernel
theorem dX5_step_46 : decode cX5_step 46 = .ok (.ifCond .eq 14, 3) := by decide +kernel
theorem dX5_step_49 : decode cX5_step 49 = .ok (.aload_n 0, 1) := by decide +kernel
theorem dX5_step_50 : decode cX5_step 50 = .ok (.iload 4, 2) := by decide +kernel
theorem dX5_step_52 : decode cX5_step 52 = .ok (.invokevirtual 57, 3) := by decide +kernel
theorem dX5_step_55 : decode cX5_step 55 = .ok (.bipush (-5), 2) := by decide +kernel
theorem dX5_step_57 : decode cX5_step 57 = .ok (.if_icmp .eq 16, 3) := by decide +kernel
theorem dX5_step_60 : decode cX5_step 60 = .ok (.aload_n 0, 1) := by decide +kernel
theorem dX5_step_61 : decode cX5_step 61 = .ok (.dup, 1) := by decide +kernel
theorem dX5_step_62 : decode cX5_step 62 = .ok (.getfield 46, 3) := by decide +kernel
theorem dX5_step_65 : decode cX5_step 65 = .ok (.iconst 1, 1) := by decide +kernel
theorem dX5_step_66 : decode cX5_step 66 = .ok (.iadd, 1) := by decide +kernel
theorem dX5_step_67 : decode cX5_step 67 = .ok (.putfield 46, 3) := by decide +kernel
theorem dX5_step_70 : decode cX5_step 70 = .ok (.goto 21, 3) := by decide +kernel
theorem dX5_step_73 : decode cX5_step 73 = .ok (.aload_n 0, 1) := by decide +kernel
theorem dX5_step_74 : decode cX5_step 74 = .ok (.getfield 9, 3) := by decide +kernel
theorem dX5_step_77 : decode cX5_step 77 = .ok (.iload_n 1, 1) := by decide +kernel
theorem dX5_step_78 : decode cX5_step 78 = .ok (.iload 4, 2) := by decide +kernel
theorem dX5_step_80 : decode cX5_step 80 = .ok (.iastore, 1) := by decide +kernel
theorem dX5_step_81 : decode cX5_step 81 = .ok (.aload_n 0, 1) := by decide +kernel
theorem dX5_step_82 : decode cX5_step 82 = .ok (.dup, 1) := by decide +kernel
theorem dX5_step_83 : decode cX5_step 83 = .ok (.getfield 43, 3) := by decide +kernel
theorem dX5_step_86 : decode cX5_step 86 = .ok (.iconst 1, 1) := by decide +kernel
theorem dX5_step_87 : decode cX5_step 87 = .ok (.iadd, 1) := by decide +kernel
theorem dX5_step_88 : decode cX5_step 88 = .ok (.putfield 43, 3) := by decide +kernel
theorem dX5_step_91 : decode cX5_step 91 = .ok (.return_, 1) := by decide +kernel
theorem dX5_handOver_0 : decode cX5_handOver 0 = .ok (.aload_n 0, 1) := by decide +kernel
theorem dX5_handOver_1 : decode cX5_handOver 1 = .ok (.iload_n 1, 1) := by decide +kernel
theorem dX5_handOver_2 : decode cX5_handOver 2 = .ok (.invokevirtual 61, 3) := by decide +kernel
theorem dX5_handOver_5 : decode cX5_handOver 5 = .ok (.ifCond .eq 14, 3) := by decide +kernel
theorem dX5_handOver_8 : decode cX5_handOver 8 = .ok (.aload_n 0, 1) := by decide +kernel
theorem dX5_handOver_9 : decode cX5_handOver 9 = .ok (.aload_n 0, 1) := by decide +kernel
theorem dX5_handOver_10 : decode cX5_handOver 10 = .ok (.getfield 37, 3) := by decide +kernel
theorem dX5_handOver_13 : decode cX5_handOver 13 = .ok (.invokevirtual 61, 3) := by decide +kernel
theorem dX5_handOver_16 : decode cX5_handOver 16 = .ok (.ifCond .ne 4, 3) := by decide +kernel
theorem dX5_handOver_19 : decode cX5_handOver 19 = .ok (.return_, 1) := by decide +kernel
theorem dX5_handOver_20 : decode cX5_handOver 20 = .ok (.aload_n 0, 1) := by decide +kernel
theorem dX5_handOver_21 : decode cX5_handOver 21 = .ok (.getfield 24, 3) := by decide +kernel
theorem dX5_handOver_24 : decode cX5_handOver 24 = .ok (.iload_n 1, 1) := by decide +kernel
theorem dX5_handOver_25 : decode cX5_handOver 25 = .ok (.dup2, 1) := by decide +kernel
theorem dX5_handOver_26 : decode cX5_handOver 26 = .ok (.iaload, 1) := by decide +kernel
theorem dX5_handOver_27 : decode cX5_handOver 27 = .ok (.iconst 1, 1) := by decide +kernel
theorem dX5_handOver_28 : decode cX5_handOver 28 = .ok (.iadd, 1) := by decide +kernel
theorem dX5_handOver_29 : decode cX5_handOver 29 = .ok (.iastore, 1) := by decide +kernel
theorem dX5_handOver_30 : decode cX5_handOver 30 = .ok (.aload_n 0, 1) := by decide +kernel
theorem dX5_handOver_31 : decode cX5_handOver 31 = .ok (.getfield 27, 3) := by decide +kernel
theorem dX5_handOver_34 : decode cX5_handOver 34 = .ok (.aload_n 0, 1) := by decide +kernel
theorem dX5_handOver_35 : decode cX5_handOver 35 = .ok (.getfield 37, 3) := by decide +kernel
theorem dX5_handOver_38 : decode cX5_handOver 38 = .ok (.dup2, 1) := by decide +kernel
theorem dX5_handOver_39 : decode cX5_handOver 39 = .ok (.iaload, 1) := by decide +kernel
theorem dX5_handOver_40 : decode cX5_handOver 40 = .ok (.iconst 1, 1) := by decide +kernel
theorem dX5_handOver_41 : decode cX5_handOver 41 = .ok (.iadd, 1) := by decide +kernel
theorem dX5_handOver_42 : decode cX5_handOver 42 = .ok (.iastore, 1) := by decide +kernel
theorem dX5_handOver_43 : decode cX5_handOver 43 = .ok (.aload_n 0, 1) := by decide +kernel
theorem dX5_handOver_44 : decode cX5_handOver 44 = .ok (.getfield 21, 3) := by decide +kernel
theorem dX5_handOver_47 : decode cX5_handOver 47 = .ok (.aload_n 0, 1) := by decide +kernel
theorem dX5_handOver_48 : decode cX5_handOver 48 = .ok (.getfield 37, 3) := by decide +kernel
theorem dX5_handOver_51 : decode cX5_handOver 51 = .ok (.iload_n 2, 1) := by decide +kernel
theorem dX5_handOver_52 : decode cX5_handOver 52 = .ok (.iastore, 1) := by decide +kernel
theorem dX5_handOver_53 : decode cX5_handOver 53 = .ok (.aload_n 0, 1) := by decide +kernel
theorem dX5_handOver_54 : decode cX5_handOver 54 = .ok (.iload_n 1, 1) := by decide +kernel
theorem dX5_handOver_55 : decode cX5_handOver 55 = .ok (.putfield 37, 3) := by decide +kernel
theorem dX5_handOver_58 : decode cX5_handOver 58 = .ok (.aload_n 0, 1) := by decide +kernel
theorem dX5_handOver_59 : decode cX5_handOver 59 = .ok (.dup, 1) := by decide +kernel
theorem dX5_handOver_60 : decode cX5_handOver 60 = .ok (.getfield 40, 3) := by decide +kernel
theorem dX5_handOver_63 : decode cX5_handOver 63 = .ok (.iconst 1, 1) := by decide +kernel
theorem dX5_handOver_64 : decode cX5_handOver 64 = .ok (.iadd, 1) := by decide +kernel
theorem dX5_handOver_65 : decode cX5_handOver 65 = .ok (.putfield 40, 3) := by decide +kernel
theorem dX5_handOver_68 : decode cX5_handOver 68 = .ok (.return_, 1) := by decide +kernel
theorem dX5_shortenRespites_0 : decode cX5_shortenRespites 0 = .ok (.iconst 0, 1) := by decide +kernel
theorem dX5_shortenRespites_1 : decode cX5_shortenRespites 1 = .ok (.istore_n 1, 1) := by decide +kernel
theorem dX5_shortenRespites_2 : decode cX5_shortenRespites 2 = .ok (.iload_n 1, 1) := by decide +kernel
theorem dX5_shortenRespites_3 : decode cX5_shortenRespites 3 = .ok (.aload_n 0, 1) := by decide +kernel
theorem dX5_shortenRespites_4 : decode cX5_shortenRespites 4 = .ok (.getfield 33, 3) := by decide +kernel
theorem dX5_shortenRespites_7 : decode cX5_shortenRespites 7 = .ok (.if_icmp .ge 28, 3) := by decide +kernel
theorem dX5_shortenRespites_10 : decode cX5_shortenRespites 10 = .ok (.aload_n 0, 1) := by decide +kernel
theorem dX5_shortenRespites_11 : decode cX5_shortenRespites 11 = .ok (.getfield 21, 3) := by decide +kernel
theorem dX5_shortenRespites_14 : decode cX5_shortenRespites 14 = .ok (.iload_n 1, 1) := by decide +kernel
theorem dX5_shortenRespites_15 : decode cX5_shortenRespites 15 = .ok (.iaload, 1) := by decide +kernel
theorem dX5_shortenRespites_16 : decode cX5_shortenRespites 16 = .ok (.ifCond .le 13, 3) := by decide +kernel
theorem dX5_shortenRespites_19 : decode cX5_shortenRespites 19 = .ok (.aload_n 0, 1) := by decide +kernel
theorem dX5_shortenRespites_20 : decode cX5_shortenRespites 20 = .ok (.getfield 21, 3) := by decide +kernel
theorem dX5_shortenRespites_23 : decode cX5_shortenRespites 23 = .ok (.iload_n 1, 1) := by decide +kernel
theorem dX5_shortenRespites_24 : decode cX5_shortenRespites 24 = .ok (.dup2, 1) := by decide +kernel
theorem dX5_shortenRespites_25 : decode cX5_shortenRespites 25 = .ok (.iaload, 1) := by decide +kernel
theorem dX5_shortenRespites_26 : decode cX5_shortenRespites 26 = .ok (.iconst 1, 1) := by decide +kernel
theorem dX5_shortenRespites_27 : decode cX5_shortenRespites 27 = .ok (.isub, 1) := by decide +kernel
theorem dX5_shortenRespites_28 : decode cX5_shortenRespites 28 = .ok (.iastore, 1) := by decide +kernel
theorem dX5_shortenRespites_29 : decode cX5_shortenRespites 29 = .ok (.iinc 1 1, 3) := by decide +kernel
theorem dX5_shortenRespites_32 : decode cX5_shortenRespites 32 = .ok (.goto (-30), 3) := by decide +kernel
theorem dX5_shortenRespites_35 : decode cX5_shortenRespites 35 = .ok (.return_, 1) := by decide +kernel
theorem dX5_addToAccounts_0 : decode cX5_addToAccounts 0 = .ok (.iconst 0, 1) := by decide +kernel
theorem dX5_addToAccounts_1 : decode cX5_addToAccounts 1 = .ok (.istore_n 1, 1) := by decide +kernel
theorem dX5_addToAccounts_2 : decode cX5_addToAccounts 2 = .ok (.iload_n 1, 1) := by decide +kernel
theorem dX5_addToAccounts_3 : decode cX5_addToAccounts 3 = .ok (.aload_n 0, 1) := by decide +kernel
theorem dX5_addToAccounts_4 : decode cX5_addToAccounts 4 = .ok (.getfield 33, 3) := by decide +kernel
theorem dX5_addToAccounts_7 : decode cX5_addToAccounts 7 = .ok (.if_icmp .ge 27, 3) := by decide +kernel
theorem dX5_addToAccounts_10 : decode cX5_addToAccounts 10 = .ok (.iload_n 1, 1) := by decide +kernel
theorem dX5_addToAccounts_11 : decode cX5_addToAccounts 11 = .ok (.aload_n 0, 1) := by decide +kernel
theorem dX5_addToAccounts_12 : decode cX5_addToAccounts 12 = .ok (.getfield 37, 3) := by decide +kernel
theorem dX5_addToAccounts_15 : decode cX5_addToAccounts 15 = .ok (.if_icmp .eq 13, 3) := by decide +kernel
theorem dX5_addToAccounts_18 : decode cX5_addToAccounts 18 = .ok (.aload_n 0, 1) := by decide +kernel
theorem dX5_addToAccounts_19 : decode cX5_addToAccounts 19 = .ok (.getfield 30, 3) := by decide +kernel
theorem dX5_addToAccounts_22 : decode cX5_addToAccounts 22 = .ok (.iload_n 1, 1) := by decide +kernel
theorem dX5_addToAccounts_23 : decode cX5_addToAccounts 23 = .ok (.dup2, 1) := by decide +kernel
theorem dX5_addToAccounts_24 : decode cX5_addToAccounts 24 = .ok (.iaload, 1) := by decide +kernel
theorem dX5_addToAccounts_25 : decode cX5_addToAccounts 25 = .ok (.iconst 1, 1) := by decide +kernel
theorem dX5_addToAccounts_26 : decode cX5_addToAccounts 26 = .ok (.iadd, 1) := by decide +kernel
theorem dX5_addToAccounts_27 : decode cX5_addToAccounts 27 = .ok (.iastore, 1) := by decide +kernel
theorem dX5_addToAccounts_28 : decode cX5_addToAccounts 28 = .ok (.iinc 1 1, 3) := by decide +kernel
theorem dX5_addToAccounts_31 : decode cX5_addToAccounts 31 = .ok (.goto (-29), 3) := by decide +kernel
theorem dX5_addToAccounts_34 : decode cX5_addToAccounts 34 = .ok (.return_, 1) := by decide +kernel
theorem dX5_spin_0 : decode cX5_spin 0 = .ok (.iconst 0, 1) := by decide +kernel
theorem dX5_spin_1 : decode cX5_spin 1 = .ok (.istore_n 1, 1) := by decide +kernel
theorem dX5_spin_2 : decode cX5_spin 2 = .ok (.iload_n 1, 1) := by decide +kernel
theorem dX5_spin_3 : decode cX5_spin 3 = .ok (.aload_n 0, 1) := by decide +kernel
theorem dX5_spin_4 : decode cX5_spin 4 = .ok (.getfield 33, 3) := by decide +kernel
theorem dX5_spin_7 : decode cX5_spin 7 = .ok (.if_icmp .ge 72, 3) := by decide +kernel
theorem dX5_spin_10 : decode cX5_spin 10 = .ok (.aload_n 0, 1) := by decide +kernel
theorem dX5_spin_11 : decode cX5_spin 11 = .ok (.getfield 9, 3) := by decide +kernel
theorem dX5_spin_14 : decode cX5_spin 14 = .ok (.iload_n 1, 1) := by decide +kernel
theorem dX5_spin_15 : decode cX5_spin 15 = .ok (.iaload, 1) := by decide +kernel
theorem dX5_spin_16 : decode cX5_spin 16 = .ok (.bipush 10, 2) := by decide +kernel
theorem dX5_spin_18 : decode cX5_spin 18 = .ok (.idiv, 1) := by decide +kernel
theorem dX5_spin_19 : decode cX5_spin 19 = .ok (.istore_n 2, 1) := by decide +kernel
theorem dX5_spin_20 : decode cX5_spin 20 = .ok (.aload_n 0, 1) := by decide +kernel
theorem dX5_spin_21 : decode cX5_spin 21 = .ok (.getfield 9, 3) := by decide +kernel
theorem dX5_spin_24 : decode cX5_spin 24 = .ok (.iload_n 1, 1) := by decide +kernel
theorem dX5_spin_25 : decode cX5_spin 25 = .ok (.iaload, 1) := by decide +kernel
theorem dX5_spin_26 : decode cX5_spin 26 = .ok (.bipush 10, 2) := by decide +kernel
theorem dX5_spin_28 : decode cX5_spin 28 = .ok (.irem, 1) := by decide +kernel
theorem dX5_spin_29 : decode cX5_spin 29 = .ok (.istore_n 3, 1) := by decide +kernel
theorem dX5_spin_30 : decode cX5_spin 30 = .ok (.aload_n 0, 1) := by decide +kernel
theorem dX5_spin_31 : decode cX5_spin 31 = .ok (.getfield 9, 3) := by decide +kernel
theorem dX5_spin_34 : decode cX5_spin 34 = .ok (.iload_n 1, 1) := by decide +kernel
theorem dX5_spin_35 : decode cX5_spin 35 = .ok (.iload_n 3, 1) := by decide +kernel
theorem dX5_spin_36 : decode cX5_spin 36 = .ok (.bipush 10, 2) := by decide +kernel
theorem dX5_spin_38 : decode cX5_spin 38 = .ok (.imul, 1) := by decide +kernel
theorem dX5_spin_39 : decode cX5_spin 39 = .ok (.bipush 10, 2) := by decide +kernel
theorem dX5_spin_41 : decode cX5_spin 41 = .ok (.iadd, 1) := by decide +kernel
theorem dX5_spin_42 : decode cX5_spin 42 = .ok (.iconst 1, 1) := by decide +kernel
theorem dX5_spin_43 : decode cX5_spin 43 = .ok (.isub, 1) := by decide +kernel
theorem dX5_spin_44 : decode cX5_spin 44 = .ok (.iload_n 2, 1) := by decide +kernel
theorem dX5_spin_45 : decode cX5_spin 45 = .ok (.isub, 1) := by decide +kernel
theorem dX5_spin_46 : decode cX5_spin 46 = .ok (.iastore, 1) := by decide +kernel
theorem dX5_spin_47 : decode cX5_spin 47 = .ok (.aload_n 0, 1) := by decide +kernel
theorem dX5_spin_48 : decode cX5_spin 48 = .ok (.getfield 18, 3) := by decide +kernel
theorem dX5_spin_51 : decode cX5_spin 51 = .ok (.iload_n 1, 1) := by decide +kernel
theorem dX5_spin_52 : decode cX5_spin 52 = .ok (.iaload, 1) := by decide +kernel
theorem dX5_spin_53 : decode cX5_spin 53 = .ok (.iconst 4, 1) := by decide +kernel
theorem dX5_spin_54 : decode cX5_spin 54 = .ok (.if_icmp .eq 19, 3) := by decide +kernel
theorem dX5_spin_57 : decode cX5_spin 57 = .ok (.aload_n 0, 1) := by decide +kernel
theorem dX5_spin_58 : decode cX5_spin 58 = .ok (.getfield 18, 3) := by decide +kernel
theorem dX5_spin_61 : decode cX5_spin 61 = .ok (.iload_n 1, 1) := by decide +kernel
theorem dX5_spin_62 : decode cX5_spin 62 = .ok (.aload_n 0, 1) := by decide +kernel
theorem dX5_spin_63 : decode cX5_spin 63 = .ok (.getfield 18, 3) := by decide +kernel
theorem dX5_spin_66 : decode cX5_spin 66 = .ok (.iload_n 1, 1) := by decide +kernel
theorem dX5_spin_67 : decode cX5_spin 67 = .ok (.iaload, 1) := by decide +kernel
theorem dX5_spin_68 : decode cX5_spin 68 = .ok (.iconst 1, 1) := by decide +kernel
theorem dX5_spin_69 : decode cX5_spin 69 = .ok (.iadd, 1) := by decide +kernel
theorem dX5_spin_70 : decode cX5_spin 70 = .ok (.iconst 4, 1) := by decide +kernel
theorem dX5_spin_71 : decode cX5_spin 71 = .ok (.irem, 1) := by decide +kernel
theorem dX5_spin_72 : decode cX5_spin 72 = .ok (.iastore, 1) := by decide +kernel
theorem dX5_spin_73 : decode cX5_spin 73 = .ok (.iinc 1 1, 3) := by decide +kernel
theorem dX5_spin_76 : decode cX5_spin 76 = .ok (.goto (-74), 3) := by decide +kernel
theorem dX5_spin_79 : decode cX5_spin 79 = .ok (.return_, 1) := by decide +kernel
theorem dX6_init_0 : decode cX6_init 0 = .ok (.aload_n 0, 1) := by decide +kernel
theorem dX6_init_1 : decode cX6_init 1 = .ok (.invokespecial 3, 3) := by decide +kernel
theorem dX6_init_4 : decode cX6_init 4 = .ok (.aload_n 0, 1) := by decide +kernel
theorem dX6_init_5 : decode cX6_init 5 = .ok (.new 9, 3) := by decide +kernel
theorem dX6_init_8 : decode cX6_init 8 = .ok (.dup, 1) := by decide +kernel
theorem dX6_init_9 : decode cX6_init 9 = .ok (.invokespecial 11, 3) := by decide +kernel
theorem dX6_init_12 : decode cX6_init 12 = .ok (.putfield 12, 3) := by decide +kernel
theorem dX6_init_15 : decode cX6_init 15 = .ok (.aload_n 0, 1) := by decide +kernel
theorem dX6_init_16 : decode cX6_init 16 = .ok (.new 9, 3) := by decide +kernel
theorem dX6_init_19 : decode cX6_init 19 = .ok (.dup, 1) := by decide +kernel
theorem dX6_init_20 : decode cX6_init 20 = .ok (.invokespecial 11, 3) := by decide +kernel
theorem dX6_init_23 : decode cX6_init 23 = .ok (.putfield 16, 3) := by decide +kernel
theorem dX6_init_26 : decode cX6_init 26 = .ok (.aload_n 0, 1) := by decide +kernel
theorem dX6_init_27 : decode cX6_init 27 = .ok (.new 9, 3) := by decide +kernel
theorem dX6_init_30 : decode cX6_init 30 = .ok (.dup, 1) := by decide +kernel
theorem dX6_init_31 : decode cX6_init 31 = .ok (.invokespecial 11, 3) := by decide +kernel
theorem dX6_init_34 : decode cX6_init 34 = .ok (.putfield 19, 3) := by decide +kernel
theorem dX6_init_37 : decode cX6_init 37 = .ok (.aload_n 0, 1) := by decide +kernel
theorem dX6_init_38 : decode cX6_init 38 = .ok (.new 22, 3) := by decide +kernel
theorem dX6_init_41 : decode cX6_init 41 = .ok (.dup, 1) := by decide +kernel
theorem dX6_init_42 : decode cX6_init 42 = .ok (.invokespecial 24, 3) := by decide +kernel
theorem dX6_init_45 : decode cX6_init 45 = .ok (.putfield 25, 3) := by decide +kernel
theorem dX6_init_48 : decode cX6_init 48 = .ok (.aload_n 0, 1) := by decide +kernel
theorem dX6_init_49 : decode cX6_init 49 = .ok (.new 29, 3) := by decide +kernel
theorem dX6_init_52 : decode cX6_init 52 = .ok (.dup, 1) := by decide +kernel
theorem dX6_init_53 : decode cX6_init 53 = .ok (.invokespecial 31, 3) := by decide +kernel
theorem dX6_init_56 : decode cX6_init 56 = .ok (.putfield 32, 3) := by decide +kernel
theorem dX6_init_59 : decode cX6_init 59 = .ok (.aload_n 0, 1) := by decide +kernel
theorem dX6_init_60 : decode cX6_init 60 = .ok (.new 36, 3) := by decide +kernel
theorem dX6_init_63 : decode cX6_init 63 = .ok (.dup, 1) := by decide +kernel
theorem dX6_init_64 : decode cX6_init 64 = .ok (.invokespecial 38, 3) := by decide +kernel
theorem dX6_init_67 : decode cX6_init 67 = .ok (.putfield 39, 3) := by decide +kernel
theorem dX6_init_70 : decode cX6_init 70 = .ok (.aload_n 0, 1) := by decide +kernel
theorem dX6_init_71 : decode cX6_init 71 = .ok (.iconst 0, 1) := by decide +kernel
theorem dX6_init_72 : decode cX6_init 72 = .ok (.putfield 43, 3) := by decide +kernel
theorem dX6_init_75 : decode cX6_init 75 = .ok (.aload_n 0, 1) := by decide +kernel
theorem dX6_init_76 : decode cX6_init 76 = .ok (.bipush (-5), 2) := by decide +kernel
theorem dX6_init_78 : decode cX6_init 78 = .ok (.putfield 47, 3) := by decide +kernel
theorem dX6_init_81 : decode cX6_init 81 = .ok (.aload_n 0, 1) := by decide +kernel
theorem dX6_init_82 : decode cX6_init 82 = .ok (.bipush (-5), 2) := by decide +kernel
theorem dX6_init_84 : decode cX6_init 84 = .ok (.putfield 51, 3) := by decide +kernel
theorem dX6_init_87 : decode cX6_init 87 = .ok (.return_, 1) := by decide +kernel
theorem dX6_come_0 : decode cX6_come 0 = .ok (.aload_n 0, 1) := by decide +kernel
theorem dX6_come_1 : decode cX6_come 1 = .ok (.getfield 16, 3) := by decide +kernel
theorem dX6_come_4 : decode cX6_come 4 = .ok (.aload_n 0, 1) := by decide +kernel
theorem dX6_come_5 : decode cX6_come 5 = .ok (.getfield 12, 3) := by decide +kernel
theorem dX6_come_8 : decode cX6_come 8 = .ok (.invokevirtual 54, 3) := by decide +kernel
theorem dX6_come_11 : decode cX6_come 11 = .ok (.aload_n 0, 1) := by decide +kernel
theorem dX6_come_12 : decode cX6_come 12 = .ok (.aload_n 0, 1) := by decide +kernel
theorem dX6_come_13 : decode cX6_come 13 = .ok (.getfield 16, 3) := by decide +kernel
theorem dX6_come_16 : decode cX6_come 16 = .ok (.getfield 58, 3) := by decide +kernel
theorem dX6_come_19 : decode cX6_come 19 = .ok (.iload_n 1, 1) := by decide +kernel
theorem dX6_come_20 : decode cX6_come 20 = .ok (.iload_n 2, 1) := by decide +kernel
theorem dX6_come_21 : decode cX6_come 21 = .ok (.invokevirtual 62, 3) := by decide +kernel
theorem dX6_come_24 : decode cX6_come 24 = .ok (.invokevirtual 68, 3) := by decide +kernel
theorem dX6_come_27 : decode cX6_come 27 = .ok (.ireturn, 1) := by decide +kernel
theorem dX6_head_0 : decode cX6_head 0 = .ok (.aload_n 0, 1) := by decide +kernel
theorem dX6_head_1 : decode cX6_head 1 = .ok (.getfield 16, 3) := by decide +kernel
theorem dX6_head_4 : decode cX6_head 4 = .ok (.aload_n 0, 1) := by decide +kernel
theorem dX6_head_5 : decode cX6_head 5 = .ok (.getfield 12, 3) := by decide +kernel
theorem dX6_head_8 : decode cX6_head 8 = .ok (.invokevirtual 54, 3) := by decide +kernel
theorem dX6_head_11 : decode cX6_head 11 = .ok (.aload_n 0, 1) := by decide +kernel
theorem dX6_head_12 : decode cX6_head 12 = .ok (.aload_n 0, 1) := by decide +kernel
theorem dX6_head_13 : decode cX6_head 13 = .ok (.getfield 16, 3) := by decide +kernel
theorem dX6_head_16 : decode cX6_head 16 = .ok (.getfield 58, 3) := by decide +kernel
theorem dX6_head_19 : decode cX6_head 19 = .ok (.iload_n 1, 1) := by decide +kernel
theorem dX6_head_20 : decode cX6_head 20 = .ok (.iload_n 2, 1) := by decide +kernel
theorem dX6_head_21 : decode cX6_head 21 = .ok (.invokevirtual 72, 3) := by decide +kernel
theorem dX6_head_24 : decode cX6_head 24 = .ok (.invokevirtual 68, 3) := by decide +kernel
theorem dX6_head_27 : decode cX6_head 27 = .ok (.ireturn, 1) := by decide +kernel
theorem dX6_light_0 : decode cX6_light 0 = .ok (.aload_n 0, 1) := by decide +kernel
theorem dX6_light_1 : decode cX6_light 1 = .ok (.getfield 16, 3) := by decide +kernel
theorem dX6_light_4 : decode cX6_light 4 = .ok (.aload_n 0, 1) := by decide +kernel
theorem dX6_light_5 : decode cX6_light 5 = .ok (.getfield 12, 3) := by decide +kernel
theorem dX6_light_8 : decode cX6_light 8 = .ok (.invokevirtual 54, 3) := by decide +kernel
theorem dX6_light_11 : decode cX6_light 11 = .ok (.aload_n 0, 1) := by decide +kernel
theorem dX6_light_12 : decode cX6_light 12 = .ok (.aload_n 0, 1) := by decide +kernel
theorem dX6_light_13 : decode cX6_light 13 = .ok (.getfield 16, 3) := by decide +kernel
theorem dX6_light_16 : decode cX6_light 16 = .ok (.getfield 75, 3) := by decide +kernel
theorem dX6_light_19 : decode cX6_light 19 = .ok (.iload_n 1, 1) := by decide +kernel
theorem dX6_light_20 : decode cX6_light 20 = .ok (.iload_n 2, 1) := by decide +kernel
theorem dX6_light_21 : decode cX6_light 21 = .ok (.ifCond .eq 7, 3) := by decide +kernel
theorem dX6_light_24 : decode cX6_light 24 = .ok (.iconst 1, 1) := by decide +kernel
theorem dX6_light_25 : decode cX6_light 25 = .ok (.goto 4, 3) := by decide +kernel
theorem dX6_light_28 : decode cX6_light 28 = .ok (.iconst 0, 1) := by decide +kernel
theorem dX6_light_29 : decode cX6_light 29 = .ok (.invokevirtual 79, 3) := by decide +kernel
theorem dX6_light_32 : decode cX6_light 32 = .ok (.invokevirtual 68, 3) := by decide +kernel
theorem dX6_light_35 : decode cX6_light 35 = .ok (.ireturn, 1) := by decide +kernel
theorem dX6_setLamp_0 : decode cX6_setLamp 0 = .ok (.aload_n 0, 1) := by decide +kernel
theorem dX6_setLamp_1 : decode cX6_setLamp 1 = .ok (.getfield 16, 3) := by decide +kernel
theorem dX6_setLamp_4 : decode cX6_setLamp 4 = .ok (.aload_n 0, 1) := by decide +kernel
theorem dX6_setLamp_5 : decode cX6_setLamp 5 = .ok (.getfield 12, 3) := by decide +kernel
theorem dX6_setLamp_8 : decode cX6_setLamp 8 = .ok (.invokevirtual 54, 3) := by decide +kernel
theorem dX6_setLamp_11 : decode cX6_setLamp 11 = .ok (.aload_n 0, 1) := by decide +kernel
theorem dX6_setLamp_12 : decode cX6_setLamp 12 = .ok (.aload_n 0, 1) := by decide +kernel
theorem dX6_setLamp_13 : decode cX6_setLamp 13 = .ok (.getfield 16, 3) := by decide +kernel
theorem dX6_setLamp_16 : decode cX6_setLamp 16 = .ok (.getfield 75, 3) := by decide +kernel
theorem dX6_setLamp_19 : decode cX6_setLamp 19 = .ok (.iload_n 1, 1) := by decide +kernel
theorem dX6_setLamp_20 : decode cX6_setLamp 20 = .ok (.iload_n 2, 1) := by decide +kernel
theorem dX6_setLamp_21 : decode cX6_setLamp 21 = .ok (.iload_n 3, 1) := by decide +kernel
theorem dX6_setLamp_22 : decode cX6_setLamp 22 = .ok (.invokevirtual 84, 3) := by decide +kernel
theorem dX6_setLamp_25 : decode cX6_setLamp 25 = .ok (.invokevirtual 68, 3) := by decide +kernel
theorem dX6_setLamp_28 : decode cX6_setLamp 28 = .ok (.ireturn, 1) := by decide +kernel
theorem dX6_set_0 : decode cX6_set 0 = .ok (.aload_n 0, 1) := by decide +kernel
theorem dX6_set_1 : decode cX6_set 1 = .ok (.getfield 16, 3) := by decide +kernel
theorem dX6_set_4 : decode cX6_set 4 = .ok (.aload_n 0, 1) := by decide +kernel
theorem dX6_set_5 : decode cX6_set 5 = .ok (.getfield 12, 3) := by decide +kernel
theorem dX6_set_8 : decode cX6_set 8 = .ok (.invokevirtual 54, 3) := by decide +kernel
theorem dX6_set_11 : decode cX6_set 11 = .ok (.aload_n 0, 1) := by decide +kernel
theorem dX6_set_12 : decode cX6_set 12 = .ok (.aload_n 0, 1) := by decide +kernel
theorem dX6_set_13 : decode cX6_set 13 = .ok (.getfield 16, 3) := by decide +kernel
theorem dX6_set_16 : decode cX6_set 16 = .ok (.getfield 88, 3) := by decide +kernel
theorem dX6_set_19 : decode cX6_set 19 = .ok (.iload_n 1, 1) := by decide +kernel
theorem dX6_set_20 : decode cX6_set 20 = .ok (.iload_n 2, 1) := by decide +kernel
theorem dX6_set_21 : decode cX6_set 21 = .ok (.iconst 0, 1) := by decide +kernel
theorem dX6_set_22 : decode cX6_set 22 = .ok (.bipush 9, 2) := by decide +kernel
theorem dX6_set_24 : decode cX6_set 24 = .ok (.invokestatic 92, 3) := by decide +kernel
theorem dX6_set_27 : decode cX6_set 27 = .ok (.invokevirtual 68, 3) := by decide +kernel
theorem dX6_set_30 : decode cX6_set 30 = .ok (.ireturn, 1) := by decide +kernel
theorem dX6_pass_0 : decode cX6_pass 0 = .ok (.aload_n 0, 1) := by decide +kernel
theorem dX6_pass_1 : decode cX6_pass 1 = .ok (.getfield 16, 3) := by decide +kernel
theorem dX6_pass_4 : decode cX6_pass 4 = .ok (.aload_n 0, 1) := by decide +kernel
theorem dX6_pass_5 : decode cX6_pass 5 = .ok (.getfield 12, 3) := by decide +kernel
theorem dX6_pass_8 : decode cX6_pass 8 = .ok (.invokevirtual 54, 3) := by decide +kernel
theorem dX6_pass_11 : decode cX6_pass 11 = .ok (.aload_n 0, 1) := by decide +kernel
theorem dX6_pass_12 : decode cX6_pass 12 = .ok (.aload_n 0, 1) := by decide +kernel
theorem dX6_pass_13 : decode cX6_pass 13 = .ok (.getfield 16, 3) := by decide +kernel
theorem dX6_pass_16 : decode cX6_pass 16 = .ok (.iload_n 1, 1) := by decide +kernel
theorem dX6_pass_17 : decode cX6_pass 17 = .ok (.invokevirtual 96, 3) := by decide +kernel
theorem dX6_pass_20 : decode cX6_pass 20 = .ok (.invokevirtual 68, 3) := by decide +kernel
theorem dX6_pass_23 : decode cX6_pass 23 = .ok (.ireturn, 1) := by decide +kernel
theorem dX6_type_0 : decode cX6_type 0 = .ok (.aload_n 0, 1) := by decide +kernel
theorem dX6_type_1 : decode cX6_type 1 = .ok (.getfield 32, 3) := by decide +kernel
theorem dX6_type_4 : decode cX6_type 4 = .ok (.iload_n 1, 1) := by decide +kernel
theorem dX6_type_5 : decode cX6_type 5 = .ok (.invokevirtual 99, 3) := by decide +kernel
theorem dX6_type_8 : decode cX6_type 8 = .ok (.ireturn, 1) := by decide +kernel
theorem dX6_clearText_0 : decode cX6_clearText 0 = .ok (.aload_n 0, 1) := by decide +kernel
theorem dX6_clearText_1 : decode cX6_clearText 1 = .ok (.getfield 32, 3) := by decide +kernel
theorem dX6_clearText_4 : decode cX6_clearText 4 = .ok (.invokevirtual 103, 3) := by decide +kernel
theorem dX6_clearText_7 : decode cX6_clearText 7 = .ok (.ireturn, 1) := by decide +kernel
theorem dX6_perform_0 : decode cX6_perform 0 = .ok (.aload_n 0, 1) := by decide +kernel
theorem dX6_perform_1 : decode cX6_perform 1 = .ok (.getfield 32, 3) := by decide +kernel
theorem dX6_perform_4 : decode cX6_perform 4 = .ok (.invokevirtual 107, 3) := by decide +kernel
theorem dX6_perform_7 : decode cX6_perform 7 = .ok (.istore_n 1, 1) := by decide +kernel
theorem dX6_perform_8 : decode cX6_perform 8 = .ok (.iload_n 1, 1) := by decide +kernel
theorem dX6_perform_9 : decode cX6_perform 9 = .ok (.iconst (-1), 1) := by decide +kernel
theorem dX6_perform_10 : decode cX6_perform 10 = .ok (.if_icmp .eq 8, 3) := by decide +kernel
theorem dX6_perform_13 : decode cX6_perform 13 = .ok (.bipush (-100), 2) := by decide +kernel
theorem dX6_perform_15 : decode cX6_perform 15 = .ok (.iload_n 1, 1) := by decide +kernel
theorem dX6_perform_16 : decode cX6_perform 16 = .ok (.isub, 1) := by decide +kernel
theorem dX6_perform_17 : decode cX6_perform 17 = .ok (.ireturn, 1) := by decide +kernel
theorem dX6_perform_18 : decode cX6_perform 18 = .ok (.aload_n 0, 1) := by decide +kernel
theorem dX6_perform_19 : decode cX6_perform 19 = .ok (.getfield 16, 3) := by decide +kernel
theorem dX6_perform_22 : decode cX6_perform 22 = .ok (.aload_n 0, 1) := by decide +kernel
theorem dX6_perform_23 : decode cX6_perform 23 = .ok (.getfield 12, 3) := by decide +kernel
theorem dX6_perform_26 : decode cX6_perform 26 = .ok (.invokevirtual 54, 3) := by decide +kernel
theorem dX6_perform_29 : decode cX6_perform 29 = .ok (.iconst 0, 1) := by decide +kernel
theorem dX6_perform_30 : decode cX6_perform 30 = .ok (.istore_n 2, 1) := by decide +kernel
theorem dX6_perform_31 : decode cX6_perform 31 = .ok (.iload_n 2, 1) := by decide +kernel
theorem dX6_perform_32 : decode cX6_perform 32 = .ok (.aload_n 0, 1) := by decide +kernel
theorem dX6_perform_33 : decode cX6_perform 33 = .ok (.getfield 32, 3) := by decide +kernel
theorem dX6_perform_36 : decode cX6_perform 36 = .ok (.getfield 110, 3) := by decide +kernel
theorem dX6_perform_39 : decode cX6_perform 39 = .ok (.if_icmp .ge 38, 3) := by decide +kernel
theorem dX6_perform_42 : decode cX6_perform 42 = .ok (.aload_n 0, 1) := by decide +kernel
theorem dX6_perform_43 : decode cX6_perform 43 = .ok (.iload_n 2, 1) := by decide +kernel
theorem dX6_perform_44 : decode cX6_perform 44 = .ok (.invokevirtual 113, 3) := by decide +kernel
theorem dX6_perform_47 : decode cX6_perform 47 = .ok (.istore_n 3, 1) := by decide +kernel
theorem dX6_perform_48 : decode cX6_perform 48 = .ok (.iload_n 3, 1) := by decide +kernel
theorem dX6_perform_49 : decode cX6_perform 49 = .ok (.ifCond .ge 22, 3) := by decide +kernel
theorem dX6_perform_52 : decode cX6_perform 52 = .ok (.iload_n 3, 1) := by decide +kernel
theorem dX6_perform_53 : decode cX6_perform 53 = .ok (.bipush (-5), 2) := by decide +kernel
theorem dX6_perform_55 : decode cX6_perform 55 = .ok (.if_icmp .eq 16, 3) := by decide +kernel
theorem dX6_perform_58 : decode cX6_perform 58 = .ok (.aload_n 0, 1) := by decide +kernel
theorem dX6_perform_59 : decode cX6_perform 59 = .ok (.iload_n 2, 1) := by decide +kernel
theorem dX6_perform_60 : decode cX6_perform 60 = .ok (.putfield 47, 3) := by decide +kernel
theorem dX6_perform_63 : decode cX6_perform 63 = .ok (.aload_n 0, 1) := by decide +kernel
theorem dX6_perform_64 : decode cX6_perform 64 = .ok (.iload_n 3, 1) := by decide +kernel
theorem dX6_perform_65 : decode cX6_perform 65 = .ok (.putfield 51, 3) := by decide +kernel
theorem dX6_perform_68 : decode cX6_perform 68 = .ok (.bipush (-4), 2) := by decide +kernel
theorem dX6_perform_70 : decode cX6_perform 70 = .ok (.ireturn, 1) := by decide +kernel
theorem dX6_perform_71 : decode cX6_perform 71 = .ok (.iinc 2 1, 3) := by decide +kernel
theorem dX6_perform_74 : decode cX6_perform 74 = .ok (.goto (-43), 3) := by decide +kernel
theorem dX6_perform_77 : decode cX6_perform 77 = .ok (.aload_n 0, 1) := by decide +kernel
theorem dX6_perform_78 : decode cX6_perform 78 = .ok (.aload_n 0, 1) := by decide +kernel
theorem dX6_perform_79 : decode cX6_perform 79 = .ok (.getfield 32, 3) := by decide +kernel
theorem dX6_perform_82 : decode cX6_perform 82 = .ok (.getfield 110, 3) := by decide +kernel
theorem dX6_perform_85 : decode cX6_perform 85 = .ok (.invokevirtual 68, 3) := by decide +kernel
theorem dX6_perform_88 : decode cX6_perform 88 = .ok (.ireturn, 1) := by decide +kernel
theorem dX6_stopped_0 : decode cX6_stopped 0 = .ok (.iload_n 1, 1) := by decide +kernel
theorem dX6_stopped_1 : decode cX6_stopped 1 = .ok (.lookupswitch 37 #[(0, 27), (1, 32)], 27) := by decide +kernel
theorem dX6_stopped_28 : decode cX6_stopped 28 = .ok (.aload_n 0, 1) := by decide +kernel
theorem dX6_stopped_29 : decode cX6_stopped 29 = .ok (.getfield 47, 3) := by decide +kernel
theorem dX6_stopped_32 : decode cX6_stopped 32 = .ok (.ireturn, 1) := by decide +kernel
theorem dX6_stopped_33 : decode cX6_stopped 33 = .ok (.aload_n 0, 1) := by decide +kernel
theorem dX6_stopped_34 : decode cX6_stopped 34 = .ok (.getfield 51, 3) := by decide +kernel
theorem dX6_stopped_37 : decode cX6_stopped 37 = .ok (.ireturn, 1) := by decide +kernel
theorem dX6_stopped_38 : decode cX6_stopped 38 = .ok (.bipush (-2), 2) := by decide +kernel
theorem dX6_stopped_40 : decode cX6_stopped 40 = .ok (.ireturn, 1) := by decide +kernel
theorem dX6_undo_0 : decode cX6_undo 0 = .ok (.aload_n 0, 1) := by decide +kernel
theorem dX6_undo_1 : decode cX6_undo 1 = .ok (.getfield 25, 3) := by decide +kernel
theorem dX6_undo_4 : decode cX6_undo 4 = .ok (.aload_n 0, 1) := by decide +kernel
theorem dX6_undo_5 : decode cX6_undo 5 = .ok (.getfield 12, 3) := by decide +kernel
theorem dX6_undo_8 : decode cX6_undo 8 = .ok (.invokevirtual 116, 3) := by decide +kernel
theorem dX6_undo_11 : decode cX6_undo 11 = .ok (.ifCond .eq 13, 3) := by decide +kernel
theorem dX6_undo_14 : decode cX6_undo 14 = .ok (.aload_n 0, 1) := by decide +kernel
theorem dX6_undo_15 : decode cX6_undo 15 = .ok (.getfield 25, 3) := by decide +kernel
theorem dX6_undo_18 : decode cX6_undo 18 = .ok (.getfield 120, 3) := by decide +kernel
theorem dX6_undo_21 : decode cX6_undo 21 = .ok (.goto 5, 3) := by decide +kernel
theorem dX6_undo_24 : decode cX6_undo 24 = .ok (.bipush (-5), 2) := by decide +kernel
theorem dX6_undo_26 : decode cX6_undo 26 = .ok (.ireturn, 1) := by decide +kernel
theorem dX6_keep_0 : decode cX6_keep 0 = .ok (.aload_n 0, 1) := by decide +kernel
theorem dX6_keep_1 : decode cX6_keep 1 = .ok (.getfield 19, 3) := by decide +kernel
theorem dX6_keep_4 : decode cX6_keep 4 = .ok (.aload_n 0, 1) := by decide +kernel
theorem dX6_keep_5 : decode cX6_keep 5 = .ok (.getfield 12, 3) := by decide +kernel
theorem dX6_keep_8 : decode cX6_keep 8 = .ok (.invokevirtual 54, 3) := by decide +kernel
theorem dX6_keep_11 : decode cX6_keep 11 = .ok (.aload_n 0, 1) := by decide +kernel
theorem dX6_keep_12 : decode cX6_keep 12 = .ok (.iconst 1, 1) := by decide +kernel
theorem dX6_keep_13 : decode cX6_keep 13 = .ok (.putfield 43, 3) := by decide +kernel
theorem dX6_keep_16 : decode cX6_keep 16 = .ok (.aload_n 0, 1) := by decide +kernel
theorem dX6_keep_17 : decode cX6_keep 17 = .ok (.getfield 12, 3) := by decide +kernel
theorem dX6_keep_20 : decode cX6_keep 20 = .ok (.getfield 58, 3) := by decide +kernel
theorem dX6_keep_23 : decode cX6_keep 23 = .ok (.getfield 123, 3) := by decide +kernel
theorem dX6_keep_26 : decode cX6_keep 26 = .ok (.ireturn, 1) := by decide +kernel
theorem dX6_restore_0 : decode cX6_restore 0 = .ok (.aload_n 0, 1) := by decide +kernel
theorem dX6_restore_1 : decode cX6_restore 1 = .ok (.getfield 43, 3) := by decide +kernel
theorem dX6_restore_4 : decode cX6_restore 4 = .ok (.ifCond .ne 6, 3) := by decide +kernel
theorem dX6_restore_7 : decode cX6_restore 7 = .ok (.bipush (-5), 2) := by decide +kernel
theorem dX6_restore_9 : decode cX6_restore 9 = .ok (.ireturn, 1) := by decide +kernel
theorem dX6_restore_10 : decode cX6_restore 10 = .ok (.aload_n 0, 1) := by decide +kernel
theorem dX6_restore_11 : decode cX6_restore 11 = .ok (.getfield 16, 3) := by decide +kernel
theorem dX6_restore_14 : decode cX6_restore 14 = .ok (.aload_n 0, 1) := by decide +kernel
theorem dX6_restore_15 : decode cX6_restore 15 = .ok (.getfield 19, 3) := by decide +kernel
theorem dX6_restore_18 : decode cX6_restore 18 = .ok (.invokevirtual 54, 3) := by decide +kernel
theorem dX6_restore_21 : decode cX6_restore 21 = .ok (.aload_n 0, 1) := by decide +kernel
theorem dX6_restore_22 : decode cX6_restore 22 = .ok (.aload_n 0, 1) := by decide +kernel
theorem dX6_restore_23 : decode cX6_restore 23 = .ok (.getfield 16, 3) := by decide +kernel
theorem dX6_restore_26 : decode cX6_restore 26 = .ok (.getfield 58, 3) := by decide +kernel
theorem dX6_restore_29 : decode cX6_restore 29 = .ok (.getfield 123, 3) := by decide +kernel
theorem dX6_restore_32 : decode cX6_restore 32 = .ok (.invokevirtual 68, 3) := by decide +kernel
theorem dX6_restore_35 : decode cX6_restore 35 = .ok (.ireturn, 1) := by decide +kernel
theorem dX6_runner_0 : decode cX6_runner 0 = .ok (.aload_n 0, 1) := by decide +kernel
theorem dX6_runner_1 : decode cX6_runner 1 = .ok (.getfield 12, 3) := by decide +kernel
theorem dX6_runner_4 : decode cX6_runner 4 = .ok (.getfield 58, 3) := by decide +kernel
theorem dX6_runner_7 : decode cX6_runner 7 = .ok (.astore_n 3, 1) := by decide +kernel
theorem dX6_runner_8 : decode cX6_runner 8 = .ok (.aload_n 3, 1) := by decide +kernel
theorem dX6_runner_9 : decode cX6_runner 9 = .ok (.iload_n 1, 1) := by decide +kernel
theorem dX6_runner_10 : decode cX6_runner 10 = .ok (.invokevirtual 126, 3) := by decide +kernel
theorem dX6_runner_13 : decode cX6_runner 13 = .ok (.ifCond .ne 5, 3) := by decide +kernel
theorem dX6_runner_16 : decode cX6_runner 16 = .ok (.iconst (-1), 1) := by decide +kernel
theorem dX6_runner_17 : decode cX6_runner 17 = .ok (.ireturn, 1) := by decide +kernel
theorem dX6_runner_18 : decode cX6_runner 18 = .ok (.iload_n 2, 1) := by decide +kernel
theorem dX6_runner_19 : decode cX6_runner 19 = .ok (.tableswitch 100 0 7 #[45, 52, 59, 66, 73, 80, 87, 94], 45) := by decide +kernel
theorem dX6_runner_64 : decode cX6_runner 64 = .ok (.aload_n 3, 1) := by decide +kernel
theorem dX6_runner_65 : decode cX6_runner 65 = .ok (.getfield 130, 3) := by decide +kernel
theorem dX6_runner_68 : decode cX6_runner 68 = .ok (.iload_n 1, 1) := by decide +kernel
theorem dX6_runner_69 : decode cX6_runner 69 = .ok (.iaload, 1) := by decide +kernel
theorem dX6_runner_70 : decode cX6_runner 70 = .ok (.ireturn, 1) := by decide +kernel
theorem dX6_runner_71 : decode cX6_runner 71 = .ok (.aload_n 3, 1) := by decide +kernel
theorem dX6_runner_72 : decode cX6_runner 72 = .ok (.getfield 133, 3) := by decide +kernel
theorem dX6_runner_75 : decode cX6_runner 75 = .ok (.iload_n 1, 1) := by decide +kernel
theorem dX6_runner_76 : decode cX6_runner 76 = .ok (.iaload, 1) := by decide +kernel
theorem dX6_runner_77 : decode cX6_runner 77 = .ok (.ireturn, 1) := by decide +kernel
theorem dX6_runner_78 : decode cX6_runner 78 = .ok (.aload_n 3, 1) := by decide +kernel
theorem dX6_runner_79 : decode cX6_runner 79 = .ok (.getfield 136, 3) := by decide +kernel
theorem dX6_runner_82 : decode cX6_runner 82 = .ok (.iload_n 1, 1) := by decide +kernel
theorem dX6_runner_83 : decode cX6_runner 83 = .ok (.iaload, 1) := by decide +kernel
theorem dX6_runner_84 : decode cX6_runner 84 = .ok (.ireturn, 1) := by decide +kernel
theorem dX6_runner_85 : decode cX6_runner 85 = .ok (.aload_n 3, 1) := by decide +kernel
theorem dX6_runner_86 : decode cX6_runner 86 = .ok (.getfield 139, 3) := by decide +kernel
theorem dX6_runner_89 : decode cX6_runner 89 = .ok (.iload_n 1, 1) := by decide +kernel
theorem dX6_runner_90 : decode cX6_runner 90 = .ok (.iaload, 1) := by decide +kernel
theorem dX6_runner_91 : decode cX6_runner 91 = .ok (.ireturn, 1) := by decide +kernel
theorem dX6_runner_92 : decode cX6_runner 92 = .ok (.aload_n 3, 1) := by decide +kernel
theorem dX6_runner_93 : decode cX6_runner 93 = .ok (.getfield 142, 3) := by decide +kernel
theorem dX6_runner_96 : decode cX6_runner 96 = .ok (.iload_n 1, 1) := by decide +kernel
theorem dX6_runner_97 : decode cX6_runner 97 = .ok (.iaload, 1) := by decide +kernel
theorem dX6_runner_98 : decode cX6_runner 98 = .ok (.ireturn, 1) := by decide +kernel
theorem dX6_runner_99 : decode cX6_runner 99 = .ok (.aload_n 3, 1) := by decide +kernel
theorem dX6_runner_100 : decode cX6_runner 100 = .ok (.getfield 145, 3) := by decide +kernel
theorem dX6_runner_103 : decode cX6_runner 103 = .ok (.iload_n 1, 1) := by decide +kernel
theorem dX6_runner_104 : decode cX6_runner 104 = .ok (.iaload, 1) := by decide +kernel
theorem dX6_runner_105 : decode cX6_runner 105 = .ok (.ireturn, 1) := by decide +kernel
theorem dX6_runner_106 : decode cX6_runner 106 = .ok (.aload_n 3, 1) := by decide +kernel
theorem dX6_runner_107 : decode cX6_runner 107 = .ok (.getfield 148, 3) := by decide +kernel
theorem dX6_runner_110 : decode cX6_runner 110 = .ok (.iload_n 1, 1) := by decide +kernel
theorem dX6_runner_111 : decode cX6_runner 111 = .ok (.iaload, 1) := by decide +kernel
theorem dX6_runner_112 : decode cX6_runner 112 = .ok (.ireturn, 1) := by decide +kernel
theorem dX6_runner_113 : decode cX6_runner 113 = .ok (.aload_n 0, 1) := by decide +kernel
theorem dX6_runner_114 : decode cX6_runner 114 = .ok (.iload_n 1, 1) := by decide +kernel
theorem dX6_runner_115 : decode cX6_runner 115 = .ok (.invokevirtual 151, 3) := by decide +kernel
theorem dX6_runner_118 : decode cX6_runner 118 = .ok (.ireturn, 1) := by decide +kernel
theorem dX6_runner_119 : decode cX6_runner 119 = .ok (.bipush (-2), 2) := by decide +kernel
theorem dX6_runner_121 : decode cX6_runner 121 = .ok (.ireturn, 1) := by decide +kernel
theorem dX6_lamp_0 : decode cX6_lamp 0 = .ok (.aload_n 0, 1) := by decide +kernel
theorem dX6_lamp_1 : decode cX6_lamp 1 = .ok (.getfield 12, 3) := by decide +kernel
theorem dX6_lamp_4 : decode cX6_lamp 4 = .ok (.getfield 75, 3) := by decide +kernel
theorem dX6_lamp_7 : decode cX6_lamp 7 = .ok (.astore_n 3, 1) := by decide +kernel
theorem dX6_lamp_8 : decode cX6_lamp 8 = .ok (.iload_n 1, 1) := by decide +kernel
theorem dX6_lamp_9 : decode cX6_lamp 9 = .ok (.invokestatic 154, 3) := by decide +kernel
theorem dX6_lamp_12 : decode cX6_lamp 12 = .ok (.ifCond .ne 5, 3) := by decide +kernel
theorem dX6_lamp_15 : decode cX6_lamp 15 = .ok (.iconst (-1), 1) := by decide +kernel
theorem dX6_lamp_16 : decode cX6_lamp 16 = .ok (.ireturn, 1) := by decide +kernel
theorem dX6_lamp_17 : decode cX6_lamp 17 = .ok (.iload_n 2, 1) := by decide +kernel
theorem dX6_lamp_18 : decode cX6_lamp 18 = .ok (.tableswitch 68 0 4 #[34, 41, 48, 55, 62], 34) := by decide +kernel
theorem dX6_lamp_52 : decode cX6_lamp 52 = .ok (.aload_n 3, 1) := by decide +kernel
theorem dX6_lamp_53 : decode cX6_lamp 53 = .ok (.getfield 157, 3) := by decide +kernel
theorem dX6_lamp_56 : decode cX6_lamp 56 = .ok (.iload_n 1, 1) := by decide +kernel
theorem dX6_lamp_57 : decode cX6_lamp 57 = .ok (.iaload, 1) := by decide +kernel
theorem dX6_lamp_58 : decode cX6_lamp 58 = .ok (.ireturn, 1) := by decide +kernel
theorem dX6_lamp_59 : decode cX6_lamp 59 = .ok (.aload_n 3, 1) := by decide +kernel
theorem dX6_lamp_60 : decode cX6_lamp 60 = .ok (.getfield 160, 3) := by decide +kernel
theorem dX6_lamp_63 : decode cX6_lamp 63 = .ok (.iload_n 1, 1) := by decide +kernel
theorem dX6_lamp_64 : decode cX6_lamp 64 = .ok (.iaload, 1) := by decide +kernel
theorem dX6_lamp_65 : decode cX6_lamp 65 = .ok (.ireturn, 1) := by decide +kernel
theorem dX6_lamp_66 : decode cX6_lamp 66 = .ok (.aload_n 3, 1) := by decide +kernel
theorem dX6_lamp_67 : decode cX6_lamp 67 = .ok (.getfield 163, 3) := by decide +kernel
theorem dX6_lamp_70 : decode cX6_lamp 70 = .ok (.iload_n 1, 1) := by decide +kernel
theorem dX6_lamp_71 : decode cX6_lamp 71 = .ok (.iaload, 1) := by decide +kernel
theorem dX6_lamp_72 : decode cX6_lamp 72 = .ok (.ireturn, 1) := by decide +kernel
theorem dX6_lamp_73 : decode cX6_lamp 73 = .ok (.aload_n 3, 1) := by decide +kernel
theorem dX6_lamp_74 : decode cX6_lamp 74 = .ok (.getfield 166, 3) := by decide +kernel
theorem dX6_lamp_77 : decode cX6_lamp 77 = .ok (.iload_n 1, 1) := by decide +kernel
theorem dX6_lamp_78 : decode cX6_lamp 78 = .ok (.iaload, 1) := by decide +kernel
theorem dX6_lamp_79 : decode cX6_lamp 79 = .ok (.ireturn, 1) := by decide +kernel
theorem dX6_lamp_80 : decode cX6_lamp 80 = .ok (.aload_n 0, 1) := by decide +kernel
theorem dX6_lamp_81 : decode cX6_lamp 81 = .ok (.iload_n 1, 1) := by decide +kernel
theorem dX6_lamp_82 : decode cX6_lamp 82 = .ok (.invokevirtual 169, 3) := by decide +kernel
theorem dX6_lamp_85 : decode cX6_lamp 85 = .ok (.ireturn, 1) := by decide +kernel
theorem dX6_lamp_86 : decode cX6_lamp 86 = .ok (.bipush (-2), 2) := by decide +kernel
theorem dX6_lamp_88 : decode cX6_lamp 88 = .ok (.ireturn, 1) := by decide +kernel
theorem dX6_shadow_0 : decode cX6_shadow 0 = .ok (.aload_n 0, 1) := by decide +kernel
theorem dX6_shadow_1 : decode cX6_shadow 1 = .ok (.getfield 12, 3) := by decide +kernel
theorem dX6_shadow_4 : decode cX6_shadow 4 = .ok (.getfield 58, 3) := by decide +kernel
theorem dX6_shadow_7 : decode cX6_shadow 7 = .ok (.iload_n 1, 1) := by decide +kernel
theorem dX6_shadow_8 : decode cX6_shadow 8 = .ok (.invokevirtual 126, 3) := by decide +kernel
theorem dX6_shadow_11 : decode cX6_shadow 11 = .ok (.ifCond .eq 10, 3) := by decide +kernel
theorem dX6_shadow_14 : decode cX6_shadow 14 = .ok (.iload_n 2, 1) := by decide +kernel
theorem dX6_shadow_15 : decode cX6_shadow 15 = .ok (.invokestatic 154, 3) := by decide +kernel
theorem dX6_shadow_18 : decode cX6_shadow 18 = .ok (.ifCond .ne 5, 3) := by decide +kernel
theorem dX6_shadow_21 : decode cX6_shadow 21 = .ok (.iconst (-1), 1) := by decide +kernel
theorem dX6_shadow_22 : decode cX6_shadow 22 = .ok (.ireturn, 1) := by decide +kernel
theorem dX6_shadow_23 : decode cX6_shadow 23 = .ok (.iload_n 3, 1) := by decide +kernel
theorem dX6_shadow_24 : decode cX6_shadow 24 = .ok (.tableswitch 68 0 2 #[28, 38, 48], 28) := by decide +kernel
theorem dX6_shadow_52 : decode cX6_shadow 52 = .ok (.aload_n 0, 1) := by decide +kernel
theorem dX6_shadow_53 : decode cX6_shadow 53 = .ok (.getfield 12, 3) := by decide +kernel
theorem dX6_shadow_56 : decode cX6_shadow 56 = .ok (.iload_n 1, 1) := by decide +kernel
theorem dX6_shadow_57 : decode cX6_shadow 57 = .ok (.iload_n 2, 1) := by decide +kernel
theorem dX6_shadow_58 : decode cX6_shadow 58 = .ok (.invokevirtual 172, 3) := by decide +kernel
theorem dX6_shadow_61 : decode cX6_shadow 61 = .ok (.ireturn, 1) := by decide +kernel
theorem dX6_shadow_62 : decode cX6_shadow 62 = .ok (.aload_n 0, 1) := by decide +kernel
theorem dX6_shadow_63 : decode cX6_shadow 63 = .ok (.getfield 12, 3) := by decide +kernel
theorem dX6_shadow_66 : decode cX6_shadow 66 = .ok (.iload_n 1, 1) := by decide +kernel
theorem dX6_shadow_67 : decode cX6_shadow 67 = .ok (.iload_n 2, 1) := by decide +kernel
theorem dX6_shadow_68 : decode cX6_shadow 68 = .ok (.invokevirtual 175, 3) := by decide +kernel
theorem dX6_shadow_71 : decode cX6_shadow 71 = .ok (.ireturn, 1) := by decide +kernel
theorem dX6_shadow_72 : decode cX6_shadow 72 = .ok (.aload_n 0, 1) := by decide +kernel
theorem dX6_shadow_73 : decode cX6_shadow 73 = .ok (.getfield 12, 3) := by decide +kernel
theorem dX6_shadow_76 : decode cX6_shadow 76 = .ok (.getfield 58, 3) := by decide +kernel
theorem dX6_shadow_79 : decode cX6_shadow 79 = .ok (.aload_n 0, 1) := by decide +kernel
theorem dX6_shadow_80 : decode cX6_shadow 80 = .ok (.getfield 12, 3) := by decide +kernel
theorem dX6_shadow_83 : decode cX6_shadow 83 = .ok (.iload_n 1, 1) := by decide +kernel
theorem dX6_shadow_84 : decode cX6_shadow 84 = .ok (.iload_n 2, 1) := by decide +kernel
theorem dX6_shadow_85 : decode cX6_shadow 85 = .ok (.invokevirtual 175, 3) := by decide +kernel
theorem dX6_shadow_88 : decode cX6_shadow 88 = .ok (.invokevirtual 178, 3) := by decide +kernel
theorem dX6_shadow_91 : decode cX6_shadow 91 = .ok (.ireturn, 1) := by decide +kernel
theorem dX6_shadow_92 : decode cX6_shadow 92 = .ok (.bipush (-2), 2) := by decide +kernel
theorem dX6_shadow_94 : decode cX6_shadow 94 = .ok (.ireturn, 1) := by decide +kernel
theorem dX6_darkness_0 : decode cX6_darkness 0 = .ok (.iload_n 1, 1) := by decide +kernel
theorem dX6_darkness_1 : decode cX6_darkness 1 = .ok (.invokestatic 181, 3) := by decide +kernel
theorem dX6_darkness_4 : decode cX6_darkness 4 = .ok (.ifCond .ne 5, 3) := by decide +kernel
theorem dX6_darkness_7 : decode cX6_darkness 7 = .ok (.iconst (-1), 1) := by decide +kernel
theorem dX6_darkness_8 : decode cX6_darkness 8 = .ok (.ireturn, 1) := by decide +kernel
theorem dX6_darkness_9 : decode cX6_darkness 9 = .ok (.iconst 0, 1) := by decide +kernel
theorem dX6_darkness_10 : decode cX6_darkness 10 = .ok (.istore_n 2, 1) := by decide +kernel
theorem dX6_darkness_11 : decode cX6_darkness 11 = .ok (.iconst 0, 1) := by decide +kernel
theorem dX6_darkness_12 : decode cX6_darkness 12 = .ok (.istore_n 3, 1) := by decide +kernel
theorem dX6_darkness_13 : decode cX6_darkness 13 = .ok (.iload_n 3, 1) := by decide +kernel
theorem dX6_darkness_14 : decode cX6_darkness 14 = .ok (.aload_n 0, 1) := by decide +kernel
theorem dX6_darkness_15 : decode cX6_darkness 15 = .ok (.getfield 12, 3) := by decide +kernel
theorem dX6_darkness_18 : decode cX6_darkness 18 = .ok (.getfield 58, 3) := by decide +kernel
theorem dX6_darkness_21 : decode cX6_darkness 21 = .ok (.getfield 123, 3) := by decide +kernel
theorem dX6_darkness_24 : decode cX6_darkness 24 = .ok (.if_icmp .ge 41, 3) := by decide +kernel
theorem dX6_darkness_27 : decode cX6_darkness 27 = .ok (.iconst 0, 1) := by decide +kernel
theorem dX6_darkness_28 : decode cX6_darkness 28 = .ok (.istore 4, 2) := by decide +kernel
theorem dX6_darkness_30 : decode cX6_darkness 30 = .ok (.iload 4, 2) := by decide +kernel
theorem dX6_darkness_32 : decode cX6_darkness 32 = .ok (.iconst 3, 1) := by decide +kernel
theorem dX6_darkness_33 : decode cX6_darkness 33 = .ok (.if_icmp .ge 26, 3) := by decide +kernel
theorem dX6_darkness_36 : decode cX6_darkness 36 = .ok (.aload_n 0, 1) := by decide +kernel
theorem dX6_darkness_37 : decode cX6_darkness 37 = .ok (.getfield 12, 3) := by decide +kernel
theorem dX6_darkness_40 : decode cX6_darkness 40 = .ok (.iload_n 1, 1) := by decide +kernel
theorem dX6_darkness_41 : decode cX6_darkness 41 = .ok (.iload_n 3, 1) := by decide +kernel
theorem dX6_darkness_42 : decode cX6_darkness 42 = .ok (.iload 4, 2) := by decide +kernel
theorem dX6_darkness_44 : decode cX6_darkness 44 = .ok (.invokevirtual 184, 3) := by decide +kernel
theorem dX6_darkness_47 : decode cX6_darkness 47 = .ok (.ifCond .eq 6, 3) := by decide +kernel
theorem dX6_darkness_50 : decode cX6_darkness 50 = .ok (.iinc 2 1, 3) := by decide +kernel
theorem dX6_darkness_53 : decode cX6_darkness 53 = .ok (.iinc 4 1, 3) := by decide +kernel
theorem dX6_darkness_56 : decode cX6_darkness 56 = .ok (.goto (-26), 3) := by decide +kernel
theorem dX6_darkness_59 : decode cX6_darkness 59 = .ok (.iinc 3 1, 3) := by decide +kernel
theorem dX6_darkness_62 : decode cX6_darkness 62 = .ok (.goto (-49), 3) := by decide +kernel
theorem dX6_darkness_65 : decode cX6_darkness 65 = .ok (.iload_n 2, 1) := by decide +kernel
theorem dX6_darkness_66 : decode cX6_darkness 66 = .ok (.ireturn, 1) := by decide +kernel
theorem dX6_looked_0 : decode cX6_looked 0 = .ok (.iload_n 1, 1) := by decide +kernel
theorem dX6_looked_1 : decode cX6_looked 1 = .ok (.invokestatic 181, 3) := by decide +kernel
theorem dX6_looked_4 : decode cX6_looked 4 = .ok (.ifCond .ne 5, 3) := by decide +kernel
theorem dX6_looked_7 : decode cX6_looked 7 = .ok (.iconst (-1), 1) := by decide +kernel
theorem dX6_looked_8 : decode cX6_looked 8 = .ok (.ireturn, 1) := by decide +kernel
theorem dX6_looked_9 : decode cX6_looked 9 = .ok (.iconst 0, 1) := by decide +kernel
theorem dX6_looked_10 : decode cX6_looked 10 = .ok (.istore_n 2, 1) := by decide +kernel
theorem dX6_looked_11 : decode cX6_looked 11 = .ok (.iconst 0, 1) := by decide +kernel
theorem dX6_looked_12 : decode cX6_looked 12 = .ok (.istore_n 3, 1) := by decide +kernel
theorem dX6_looked_13 : decode cX6_looked 13 = .ok (.iload_n 3, 1) := by decide +kernel
theorem dX6_looked_14 : decode cX6_looked 14 = .ok (.iconst 3, 1) := by decide +kernel
theorem dX6_looked_15 : decode cX6_looked 15 = .ok (.if_icmp .ge 26, 3) := by decide +kernel
theorem dX6_looked_18 : decode cX6_looked 18 = .ok (.aload_n 0, 1) := by decide +kernel
theorem dX6_looked_19 : decode cX6_looked 19 = .ok (.getfield 12, 3) := by decide +kernel
theorem dX6_looked_22 : decode cX6_looked 22 = .ok (.iload_n 1, 1) := by decide +kernel
theorem dX6_looked_23 : decode cX6_looked 23 = .ok (.iload_n 3, 1) := by decide +kernel
theorem dX6_looked_24 : decode cX6_looked 24 = .ok (.invokevirtual 188, 3) := by decide +kernel
theorem dX6_looked_27 : decode cX6_looked 27 = .ok (.bipush (-5), 2) := by decide +kernel
theorem dX6_looked_29 : decode cX6_looked 29 = .ok (.if_icmp .eq 6, 3) := by decide +kernel
theorem dX6_looked_32 : decode cX6_looked 32 = .ok (.iinc 2 1, 3) := by decide +kernel
theorem dX6_looked_35 : decode cX6_looked 35 = .ok (.iinc 3 1, 3) := by decide +kernel
theorem dX6_looked_38 : decode cX6_looked 38 = .ok (.goto (-25), 3) := by decide +kernel
theorem dX6_looked_41 : decode cX6_looked 41 = .ok (.iload_n 2, 1) := by decide +kernel
theorem dX6_looked_42 : decode cX6_looked 42 = .ok (.ireturn, 1) := by decide +kernel
theorem dX6_at_0 : decode cX6_at 0 = .ok (.iload_n 1, 1) := by decide +kernel
theorem dX6_at_1 : decode cX6_at 1 = .ok (.invokestatic 181, 3) := by decide +kernel
theorem dX6_at_4 : decode cX6_at 4 = .ok (.ifCond .eq 17, 3) := by decide +kernel
theorem dX6_at_7 : decode cX6_at 7 = .ok (.aload_n 0, 1) := by decide +kernel
theorem dX6_at_8 : decode cX6_at 8 = .ok (.getfield 12, 3) := by decide +kernel
theorem dX6_at_11 : decode cX6_at 11 = .ok (.getfield 58, 3) := by decide +kernel
theorem dX6_at_14 : decode cX6_at 14 = .ok (.iload_n 1, 1) := by decide +kernel
theorem dX6_at_15 : decode cX6_at 15 = .ok (.invokevirtual 178, 3) := by decide +kernel
theorem dX6_at_18 : decode cX6_at 18 = .ok (.goto 4, 3) := by decide +kernel
theorem dX6_at_21 : decode cX6_at 21 = .ok (.iconst (-1), 1) := by decide +kernel
theorem dX6_at_22 : decode cX6_at 22 = .ok (.ireturn, 1) := by decide +kernel
theorem dX6_reason_0 : decode cX6_reason 0 = .ok (.aload_n 0, 1) := by decide +kernel
theorem dX6_reason_1 : decode cX6_reason 1 = .ok (.getfield 12, 3) := by decide +kernel
theorem dX6_reason_4 : decode cX6_reason 4 = .ok (.getfield 58, 3) := by decide +kernel
theorem dX6_reason_7 : decode cX6_reason 7 = .ok (.astore_n 2, 1) := by decide +kernel
theorem dX6_reason_8 : decode cX6_reason 8 = .ok (.aload_n 2, 1) := by decide +kernel
theorem dX6_reason_9 : decode cX6_reason 9 = .ok (.iload_n 1, 1) := by decide +kernel
theorem dX6_reason_10 : decode cX6_reason 10 = .ok (.invokevirtual 126, 3) := by decide +kernel
theorem dX6_reason_13 : decode cX6_reason 13 = .ok (.ifCond .ne 5, 3) := by decide +kernel
theorem dX6_reason_16 : decode cX6_reason 16 = .ok (.iconst (-1), 1) := by decide +kernel
theorem dX6_reason_17 : decode cX6_reason 17 = .ok (.ireturn, 1) := by decide +kernel
theorem dX6_reason_18 : decode cX6_reason 18 = .ok (.iload_n 1, 1) := by decide +kernel
theorem dX6_reason_19 : decode cX6_reason 19 = .ok (.aload_n 2, 1) := by decide +kernel
theorem dX6_reason_20 : decode cX6_reason 20 = .ok (.getfield 191, 3) := by decide +kernel
theorem dX6_reason_23 : decode cX6_reason 23 = .ok (.if_icmp .ne 5, 3) := by decide +kernel
theorem dX6_reason_26 : decode cX6_reason 26 = .ok (.iconst 1, 1) := by decide +kernel
theorem dX6_reason_27 : decode cX6_reason 27 = .ok (.ireturn, 1) := by decide +kernel
theorem dX6_reason_28 : decode cX6_reason 28 = .ok (.aload_n 0, 1) := by decide +kernel
theorem dX6_reason_29 : decode cX6_reason 29 = .ok (.getfield 12, 3) := by decide +kernel
theorem dX6_reason_32 : decode cX6_reason 32 = .ok (.iload_n 1, 1) := by decide +kernel
theorem dX6_reason_33 : decode cX6_reason 33 = .ok (.invokevirtual 194, 3) := by decide +kernel
theorem dX6_reason_36 : decode cX6_reason 36 = .ok (.ifCond .ne 5, 3) := by decide +kernel
theorem dX6_reason_39 : decode cX6_reason 39 = .ok (.iconst 2, 1) := by decide +kernel
theorem dX6_reason_40 : decode cX6_reason 40 = .ok (.ireturn, 1) := by decide +kernel
theorem dX6_reason_41 : decode cX6_reason 41 = .ok (.aload_n 2, 1) := by decide +kernel
theorem dX6_reason_42 : decode cX6_reason 42 = .ok (.getfield 139, 3) := by decide +kernel
theorem dX6_reason_45 : decode cX6_reason 45 = .ok (.iload_n 1, 1) := by decide +kernel
theorem dX6_reason_46 : decode cX6_reason 46 = .ok (.iaload, 1) := by decide +kernel
theorem dX6_reason_47 : decode cX6_reason 47 = .ok (.ifCond .eq 5, 3) := by decide +kernel
theorem dX6_reason_50 : decode cX6_reason 50 = .ok (.iconst 3, 1) := by decide +kernel
theorem dX6_reason_51 : decode cX6_reason 51 = .ok (.ireturn, 1) := by decide +kernel
theorem dX6_reason_52 : decode cX6_reason 52 = .ok (.aload_n 0, 1) := by decide +kernel
theorem dX6_reason_53 : decode cX6_reason 53 = .ok (.getfield 12, 3) := by decide +kernel
theorem dX6_reason_56 : decode cX6_reason 56 = .ok (.iload_n 1, 1) := by decide +kernel
theorem dX6_reason_57 : decode cX6_reason 57 = .ok (.invokevirtual 197, 3) := by decide +kernel
theorem dX6_reason_60 : decode cX6_reason 60 = .ok (.ifCond .ne 5, 3) := by decide +kernel
theorem dX6_reason_63 : decode cX6_reason 63 = .ok (.iconst 4, 1) := by decide +kernel
theorem dX6_reason_64 : decode cX6_reason 64 = .ok (.ireturn, 1) := by decide +kernel
theorem dX6_reason_65 : decode cX6_reason 65 = .ok (.aload_n 0, 1) := by decide +kernel
theorem dX6_reason_66 : decode cX6_reason 66 = .ok (.getfield 12, 3) := by decide +kernel
theorem dX6_reason_69 : decode cX6_reason 69 = .ok (.invokevirtual 200, 3) := by decide +kernel
theorem dX6_reason_72 : decode cX6_reason 72 = .ok (.iload_n 1, 1) := by decide +kernel
theorem dX6_reason_73 : decode cX6_reason 73 = .ok (.if_icmp .ne 7, 3) := by decide +kernel
theorem dX6_reason_76 : decode cX6_reason 76 = .ok (.iconst 0, 1) := by decide +kernel
theorem dX6_reason_77 : decode cX6_reason 77 = .ok (.goto 4, 3) := by decide +kernel
theorem dX6_reason_80 : decode cX6_reason 80 = .ok (.iconst 5, 1) := by decide +kernel
theorem dX6_reason_81 : decode cX6_reason 81 = .ok (.ireturn, 1) := by decide +kernel
theorem dX6_stepsTo_0 : decode cX6_stepsTo 0 = .ok (.aload_n 0, 1) := by decide +kernel
theorem dX6_stepsTo_1 : decode cX6_stepsTo 1 = .ok (.getfield 12, 3) := by decide +kernel
theorem dX6_stepsTo_4 : decode cX6_stepsTo 4 = .ok (.getfield 58, 3) := by decide +kernel
theorem dX6_stepsTo_7 : decode cX6_stepsTo 7 = .ok (.astore_n 2, 1) := by decide +kernel
theorem dX6_stepsTo_8 : decode cX6_stepsTo 8 = .ok (.aload_n 2, 1) := by decide +kernel
theorem dX6_stepsTo_9 : decode cX6_stepsTo 9 = .ok (.getfield 191, 3) := by decide +kernel
theorem dX6_stepsTo_12 : decode cX6_stepsTo 12 = .ok (.istore_n 3, 1) := by decide +kernel
theorem dX6_stepsTo_13 : decode cX6_stepsTo 13 = .ok (.aload_n 2, 1) := by decide +kernel
theorem dX6_stepsTo_14 : decode cX6_stepsTo 14 = .ok (.iload_n 1, 1) := by decide +kernel
theorem dX6_stepsTo_15 : decode cX6_stepsTo 15 = .ok (.invokevirtual 126, 3) := by decide +kernel
theorem dX6_stepsTo_18 : decode cX6_stepsTo 18 = .ok (.ifCond .eq 11, 3) := by decide +kernel
theorem dX6_stepsTo_21 : decode cX6_stepsTo 21 = .ok (.aload_n 2, 1) := by decide +kernel
theorem dX6_stepsTo_22 : decode cX6_stepsTo 22 = .ok (.iload_n 3, 1) := by decide +kernel
theorem dX6_stepsTo_23 : decode cX6_stepsTo 23 = .ok (.invokevirtual 126, 3) := by decide +kernel
theorem dX6_stepsTo_26 : decode cX6_stepsTo 26 = .ok (.ifCond .ne 5, 3) := by decide +kernel
theorem dX6_stepsTo_29 : decode cX6_stepsTo 29 = .ok (.iconst (-1), 1) := by decide +kernel
theorem dX6_stepsTo_30 : decode cX6_stepsTo 30 = .ok (.ireturn, 1) := by decide +kernel
theorem dX6_stepsTo_31 : decode cX6_stepsTo 31 = .ok (.iload_n 1, 1) := by decide +kernel
theorem dX6_stepsTo_32 : decode cX6_stepsTo 32 = .ok (.iload_n 3, 1) := by decide +kernel
theorem dX6_stepsTo_33 : decode cX6_stepsTo 33 = .ok (.if_icmp .eq 23, 3) := by decide +kernel
theorem dX6_stepsTo_36 : decode cX6_stepsTo 36 = .ok (.aload_n 2, 1) := by decide +kernel
theorem dX6_stepsTo_37 : decode cX6_stepsTo 37 = .ok (.getfield 139, 3) := by decide +kernel
theorem dX6_stepsTo_40 : decode cX6_stepsTo 40 = .ok (.iload_n 1, 1) := by decide +kernel
theorem dX6_stepsTo_41 : decode cX6_stepsTo 41 = .ok (.iaload, 1) := by decide +kernel
theorem dX6_stepsTo_42 : decode cX6_stepsTo 42 = .ok (.ifCond .ne 14, 3) := by decide +kernel
theorem dX6_stepsTo_45 : decode cX6_stepsTo 45 = .ok (.aload_n 0, 1) := by decide +kernel
theorem dX6_stepsTo_46 : decode cX6_stepsTo 46 = .ok (.getfield 12, 3) := by decide +kernel
theorem dX6_stepsTo_49 : decode cX6_stepsTo 49 = .ok (.iload_n 1, 1) := by decide +kernel
theorem dX6_stepsTo_50 : decode cX6_stepsTo 50 = .ok (.invokevirtual 194, 3) := by decide +kernel
theorem dX6_stepsTo_53 : decode cX6_stepsTo 53 = .ok (.ifCond .ne 6, 3) := by decide +kernel
theorem dX6_stepsTo_56 : decode cX6_stepsTo 56 = .ok (.bipush (-4), 2) := by decide +kernel
theorem dX6_stepsTo_58 : decode cX6_stepsTo 58 = .ok (.ireturn, 1) := by decide +kernel
theorem dX6_stepsTo_59 : decode cX6_stepsTo 59 = .ok (.aload_n 0, 1) := by decide +kernel
theorem dX6_stepsTo_60 : decode cX6_stepsTo 60 = .ok (.getfield 39, 3) := by decide +kernel
theorem dX6_stepsTo_63 : decode cX6_stepsTo 63 = .ok (.invokevirtual 203, 3) := by decide +kernel
theorem dX6_stepsTo_66 : decode cX6_stepsTo 66 = .ok (.aload_n 0, 1) := by decide +kernel
theorem dX6_stepsTo_67 : decode cX6_stepsTo 67 = .ok (.getfield 12, 3) := by decide +kernel
theorem dX6_stepsTo_70 : decode cX6_stepsTo 70 = .ok (.iload_n 1, 1) := by decide +kernel
theorem dX6_stepsTo_71 : decode cX6_stepsTo 71 = .ok (.aload_n 0, 1) := by decide +kernel
theorem dX6_stepsTo_72 : decode cX6_stepsTo 72 = .ok (.getfield 39, 3) := by decide +kernel
theorem dX6_stepsTo_75 : decode cX6_stepsTo 75 = .ok (.invokevirtual 205, 3) := by decide +kernel
theorem dX6_stepsTo_78 : decode cX6_stepsTo 78 = .ok (.iconst 0, 1) := by decide +kernel
theorem dX6_stepsTo_79 : decode cX6_stepsTo 79 = .ok (.istore 4, 2) := by decide +kernel
theorem dX6_stepsTo_81 : decode cX6_stepsTo 81 = .ok (.iload 4, 2) := by decide +kernel
theorem dX6_stepsTo_83 : decode cX6_stepsTo 83 = .ok (.aload_n 2, 1) := by decide +kernel
theorem dX6_stepsTo_84 : decode cX6_stepsTo 84 = .ok (.getfield 123, 3) := by decide +kernel
theorem dX6_stepsTo_87 : decode cX6_stepsTo 87 = .ok (.if_icmp .ge 29, 3) := by decide +kernel
theorem dX6_stepsTo_90 : decode cX6_stepsTo 90 = .ok (.iload 4, 2) := by decide +kernel
theorem dX6_stepsTo_92 : decode cX6_stepsTo 92 = .ok (.iload_n 3, 1) := by decide +kernel
theorem dX6_stepsTo_93 : decode cX6_stepsTo 93 = .ok (.if_icmp .eq 17, 3) := by decide +kernel
theorem dX6_stepsTo_96 : decode cX6_stepsTo 96 = .ok (.aload_n 0, 1) := by decide +kernel
theorem dX6_stepsTo_97 : decode cX6_stepsTo 97 = .ok (.getfield 39, 3) := by decide +kernel
theorem dX6_stepsTo_100 : decode cX6_stepsTo 100 = .ok (.aload_n 2, 1) := by decide +kernel
theorem dX6_stepsTo_101 : decode cX6_stepsTo 101 = .ok (.getfield 130, 3) := by decide +kernel
theorem dX6_stepsTo_104 : decode cX6_stepsTo 104 = .ok (.iload 4, 2) := by decide +kernel
theorem dX6_stepsTo_106 : decode cX6_stepsTo 106 = .ok (.iaload, 1) := by decide +kernel
theorem dX6_stepsTo_107 : decode cX6_stepsTo 107 = .ok (.invokevirtual 209, 3) := by decide +kernel
theorem dX6_stepsTo_110 : decode cX6_stepsTo 110 = .ok (.iinc 4 1, 3) := by decide +kernel
theorem dX6_stepsTo_113 : decode cX6_stepsTo 113 = .ok (.goto (-32), 3) := by decide +kernel
theorem dX6_stepsTo_116 : decode cX6_stepsTo 116 = .ok (.aload_n 0, 1) := by decide +kernel
theorem dX6_stepsTo_117 : decode cX6_stepsTo 117 = .ok (.getfield 39, 3) := by decide +kernel
theorem dX6_stepsTo_120 : decode cX6_stepsTo 120 = .ok (.aload_n 2, 1) := by decide +kernel
theorem dX6_stepsTo_121 : decode cX6_stepsTo 121 = .ok (.getfield 130, 3) := by decide +kernel
theorem dX6_stepsTo_124 : decode cX6_stepsTo 124 = .ok (.iload_n 3, 1) := by decide +kernel
theorem dX6_stepsTo_125 : decode cX6_stepsTo 125 = .ok (.iaload, 1) := by decide +kernel
theorem dX6_stepsTo_126 : decode cX6_stepsTo 126 = .ok (.invokevirtual 213, 3) := by decide +kernel
theorem dX6_stepsTo_129 : decode cX6_stepsTo 129 = .ok (.ireturn, 1) := by decide +kernel
theorem dX6_safest_0 : decode cX6_safest 0 = .ok (.aload_n 0, 1) := by decide +kernel
theorem dX6_safest_1 : decode cX6_safest 1 = .ok (.getfield 12, 3) := by decide +kernel
theorem dX6_safest_4 : decode cX6_safest 4 = .ok (.getfield 58, 3) := by decide +kernel
theorem dX6_safest_7 : decode cX6_safest 7 = .ok (.astore_n 1, 1) := by decide +kernel
theorem dX6_safest_8 : decode cX6_safest 8 = .ok (.aload_n 1, 1) := by decide +kernel
theorem dX6_safest_9 : decode cX6_safest 9 = .ok (.getfield 123, 3) := by decide +kernel
theorem dX6_safest_12 : decode cX6_safest 12 = .ok (.iconst 2, 1) := by decide +kernel
theorem dX6_safest_13 : decode cX6_safest 13 = .ok (.if_icmp .ge 6, 3) := by decide +kernel
theorem dX6_safest_16 : decode cX6_safest 16 = .ok (.bipush (-5), 2) := by decide +kernel
theorem dX6_safest_18 : decode cX6_safest 18 = .ok (.ireturn, 1) := by decide +kernel
theorem dX6_safest_19 : decode cX6_safest 19 = .ok (.bipush (-5), 2) := by decide +kernel
theorem dX6_safest_21 : decode cX6_safest 21 = .ok (.istore_n 2, 1) := by decide +kernel
theorem dX6_safest_22 : decode cX6_safest 22 = .ok (.iconst (-1), 1) := by decide +kernel
theorem dX6_safest_23 : decode cX6_safest 23 = .ok (.istore_n 3, 1) := by decide +kernel
theorem dX6_safest_24 : decode cX6_safest 24 = .ok (.iconst 0, 1) := by decide +kernel
theorem dX6_safest_25 : decode cX6_safest 25 = .ok (.istore 4, 2) := by decide +kernel
theorem dX6_safest_27 : decode cX6_safest 27 = .ok (.iload 4, 2) := by decide +kernel
theorem dX6_safest_29 : decode cX6_safest 29 = .ok (.aload_n 1, 1) := by decide +kernel
theorem dX6_safest_30 : decode cX6_safest 30 = .ok (.getfield 123, 3) := by decide +kernel
theorem dX6_safest_33 : decode cX6_safest 33 = .ok (.if_icmp .ge 42, 3) := by decide +kernel
theorem dX6_safest_36 : decode cX6_safest 36 = .ok (.iload 4, 2) := by decide +kernel
theorem dX6_safest_38 : decode cX6_safest 38 = .ok (.aload_n 1, 1) := by decide +kernel
theorem dX6_safest_39 : decode cX6_safest 39 = .ok (.getfield 191, 3) := by decide +kernel
theorem dX6_safest_42 : decode cX6_safest 42 = .ok (.if_icmp .ne 7, 3) := by decide +kernel
theorem dX6_safest_45 : decode cX6_safest 45 = .ok (.iconst (-1), 1) := by decide +kernel
theorem dX6_safest_46 : decode cX6_safest 46 = .ok (.goto 9, 3) := by decide +kernel
theorem dX6_safest_49 : decode cX6_safest 49 = .ok (.aload_n 0, 1) := by decide +kernel
theorem dX6_safest_50 : decode cX6_safest 50 = .ok (.iload 4, 2) := by decide +kernel
theorem dX6_safest_52 : decode cX6_safest 52 = .ok (.invokevirtual 216, 3) := by decide +kernel
theorem dX6_safest_55 : decode cX6_safest 55 = .ok (.istore 5, 2) := by decide +kernel
theorem dX6_safest_57 : decode cX6_safest 57 = .ok (.iload 5, 2) := by decide +kernel
theorem dX6_safest_59 : decode cX6_safest 59 = .ok (.iload_n 3, 1) := by decide +kernel
theorem dX6_safest_60 : decode cX6_safest 60 = .ok (.if_icmp .le 9, 3) := by decide +kernel
theorem dX6_safest_63 : decode cX6_safest 63 = .ok (.iload 4, 2) := by decide +kernel
theorem dX6_safest_65 : decode cX6_safest 65 = .ok (.istore_n 2, 1) := by decide +kernel
theorem dX6_safest_66 : decode cX6_safest 66 = .ok (.iload 5, 2) := by decide +kernel
theorem dX6_safest_68 : decode cX6_safest 68 = .ok (.istore_n 3, 1) := by decide +kernel
theorem dX6_safest_69 : decode cX6_safest 69 = .ok (.iinc 4 1, 3) := by decide +kernel
theorem dX6_safest_72 : decode cX6_safest 72 = .ok (.goto (-45), 3) := by decide +kernel
theorem dX6_safest_75 : decode cX6_safest 75 = .ok (.iload_n 2, 1) := by decide +kernel
theorem dX6_safest_76 : decode cX6_safest 76 = .ok (.ireturn, 1) := by decide +kernel
theorem dX6_ifTurns_0 : decode cX6_ifTurns 0 = .ok (.iload_n 1, 1) := by decide +kernel
theorem dX6_ifTurns_1 : decode cX6_ifTurns 1 = .ok (.iconst 1, 1) := by decide +kernel
theorem dX6_ifTurns_2 : decode cX6_ifTurns 2 = .ok (.if_icmp .lt 18, 3) := by decide +kernel
theorem dX6_ifTurns_5 : decode cX6_ifTurns 5 = .ok (.iload_n 1, 1) := by decide +kernel
theorem dX6_ifTurns_6 : decode cX6_ifTurns 6 = .ok (.bipush 99, 2) := by decide +kernel
theorem dX6_ifTurns_8 : decode cX6_ifTurns 8 = .ok (.if_icmp .gt 12, 3) := by decide +kernel
theorem dX6_ifTurns_11 : decode cX6_ifTurns 11 = .ok (.iload_n 2, 1) := by decide +kernel
theorem dX6_ifTurns_12 : decode cX6_ifTurns 12 = .ok (.ifCond .lt 8, 3) := by decide +kernel
theorem dX6_ifTurns_15 : decode cX6_ifTurns 15 = .ok (.iload_n 2, 1) := by decide +kernel
theorem dX6_ifTurns_16 : decode cX6_ifTurns 16 = .ok (.iconst 2, 1) := by decide +kernel
theorem dX6_ifTurns_17 : decode cX6_ifTurns 17 = .ok (.if_icmp .le 6, 3) := by decide +kernel
theorem dX6_ifTurns_20 : decode cX6_ifTurns 20 = .ok (.bipush (-2), 2) := by decide +kernel
theorem dX6_ifTurns_22 : decode cX6_ifTurns 22 = .ok (.ireturn, 1) := by decide +kernel
theorem dX6_ifTurns_23 : decode cX6_ifTurns 23 = .ok (.aload_n 0, 1) := by decide +kernel
theorem dX6_ifTurns_24 : decode cX6_ifTurns 24 = .ok (.getfield 16, 3) := by decide +kernel
theorem dX6_ifTurns_27 : decode cX6_ifTurns 27 = .ok (.aload_n 0, 1) := by decide +kernel
theorem dX6_ifTurns_28 : decode cX6_ifTurns 28 = .ok (.getfield 12, 3) := by decide +kernel
theorem dX6_ifTurns_31 : decode cX6_ifTurns 31 = .ok (.invokevirtual 54, 3) := by decide +kernel
theorem dX6_ifTurns_34 : decode cX6_ifTurns 34 = .ok (.iconst 0, 1) := by decide +kernel
theorem dX6_ifTurns_35 : decode cX6_ifTurns 35 = .ok (.istore_n 3, 1) := by decide +kernel
theorem dX6_ifTurns_36 : decode cX6_ifTurns 36 = .ok (.bipush (-5), 2) := by decide +kernel
theorem dX6_ifTurns_38 : decode cX6_ifTurns 38 = .ok (.istore 4, 2) := by decide +kernel
theorem dX6_ifTurns_40 : decode cX6_ifTurns 40 = .ok (.iconst 1, 1) := by decide +kernel
theorem dX6_ifTurns_41 : decode cX6_ifTurns 41 = .ok (.istore 5, 2) := by decide +kernel
theorem dX6_ifTurns_43 : decode cX6_ifTurns 43 = .ok (.iload 5, 2) := by decide +kernel
theorem dX6_ifTurns_45 : decode cX6_ifTurns 45 = .ok (.iload_n 1, 1) := by decide +kernel
theorem dX6_ifTurns_46 : decode cX6_ifTurns 46 = .ok (.if_icmp .gt 38, 3) := by decide +kernel
theorem dX6_ifTurns_49 : decode cX6_ifTurns 49 = .ok (.aload_n 0, 1) := by decide +kernel
theorem dX6_ifTurns_50 : decode cX6_ifTurns 50 = .ok (.getfield 16, 3) := by decide +kernel
theorem dX6_ifTurns_53 : decode cX6_ifTurns 53 = .ok (.invokevirtual 219, 3) := by decide +kernel
theorem dX6_ifTurns_56 : decode cX6_ifTurns 56 = .ok (.ifCond .eq 22, 3) := by decide +kernel
theorem dX6_ifTurns_59 : decode cX6_ifTurns 59 = .ok (.iinc 3 1, 3) := by decide +kernel
theorem dX6_ifTurns_62 : decode cX6_ifTurns 62 = .ok (.iload 4, 2) := by decide +kernel
theorem dX6_ifTurns_64 : decode cX6_ifTurns 64 = .ok (.bipush (-5), 2) := by decide +kernel
theorem dX6_ifTurns_66 : decode cX6_ifTurns 66 = .ok (.if_icmp .ne 8, 3) := by decide +kernel
theorem dX6_ifTurns_69 : decode cX6_ifTurns 69 = .ok (.iload 5, 2) := by decide +kernel
theorem dX6_ifTurns_71 : decode cX6_ifTurns 71 = .ok (.goto 5, 3) := by decide +kernel
theorem dX6_ifTurns_74 : decode cX6_ifTurns 74 = .ok (.iload 4, 2) := by decide +kernel
theorem dX6_ifTurns_76 : decode cX6_ifTurns 76 = .ok (.istore 4, 2) := by decide +kernel
theorem dX6_ifTurns_78 : decode cX6_ifTurns 78 = .ok (.iinc 5 1, 3) := by decide +kernel
theorem dX6_ifTurns_81 : decode cX6_ifTurns 81 = .ok (.goto (-38), 3) := by decide +kernel
theorem dX6_ifTurns_84 : decode cX6_ifTurns 84 = .ok (.iload_n 2, 1) := by decide +kernel
theorem dX6_ifTurns_85 : decode cX6_ifTurns 85 = .ok (.lookupswitch 40 #[(0, 27), (1, 29)], 27) := by decide +kernel
theorem dX6_ifTurns_112 : decode cX6_ifTurns 112 = .ok (.iload_n 3, 1) := by decide +kernel
theorem dX6_ifTurns_113 : decode cX6_ifTurns 113 = .ok (.ireturn, 1) := by decide +kernel
theorem dX6_ifTurns_114 : decode cX6_ifTurns 114 = .ok (.aload_n 0, 1) := by decide +kernel
theorem dX6_ifTurns_115 : decode cX6_ifTurns 115 = .ok (.getfield 16, 3) := by decide +kernel
theorem dX6_ifTurns_118 : decode cX6_ifTurns 118 = .ok (.getfield 58, 3) := by decide +kernel
theorem dX6_ifTurns_121 : decode cX6_ifTurns 121 = .ok (.getfield 191, 3) := by decide +kernel
theorem dX6_ifTurns_124 : decode cX6_ifTurns 124 = .ok (.ireturn, 1) := by decide +kernel
theorem dX6_ifTurns_125 : decode cX6_ifTurns 125 = .ok (.iload 4, 2) := by decide +kernel
theorem dX6_ifTurns_127 : decode cX6_ifTurns 127 = .ok (.ireturn, 1) := by decide +kernel
theorem dX6_count_0 : decode cX6_count 0 = .ok (.iload_n 1, 1) := by decide +kernel
theorem dX6_count_1 : decode cX6_count 1 = .ok (.tableswitch 202 0 13 #[71, 79, 90, 101, 112, 117, 125, 136, 147, 158, 166, 176, 186, 194], 71) := by decide +kernel
theorem dX6_count_72 : decode cX6_count 72 = .ok (.aload_n 0, 1) := by decide +kernel
theorem dX6_count_73 : decode cX6_count 73 = .ok (.getfield 12, 3) := by decide +kernel
theorem dX6_count_76 : decode cX6_count 76 = .ok (.getfield 223, 3) := by decide +kernel
theorem dX6_count_79 : decode cX6_count 79 = .ok (.ireturn, 1) := by decide +kernel
theorem dX6_count_80 : decode cX6_count 80 = .ok (.aload_n 0, 1) := by decide +kernel
theorem dX6_count_81 : decode cX6_count 81 = .ok (.getfield 12, 3) := by decide +kernel
theorem dX6_count_84 : decode cX6_count 84 = .ok (.getfield 58, 3) := by decide +kernel
theorem dX6_count_87 : decode cX6_count 87 = .ok (.getfield 123, 3) := by decide +kernel
theorem dX6_count_90 : decode cX6_count 90 = .ok (.ireturn, 1) := by decide +kernel
theorem dX6_count_91 : decode cX6_count 91 = .ok (.aload_n 0, 1) := by decide +kernel
theorem dX6_count_92 : decode cX6_count 92 = .ok (.getfield 12, 3) := by decide +kernel
theorem dX6_count_95 : decode cX6_count 95 = .ok (.getfield 58, 3) := by decide +kernel
theorem dX6_count_98 : decode cX6_count 98 = .ok (.getfield 191, 3) := by decide +kernel
theorem dX6_count_101 : decode cX6_count 101 = .ok (.ireturn, 1) := by decide +kernel
theorem dX6_count_102 : decode cX6_count 102 = .ok (.aload_n 0, 1) := by decide +kernel
theorem dX6_count_103 : decode cX6_count 103 = .ok (.getfield 12, 3) := by decide +kernel
theorem dX6_count_106 : decode cX6_count 106 = .ok (.getfield 75, 3) := by decide +kernel
theorem dX6_count_109 : decode cX6_count 109 = .ok (.invokevirtual 226, 3) := by decide +kernel
theorem dX6_count_112 : decode cX6_count 112 = .ok (.ireturn, 1) := by decide +kernel
theorem dX6_count_113 : decode cX6_count 113 = .ok (.aload_n 0, 1) := by decide +kernel
theorem dX6_count_114 : decode cX6_count 114 = .ok (.invokevirtual 229, 3) := by decide +kernel
theorem dX6_count_117 : decode cX6_count 117 = .ok (.ireturn, 1) := by decide +kernel
theorem dX6_count_118 : decode cX6_count 118 = .ok (.aload_n 0, 1) := by decide +kernel
theorem dX6_count_119 : decode cX6_count 119 = .ok (.getfield 12, 3) := by decide +kernel
theorem dX6_count_122 : decode cX6_count 122 = .ok (.invokevirtual 232, 3) := by decide +kernel
theorem dX6_count_125 : decode cX6_count 125 = .ok (.ireturn, 1) := by decide +kernel
theorem dX6_count_126 : decode cX6_count 126 = .ok (.aload_n 0, 1) := by decide +kernel
theorem dX6_count_127 : decode cX6_count 127 = .ok (.getfield 12, 3) := by decide +kernel
theorem dX6_count_130 : decode cX6_count 130 = .ok (.getfield 58, 3) := by decide +kernel
theorem dX6_count_133 : decode cX6_count 133 = .ok (.getfield 235, 3) := by decide +kernel
theorem dX6_count_136 : decode cX6_count 136 = .ok (.ireturn, 1) := by decide +kernel
theorem dX6_count_137 : decode cX6_count 137 = .ok (.aload_n 0, 1) := by decide +kernel
theorem dX6_count_138 : decode cX6_count 138 = .ok (.getfield 12, 3) := by decide +kernel
theorem dX6_count_141 : decode cX6_count 141 = .ok (.getfield 58, 3) := by decide +kernel
theorem dX6_count_144 : decode cX6_count 144 = .ok (.getfield 238, 3) := by decide +kernel
theorem dX6_count_147 : decode cX6_count 147 = .ok (.ireturn, 1) := by decide +kernel
theorem dX6_count_148 : decode cX6_count 148 = .ok (.aload_n 0, 1) := by decide +kernel
theorem dX6_count_149 : decode cX6_count 149 = .ok (.getfield 12, 3) := by decide +kernel
theorem dX6_count_152 : decode cX6_count 152 = .ok (.getfield 58, 3) := by decide +kernel
theorem dX6_count_155 : decode cX6_count 155 = .ok (.getfield 241, 3) := by decide +kernel
theorem dX6_count_158 : decode cX6_count 158 = .ok (.ireturn, 1) := by decide +kernel
theorem dX6_count_159 : decode cX6_count 159 = .ok (.aload_n 0, 1) := by decide +kernel
theorem dX6_count_160 : decode cX6_count 160 = .ok (.getfield 12, 3) := by decide +kernel
theorem dX6_count_163 : decode cX6_count 163 = .ok (.getfield 244, 3) := by decide +kernel
theorem dX6_count_166 : decode cX6_count 166 = .ok (.ireturn, 1) := by decide +kernel
theorem dX6_count_167 : decode cX6_count 167 = .ok (.aload_n 0, 1) := by decide +kernel
theorem dX6_count_168 : decode cX6_count 168 = .ok (.getfield 12, 3) := by decide +kernel
theorem dX6_count_171 : decode cX6_count 171 = .ok (.getfield 88, 3) := by decide +kernel
theorem dX6_count_174 : decode cX6_count 174 = .ok (.iconst 0, 1) := by decide +kernel
theorem dX6_count_175 : decode cX6_count 175 = .ok (.iaload, 1) := by decide +kernel
theorem dX6_count_176 : decode cX6_count 176 = .ok (.ireturn, 1) := by decide +kernel
theorem dX6_count_177 : decode cX6_count 177 = .ok (.aload_n 0, 1) := by decide +kernel
theorem dX6_count_178 : decode cX6_count 178 = .ok (.getfield 12, 3) := by decide +kernel
theorem dX6_count_181 : decode cX6_count 181 = .ok (.getfield 88, 3) := by decide +kernel
theorem dX6_count_184 : decode cX6_count 184 = .ok (.iconst 1, 1) := by decide +kernel
theorem dX6_count_185 : decode cX6_count 185 = .ok (.iaload, 1) := by decide +kernel
theorem dX6_count_186 : decode cX6_count 186 = .ok (.ireturn, 1) := by decide +kernel
theorem dX6_count_187 : decode cX6_count 187 = .ok (.aload_n 0, 1) := by decide +kernel
theorem dX6_count_188 : decode cX6_count 188 = .ok (.getfield 25, 3) := by decide +kernel
theorem dX6_count_191 : decode cX6_count 191 = .ok (.getfield 120, 3) := by decide +kernel
theorem dX6_count_194 : decode cX6_count 194 = .ok (.ireturn, 1) := by decide +kernel
theorem dX6_count_195 : decode cX6_count 195 = .ok (.aload_n 0, 1) := by decide +kernel
theorem dX6_count_196 : decode cX6_count 196 = .ok (.getfield 32, 3) := by decide +kernel
theorem dX6_count_199 : decode cX6_count 199 = .ok (.getfield 247, 3) := by decide +kernel
theorem dX6_count_202 : decode cX6_count 202 = .ok (.ireturn, 1) := by decide +kernel
theorem dX6_count_203 : decode cX6_count 203 = .ok (.bipush (-2), 2) := by decide +kernel
theorem dX6_count_205 : decode cX6_count 205 = .ok (.ireturn, 1) := by decide +kernel
theorem dX6_takeOver_0 : decode cX6_takeOver 0 = .ok (.iload_n 1, 1) := by decide +kernel
theorem dX6_takeOver_1 : decode cX6_takeOver 1 = .ok (.ifCond .lt 25, 3) := by decide +kernel
theorem dX6_takeOver_4 : decode cX6_takeOver 4 = .ok (.aload_n 0, 1) := by decide +kernel
theorem dX6_takeOver_5 : decode cX6_takeOver 5 = .ok (.getfield 25, 3) := by decide +kernel
theorem dX6_takeOver_8 : decode cX6_takeOver 8 = .ok (.aload_n 0, 1) := by decide +kernel
theorem dX6_takeOver_9 : decode cX6_takeOver 9 = .ok (.getfield 12, 3) := by decide +kernel
theorem dX6_takeOver_12 : decode cX6_takeOver 12 = .ok (.invokevirtual 250, 3) := by decide +kernel
theorem dX6_takeOver_15 : decode cX6_takeOver 15 = .ok (.aload_n 0, 1) := by decide +kernel
theorem dX6_takeOver_16 : decode cX6_takeOver 16 = .ok (.getfield 12, 3) := by decide +kernel
theorem dX6_takeOver_19 : decode cX6_takeOver 19 = .ok (.aload_n 0, 1) := by decide +kernel
theorem dX6_takeOver_20 : decode cX6_takeOver 20 = .ok (.getfield 16, 3) := by decide +kernel
theorem dX6_takeOver_23 : decode cX6_takeOver 23 = .ok (.invokevirtual 54, 3) := by decide +kernel
theorem dX6_takeOver_26 : decode cX6_takeOver 26 = .ok (.iload_n 1, 1) := by decide +kernel
theorem dX6_takeOver_27 : decode cX6_takeOver 27 = .ok (.ireturn, 1) := by decide +kernel
theorem dX6_tryThing_0 : decode cX6_tryThing 0 = .ok (.iload_n 1, 1) := by decide +kernel
theorem dX6_tryThing_1 : decode cX6_tryThing 1 = .ok (.ifCond .lt 9, 3) := by decide +kernel
theorem dX6_tryThing_4 : decode cX6_tryThing 4 = .ok (.iload_n 1, 1) := by decide +kernel
theorem dX6_tryThing_5 : decode cX6_tryThing 5 = .ok (.bipush 20, 2) := by decide +kernel
theorem dX6_tryThing_7 : decode cX6_tryThing 7 = .ok (.if_icmp .lt 6, 3) := by decide +kernel
theorem dX6_tryThing_10 : decode cX6_tryThing 10 = .ok (.bipush (-5), 2) := by decide +kernel
theorem dX6_tryThing_12 : decode cX6_tryThing 12 = .ok (.ireturn, 1) := by decide +kernel
theorem dX6_tryThing_13 : decode cX6_tryThing 13 = .ok (.aload_n 0, 1) := by decide +kernel
theorem dX6_tryThing_14 : decode cX6_tryThing 14 = .ok (.getfield 32, 3) := by decide +kernel
theorem dX6_tryThing_17 : decode cX6_tryThing 17 = .ok (.getfield 253, 3) := by decide +kernel
theorem dX6_tryThing_20 : decode cX6_tryThing 20 = .ok (.iload_n 1, 1) := by decide +kernel
theorem dX6_tryThing_21 : decode cX6_tryThing 21 = .ok (.iaload, 1) := by decide +kernel
theorem dX6_tryThing_22 : decode cX6_tryThing 22 = .ok (.istore_n 2, 1) := by decide +kernel
theorem dX6_tryThing_23 : decode cX6_tryThing 23 = .ok (.aload_n 0, 1) := by decide +kernel
theorem dX6_tryThing_24 : decode cX6_tryThing 24 = .ok (.getfield 32, 3) := by decide +kernel
theorem dX6_tryThing_27 : decode cX6_tryThing 27 = .ok (.getfield 256, 3) := by decide +kernel
theorem dX6_tryThing_30 : decode cX6_tryThing 30 = .ok (.iload_n 1, 1) := by decide +kernel
theorem dX6_tryThing_31 : decode cX6_tryThing 31 = .ok (.iaload, 1) := by decide +kernel
theorem dX6_tryThing_32 : decode cX6_tryThing 32 = .ok (.istore_n 3, 1) := by decide +kernel
theorem dX6_tryThing_33 : decode cX6_tryThing 33 = .ok (.aload_n 0, 1) := by decide +kernel
theorem dX6_tryThing_34 : decode cX6_tryThing 34 = .ok (.getfield 32, 3) := by decide +kernel
theorem dX6_tryThing_37 : decode cX6_tryThing 37 = .ok (.getfield 259, 3) := by decide +kernel
theorem dX6_tryThing_40 : decode cX6_tryThing 40 = .ok (.iload_n 1, 1) := by decide +kernel
theorem dX6_tryThing_41 : decode cX6_tryThing 41 = .ok (.iaload, 1) := by decide +kernel
theorem dX6_tryThing_42 : decode cX6_tryThing 42 = .ok (.lookupswitch 73 #[(100, 47), (108, 60), (114, 34)], 34) := by decide +kernel
theorem dX6_tryThing_76 : decode cX6_tryThing 76 = .ok (.aload_n 0, 1) := by decide +kernel
theorem dX6_tryThing_77 : decode cX6_tryThing 77 = .ok (.getfield 16, 3) := by decide +kernel
theorem dX6_tryThing_80 : decode cX6_tryThing 80 = .ok (.getfield 58, 3) := by decide +kernel
theorem dX6_tryThing_83 : decode cX6_tryThing 83 = .ok (.iload_n 2, 1) := by decide +kernel
theorem dX6_tryThing_84 : decode cX6_tryThing 84 = .ok (.iload_n 3, 1) := by decide +kernel
theorem dX6_tryThing_85 : decode cX6_tryThing 85 = .ok (.invokevirtual 62, 3) := by decide +kernel
theorem dX6_tryThing_88 : decode cX6_tryThing 88 = .ok (.ireturn, 1) := by decide +kernel
theorem dX6_tryThing_89 : decode cX6_tryThing 89 = .ok (.aload_n 0, 1) := by decide +kernel
theorem dX6_tryThing_90 : decode cX6_tryThing 90 = .ok (.getfield 16, 3) := by decide +kernel
theorem dX6_tryThing_93 : decode cX6_tryThing 93 = .ok (.getfield 58, 3) := by decide +kernel
theorem dX6_tryThing_96 : decode cX6_tryThing 96 = .ok (.iload_n 2, 1) := by decide +kernel
theorem dX6_tryThing_97 : decode cX6_tryThing 97 = .ok (.iload_n 3, 1) := by decide +kernel
theorem dX6_tryThing_98 : decode cX6_tryThing 98 = .ok (.invokevirtual 72, 3) := by decide +kernel
theorem dX6_tryThing_101 : decode cX6_tryThing 101 = .ok (.ireturn, 1) := by decide +kernel
theorem dX6_tryThing_102 : decode cX6_tryThing 102 = .ok (.aload_n 0, 1) := by decide +kernel
theorem dX6_tryThing_103 : decode cX6_tryThing 103 = .ok (.getfield 16, 3) := by decide +kernel
theorem dX6_tryThing_106 : decode cX6_tryThing 106 = .ok (.getfield 75, 3) := by decide +kernel
theorem dX6_tryThing_109 : decode cX6_tryThing 109 = .ok (.iload_n 2, 1) := by decide +kernel
theorem dX6_tryThing_110 : decode cX6_tryThing 110 = .ok (.iload_n 3, 1) := by decide +kernel
theorem dX6_tryThing_111 : decode cX6_tryThing 111 = .ok (.invokevirtual 79, 3) := by decide +kernel
theorem dX6_tryThing_114 : decode cX6_tryThing 114 = .ok (.ireturn, 1) := by decide +kernel
theorem dX6_tryThing_115 : decode cX6_tryThing 115 = .ok (.aload_n 0, 1) := by decide +kernel
theorem dX6_tryThing_116 : decode cX6_tryThing 116 = .ok (.getfield 16, 3) := by decide +kernel
theorem dX6_tryThing_119 : decode cX6_tryThing 119 = .ok (.iload_n 2, 1) := by decide +kernel
theorem dX6_tryThing_120 : decode cX6_tryThing 120 = .ok (.invokevirtual 96, 3) := by decide +kernel
theorem dX6_tryThing_123 : decode cX6_tryThing 123 = .ok (.ireturn, 1) := by decide +kernel
theorem dX6_cellsInShadowsOf_0 : decode cX6_cellsInShadowsOf 0 = .ok (.aload_n 0, 1) := by decide +kernel
theorem dX6_cellsInShadowsOf_1 : decode cX6_cellsInShadowsOf 1 = .ok (.getfield 39, 3) := by decide +kernel
theorem dX6_cellsInShadowsOf_4 : decode cX6_cellsInShadowsOf 4 = .ok (.invokevirtual 203, 3) := by decide +kernel
theorem dX6_cellsInShadowsOf_7 : decode cX6_cellsInShadowsOf 7 = .ok (.aload_n 0, 1) := by decide +kernel
theorem dX6_cellsInShadowsOf_8 : decode cX6_cellsInShadowsOf 8 = .ok (.getfield 12, 3) := by decide +kernel
theorem dX6_cellsInShadowsOf_11 : decode cX6_cellsInShadowsOf 11 = .ok (.iload_n 1, 1) := by decide +kernel
theorem dX6_cellsInShadowsOf_12 : decode cX6_cellsInShadowsOf 12 = .ok (.aload_n 0, 1) := by decide +kernel
theorem dX6_cellsInShadowsOf_13 : decode cX6_cellsInShadowsOf 13 = .ok (.getfield 39, 3) := by decide +kernel
theorem dX6_cellsInShadowsOf_16 : decode cX6_cellsInShadowsOf 16 = .ok (.invokevirtual 205, 3) := by decide +kernel
theorem dX6_cellsInShadowsOf_19 : decode cX6_cellsInShadowsOf 19 = .ok (.aload_n 0, 1) := by decide +kernel
theorem dX6_cellsInShadowsOf_20 : decode cX6_cellsInShadowsOf 20 = .ok (.getfield 39, 3) := by decide +kernel
theorem dX6_cellsInShadowsOf_23 : decode cX6_cellsInShadowsOf 23 = .ok (.invokevirtual 262, 3) := by decide +kernel
theorem dX6_cellsInShadowsOf_26 : decode cX6_cellsInShadowsOf 26 = .ok (.ireturn, 1) := by decide +kernel
theorem dX6_cellsInShadowsBy_0 : decode cX6_cellsInShadowsBy 0 = .ok (.aload_n 0, 1) := by decide +kernel
theorem dX6_cellsInShadowsBy_1 : decode cX6_cellsInShadowsBy 1 = .ok (.getfield 39, 3) := by decide +kernel
theorem dX6_cellsInShadowsBy_4 : decode cX6_cellsInShadowsBy 4 = .ok (.invokevirtual 203, 3) := by decide +kernel
theorem dX6_cellsInShadowsBy_7 : decode cX6_cellsInShadowsBy 7 = .ok (.iconst 0, 1) := by decide +kernel
theorem dX6_cellsInShadowsBy_8 : decode cX6_cellsInShadowsBy 8 = .ok (.istore_n 2, 1) := by decide +kernel
theorem dX6_cellsInShadowsBy_9 : decode cX6_cellsInShadowsBy 9 = .ok (.iload_n 2, 1) := by decide +kernel
theorem dX6_cellsInShadowsBy_10 : decode cX6_cellsInShadowsBy 10 = .ok (.aload_n 0, 1) := by decide +kernel
theorem dX6_cellsInShadowsBy_11 : decode cX6_cellsInShadowsBy 11 = .ok (.getfield 12, 3) := by decide +kernel
theorem dX6_cellsInShadowsBy_14 : decode cX6_cellsInShadowsBy 14 = .ok (.getfield 58, 3) := by decide +kernel
theorem dX6_cellsInShadowsBy_17 : decode cX6_cellsInShadowsBy 17 = .ok (.getfield 123, 3) := by decide +kernel
theorem dX6_cellsInShadowsBy_20 : decode cX6_cellsInShadowsBy 20 = .ok (.if_icmp .ge 22, 3) := by decide +kernel
theorem dX6_cellsInShadowsBy_23 : decode cX6_cellsInShadowsBy 23 = .ok (.aload_n 0, 1) := by decide +kernel
theorem dX6_cellsInShadowsBy_24 : decode cX6_cellsInShadowsBy 24 = .ok (.getfield 12, 3) := by decide +kernel
theorem dX6_cellsInShadowsBy_27 : decode cX6_cellsInShadowsBy 27 = .ok (.iload_n 2, 1) := by decide +kernel
theorem dX6_cellsInShadowsBy_28 : decode cX6_cellsInShadowsBy 28 = .ok (.iload_n 1, 1) := by decide +kernel
theorem dX6_cellsInShadowsBy_29 : decode cX6_cellsInShadowsBy 29 = .ok (.aload_n 0, 1) := by decide +kernel
theorem dX6_cellsInShadowsBy_30 : decode cX6_cellsInShadowsBy 30 = .ok (.getfield 39, 3) := by decide +kernel
theorem dX6_cellsInShadowsBy_33 : decode cX6_cellsInShadowsBy 33 = .ok (.invokevirtual 265, 3) := by decide +kernel
theorem dX6_cellsInShadowsBy_36 : decode cX6_cellsInShadowsBy 36 = .ok (.iinc 2 1, 3) := by decide +kernel
theorem dX6_cellsInShadowsBy_39 : decode cX6_cellsInShadowsBy 39 = .ok (.goto (-30), 3) := by decide +kernel
theorem dX6_cellsInShadowsBy_42 : decode cX6_cellsInShadowsBy 42 = .ok (.aload_n 0, 1) := by decide +kernel
theorem dX6_cellsInShadowsBy_43 : decode cX6_cellsInShadowsBy 43 = .ok (.getfield 39, 3) := by decide +kernel
theorem dX6_cellsInShadowsBy_46 : decode cX6_cellsInShadowsBy 46 = .ok (.invokevirtual 262, 3) := by decide +kernel
theorem dX6_cellsInShadowsBy_49 : decode cX6_cellsInShadowsBy 49 = .ok (.ireturn, 1) := by decide +kernel
theorem dX6_cellsInAnyShadow_0 : decode cX6_cellsInAnyShadow 0 = .ok (.aload_n 0, 1) := by decide +kernel
theorem dX6_cellsInAnyShadow_1 : decode cX6_cellsInAnyShadow 1 = .ok (.getfield 39, 3) := by decide +kernel
theorem dX6_cellsInAnyShadow_4 : decode cX6_cellsInAnyShadow 4 = .ok (.invokevirtual 203, 3) := by decide +kernel
theorem dX6_cellsInAnyShadow_7 : decode cX6_cellsInAnyShadow 7 = .ok (.iconst 0, 1) := by decide +kernel
theorem dX6_cellsInAnyShadow_8 : decode cX6_cellsInAnyShadow 8 = .ok (.istore_n 1, 1) := by decide +kernel
theorem dX6_cellsInAnyShadow_9 : decode cX6_cellsInAnyShadow 9 = .ok (.iload_n 1, 1) := by decide +kernel
theorem dX6_cellsInAnyShadow_10 : decode cX6_cellsInAnyShadow 10 = .ok (.aload_n 0, 1) := by decide +kernel
theorem dX6_cellsInAnyShadow_11 : decode cX6_cellsInAnyShadow 11 = .ok (.getfield 12, 3) := by decide +kernel
theorem dX6_cellsInAnyShadow_14 : decode cX6_cellsInAnyShadow 14 = .ok (.getfield 58, 3) := by decide +kernel
theorem dX6_cellsInAnyShadow_17 : decode cX6_cellsInAnyShadow 17 = .ok (.getfield 123, 3) := by decide +kernel
theorem dX6_cellsInAnyShadow_20 : decode cX6_cellsInAnyShadow 20 = .ok (.if_icmp .ge 21, 3) := by decide +kernel
theorem dX6_cellsInAnyShadow_23 : decode cX6_cellsInAnyShadow 23 = .ok (.aload_n 0, 1) := by decide +kernel
theorem dX6_cellsInAnyShadow_24 : decode cX6_cellsInAnyShadow 24 = .ok (.getfield 12, 3) := by decide +kernel
theorem dX6_cellsInAnyShadow_27 : decode cX6_cellsInAnyShadow 27 = .ok (.iload_n 1, 1) := by decide +kernel
theorem dX6_cellsInAnyShadow_28 : decode cX6_cellsInAnyShadow 28 = .ok (.aload_n 0, 1) := by decide +kernel
theorem dX6_cellsInAnyShadow_29 : decode cX6_cellsInAnyShadow 29 = .ok (.getfield 39, 3) := by decide +kernel
theorem dX6_cellsInAnyShadow_32 : decode cX6_cellsInAnyShadow 32 = .ok (.invokevirtual 205, 3) := by decide +kernel
theorem dX6_cellsInAnyShadow_35 : decode cX6_cellsInAnyShadow 35 = .ok (.iinc 1 1, 3) := by decide +kernel
theorem dX6_cellsInAnyShadow_38 : decode cX6_cellsInAnyShadow 38 = .ok (.goto (-29), 3) := by decide +kernel
theorem dX6_cellsInAnyShadow_41 : decode cX6_cellsInAnyShadow 41 = .ok (.aload_n 0, 1) := by decide +kernel
theorem dX6_cellsInAnyShadow_42 : decode cX6_cellsInAnyShadow 42 = .ok (.getfield 39, 3) := by decide +kernel
theorem dX6_cellsInAnyShadow_45 : decode cX6_cellsInAnyShadow 45 = .ok (.invokevirtual 262, 3) := by decide +kernel
theorem dX6_cellsInAnyShadow_48 : decode cX6_cellsInAnyShadow 48 = .ok (.ireturn, 1) := by decide +kernel
theorem dX6_stepsOrFarthest_0 : decode cX6_stepsOrFarthest 0 = .ok (.aload_n 0, 1) := by decide +kernel
theorem dX6_stepsOrFarthest_1 : decode cX6_stepsOrFarthest 1 = .ok (.iload_n 1, 1) := by decide +kernel
theorem dX6_stepsOrFarthest_2 : decode cX6_stepsOrFarthest 2 = .ok (.invokevirtual 269, 3) := by decide +kernel
theorem dX6_stepsOrFarthest_5 : decode cX6_stepsOrFarthest 5 = .ok (.istore_n 2, 1) := by decide +kernel
theorem dX6_stepsOrFarthest_6 : decode cX6_stepsOrFarthest 6 = .ok (.iload_n 2, 1) := by decide +kernel
theorem dX6_stepsOrFarthest_7 : decode cX6_stepsOrFarthest 7 = .ok (.ifCond .ge 8, 3) := by decide +kernel
theorem dX6_stepsOrFarthest_10 : decode cX6_stepsOrFarthest 10 = .ok (.bipush 100, 2) := by decide +kernel
theorem dX6_stepsOrFarthest_12 : decode cX6_stepsOrFarthest 12 = .ok (.goto 4, 3) := by decide +kernel
theorem dX6_stepsOrFarthest_15 : decode cX6_stepsOrFarthest 15 = .ok (.iload_n 2, 1) := by decide +kernel
theorem dX6_stepsOrFarthest_16 : decode cX6_stepsOrFarthest 16 = .ok (.ireturn, 1) := by decide +kernel
theorem dX6_isCell_0 : decode cX6_isCell 0 = .ok (.iload_n 0, 1) := by decide +kernel
theorem dX6_isCell_1 : decode cX6_isCell 1 = .ok (.ifCond .lt 13, 3) := by decide +kernel
theorem dX6_isCell_4 : decode cX6_isCell 4 = .ok (.iload_n 0, 1) := by decide +kernel
theorem dX6_isCell_5 : decode cX6_isCell 5 = .ok (.bipush 100, 2) := by decide +kernel
theorem dX6_isCell_7 : decode cX6_isCell 7 = .ok (.if_icmp .ge 7, 3) := by decide +kernel
theorem dX6_isCell_10 : decode cX6_isCell 10 = .ok (.iconst 1, 1) := by decide +kernel
theorem dX6_isCell_11 : decode cX6_isCell 11 = .ok (.goto 4, 3) := by decide +kernel
theorem dX6_isCell_14 : decode cX6_isCell 14 = .ok (.iconst 0, 1) := by decide +kernel
theorem dX6_isCell_15 : decode cX6_isCell 15 = .ok (.ireturn, 1) := by decide +kernel
theorem dX6_isLamp_0 : decode cX6_isLamp 0 = .ok (.iload_n 0, 1) := by decide +kernel
theorem dX6_isLamp_1 : decode cX6_isLamp 1 = .ok (.ifCond .lt 12, 3) := by decide +kernel
theorem dX6_isLamp_4 : decode cX6_isLamp 4 = .ok (.iload_n 0, 1) := by decide +kernel
theorem dX6_isLamp_5 : decode cX6_isLamp 5 = .ok (.iconst 3, 1) := by decide +kernel
theorem dX6_isLamp_6 : decode cX6_isLamp 6 = .ok (.if_icmp .ge 7, 3) := by decide +kernel
theorem dX6_isLamp_9 : decode cX6_isLamp 9 = .ok (.iconst 1, 1) := by decide +kernel
theorem dX6_isLamp_10 : decode cX6_isLamp 10 = .ok (.goto 4, 3) := by decide +kernel
theorem dX6_isLamp_13 : decode cX6_isLamp 13 = .ok (.iconst 0, 1) := by decide +kernel
theorem dX6_isLamp_14 : decode cX6_isLamp 14 = .ok (.ireturn, 1) := by decide +kernel
theorem dX6_replace_0 : decode cX6_replace 0 = .ok (.iload_n 1, 1) := by decide +kernel
theorem dX6_replace_1 : decode cX6_replace 1 = .ok (.ifCond .lt 9, 3) := by decide +kernel
theorem dX6_replace_4 : decode cX6_replace 4 = .ok (.iload_n 1, 1) := by decide +kernel
theorem dX6_replace_5 : decode cX6_replace 5 = .ok (.aload_n 0, 1) := by decide +kernel
theorem dX6_replace_6 : decode cX6_replace 6 = .ok (.arraylength, 1) := by decide +kernel
theorem dX6_replace_7 : decode cX6_replace 7 = .ok (.if_icmp .lt 5, 3) := by decide +kernel
theorem dX6_replace_10 : decode cX6_replace 10 = .ok (.iconst (-1), 1) := by decide +kernel
theorem dX6_replace_11 : decode cX6_replace 11 = .ok (.ireturn, 1) := by decide +kernel
theorem dX6_replace_12 : decode cX6_replace 12 = .ok (.iload_n 2, 1) := by decide +kernel
theorem dX6_replace_13 : decode cX6_replace 13 = .ok (.iload_n 3, 1) := by decide +kernel
theorem dX6_replace_14 : decode cX6_replace 14 = .ok (.if_icmp .lt 9, 3) := by decide +kernel
theorem dX6_replace_17 : decode cX6_replace 17 = .ok (.iload_n 2, 1) := by decide +kernel
theorem dX6_replace_18 : decode cX6_replace 18 = .ok (.iload 4, 2) := by decide +kernel
theorem dX6_replace_20 : decode cX6_replace 20 = .ok (.if_icmp .le 6, 3) := by decide +kernel
theorem dX6_replace_23 : decode cX6_replace 23 = .ok (.bipush (-2), 2) := by decide +kernel
theorem dX6_replace_25 : decode cX6_replace 25 = .ok (.ireturn, 1) := by decide +kernel
theorem dX6_replace_26 : decode cX6_replace 26 = .ok (.aload_n 0, 1) := by decide +kernel
theorem dX6_replace_27 : decode cX6_replace 27 = .ok (.iload_n 1, 1) := by decide +kernel
theorem dX6_replace_28 : decode cX6_replace 28 = .ok (.iaload, 1) := by decide +kernel
theorem dX6_replace_29 : decode cX6_replace 29 = .ok (.istore 5, 2) := by decide +kernel
theorem dX6_replace_31 : decode cX6_replace 31 = .ok (.iload 5, 2) := by decide +kernel
theorem dX6_replace_33 : decode cX6_replace 33 = .ok (.iload_n 2, 1) := by decide +kernel
theorem dX6_replace_34 : decode cX6_replace 34 = .ok (.if_icmp .ne 6, 3) := by decide +kernel
theorem dX6_replace_37 : decode cX6_replace 37 = .ok (.bipush (-5), 2) := by decide +kernel
theorem dX6_replace_39 : decode cX6_replace 39 = .ok (.ireturn, 1) := by decide +kernel
theorem dX6_replace_40 : decode cX6_replace 40 = .ok (.aload_n 0, 1) := by decide +kernel
theorem dX6_replace_41 : decode cX6_replace 41 = .ok (.iload_n 1, 1) := by decide +kernel
theorem dX6_replace_42 : decode cX6_replace 42 = .ok (.iload_n 2, 1) := by decide +kernel
theorem dX6_replace_43 : decode cX6_replace 43 = .ok (.iastore, 1) := by decide +kernel
theorem dX6_replace_44 : decode cX6_replace 44 = .ok (.iload 5, 2) := by decide +kernel
theorem dX6_replace_46 : decode cX6_replace 46 = .ok (.ireturn, 1) := by decide +kernel
theorem dX6_copyRow_0 : decode cX6_copyRow 0 = .ok (.aload_n 0, 1) := by decide +kernel
theorem dX6_copyRow_1 : decode cX6_copyRow 1 = .ok (.iconst 0, 1) := by decide +kernel
theorem dX6_copyRow_2 : decode cX6_copyRow 2 = .ok (.aload_n 1, 1) := by decide +kernel
theorem dX6_copyRow_3 : decode cX6_copyRow 3 = .ok (.iconst 0, 1) := by decide +kernel
theorem dX6_copyRow_4 : decode cX6_copyRow 4 = .ok (.aload_n 0, 1) := by decide +kernel
theorem dX6_copyRow_5 : decode cX6_copyRow 5 = .ok (.arraylength, 1) := by decide +kernel
theorem dX6_copyRow_6 : decode cX6_copyRow 6 = .ok (.aload_n 1, 1) := by decide +kernel
theorem dX6_copyRow_7 : decode cX6_copyRow 7 = .ok (.arraylength, 1) := by decide +kernel
theorem dX6_copyRow_8 : decode cX6_copyRow 8 = .ok (.invokestatic 272, 3) := by decide +kernel
theorem dX6_copyRow_11 : decode cX6_copyRow 11 = .ok (.invokestatic 277, 3) := by decide +kernel
theorem dX6_copyRow_14 : decode cX6_copyRow 14 = .ok (.return_, 1) := by decide +kernel
theorem dX6_opposite_0 : decode cX6_opposite 0 = .ok (.iload_n 0, 1) := by decide +kernel
theorem dX6_opposite_1 : decode cX6_opposite 1 = .ok (.iconst 2, 1) := by decide +kernel
theorem dX6_opposite_2 : decode cX6_opposite 2 = .ok (.iadd, 1) := by decide +kernel
theorem dX6_opposite_3 : decode cX6_opposite 3 = .ok (.iconst 4, 1) := by decide +kernel
theorem dX6_opposite_4 : decode cX6_opposite 4 = .ok (.irem, 1) := by decide +kernel
theorem dX6_opposite_5 : decode cX6_opposite 5 = .ok (.ireturn, 1) := by decide +kernel
theorem dX6_cellsToEdge_0 : decode cX6_cellsToEdge 0 = .ok (.iload_n 1, 1) := by decide +kernel
theorem dX6_cellsToEdge_1 : decode cX6_cellsToEdge 1 = .ok (.tableswitch 57 0 3 #[31, 36, 44, 52], 31) := by decide +kernel
theorem dX6_cellsToEdge_32 : decode cX6_cellsToEdge 32 = .ok (.iload_n 0, 1) := by decide +kernel
theorem dX6_cellsToEdge_33 : decode cX6_cellsToEdge 33 = .ok (.bipush 10, 2) := by decide +kernel
theorem dX6_cellsToEdge_35 : decode cX6_cellsToEdge 35 = .ok (.idiv, 1) := by decide +kernel
theorem dX6_cellsToEdge_36 : decode cX6_cellsToEdge 36 = .ok (.ireturn, 1) := by decide +kernel
theorem dX6_cellsToEdge_37 : decode cX6_cellsToEdge 37 = .ok (.bipush 9, 2) := by decide +kernel
theorem dX6_cellsToEdge_39 : decode cX6_cellsToEdge 39 = .ok (.iload_n 0, 1) := by decide +kernel
theorem dX6_cellsToEdge_40 : decode cX6_cellsToEdge 40 = .ok (.bipush 10, 2) := by decide +kernel
theorem dX6_cellsToEdge_42 : decode cX6_cellsToEdge 42 = .ok (.irem, 1) := by decide +kernel
theorem dX6_cellsToEdge_43 : decode cX6_cellsToEdge 43 = .ok (.isub, 1) := by decide +kernel
theorem dX6_cellsToEdge_44 : decode cX6_cellsToEdge 44 = .ok (.ireturn, 1) := by decide +kernel
theorem dX6_cellsToEdge_45 : decode cX6_cellsToEdge 45 = .ok (.bipush 9, 2) := by decide +kernel
theorem dX6_cellsToEdge_47 : decode cX6_cellsToEdge 47 = .ok (.iload_n 0, 1) := by decide +kernel
theorem dX6_cellsToEdge_48 : decode cX6_cellsToEdge 48 = .ok (.bipush 10, 2) := by decide +kernel
theorem dX6_cellsToEdge_50 : decode cX6_cellsToEdge 50 = .ok (.idiv, 1) := by decide +kernel
theorem dX6_cellsToEdge_51 : decode cX6_cellsToEdge 51 = .ok (.isub, 1) := by decide +kernel
theorem dX6_cellsToEdge_52 : decode cX6_cellsToEdge 52 = .ok (.ireturn, 1) := by decide +kernel
theorem dX6_cellsToEdge_53 : decode cX6_cellsToEdge 53 = .ok (.iload_n 0, 1) := by decide +kernel
theorem dX6_cellsToEdge_54 : decode cX6_cellsToEdge 54 = .ok (.bipush 10, 2) := by decide +kernel
theorem dX6_cellsToEdge_56 : decode cX6_cellsToEdge 56 = .ok (.irem, 1) := by decide +kernel
theorem dX6_cellsToEdge_57 : decode cX6_cellsToEdge 57 = .ok (.ireturn, 1) := by decide +kernel
theorem dX6_cellsToEdge_58 : decode cX6_cellsToEdge 58 = .ok (.iconst 0, 1) := by decide +kernel
theorem dX6_cellsToEdge_59 : decode cX6_cellsToEdge 59 = .ok (.ireturn, 1) := by decide +kernel
theorem dX6_cellAlong_0 : decode cX6_cellAlong 0 = .ok (.iload_n 1, 1) := by decide +kernel
theorem dX6_cellAlong_1 : decode cX6_cellAlong 1 = .ok (.tableswitch 53 0 3 #[31, 38, 42, 49], 31) := by decide +kernel
theorem dX6_cellAlong_32 : decode cX6_cellAlong 32 = .ok (.iload_n 0, 1) := by decide +kernel
theorem dX6_cellAlong_33 : decode cX6_cellAlong 33 = .ok (.bipush 10, 2) := by decide +kernel
theorem dX6_cellAlong_35 : decode cX6_cellAlong 35 = .ok (.iload_n 2, 1) := by decide +kernel
theorem dX6_cellAlong_36 : decode cX6_cellAlong 36 = .ok (.imul, 1) := by decide +kernel
theorem dX6_cellAlong_37 : decode cX6_cellAlong 37 = .ok (.isub, 1) := by decide +kernel
theorem dX6_cellAlong_38 : decode cX6_cellAlong 38 = .ok (.ireturn, 1) := by decide +kernel
theorem dX6_cellAlong_39 : decode cX6_cellAlong 39 = .ok (.iload_n 0, 1) := by decide +kernel
theorem dX6_cellAlong_40 : decode cX6_cellAlong 40 = .ok (.iload_n 2, 1) := by decide +kernel
theorem dX6_cellAlong_41 : decode cX6_cellAlong 41 = .ok (.iadd, 1) := by decide +kernel
theorem dX6_cellAlong_42 : decode cX6_cellAlong 42 = .ok (.ireturn, 1) := by decide +kernel
theorem dX6_cellAlong_43 : decode cX6_cellAlong 43 = .ok (.iload_n 0, 1) := by decide +kernel
theorem dX6_cellAlong_44 : decode cX6_cellAlong 44 = .ok (.bipush 10, 2) := by decide +kernel
theorem dX6_cellAlong_46 : decode cX6_cellAlong 46 = .ok (.iload_n 2, 1) := by decide +kernel
theorem dX6_cellAlong_47 : decode cX6_cellAlong 47 = .ok (.imul, 1) := by decide +kernel
theorem dX6_cellAlong_48 : decode cX6_cellAlong 48 = .ok (.iadd, 1) := by decide +kernel
theorem dX6_cellAlong_49 : decode cX6_cellAlong 49 = .ok (.ireturn, 1) := by decide +kernel
theorem dX6_cellAlong_50 : decode cX6_cellAlong 50 = .ok (.iload_n 0, 1) := by decide +kernel
theorem dX6_cellAlong_51 : decode cX6_cellAlong 51 = .ok (.iload_n 2, 1) := by decide +kernel
theorem dX6_cellAlong_52 : decode cX6_cellAlong 52 = .ok (.isub, 1) := by decide +kernel
theorem dX6_cellAlong_53 : decode cX6_cellAlong 53 = .ok (.ireturn, 1) := by decide +kernel
theorem dX6_cellAlong_54 : decode cX6_cellAlong 54 = .ok (.iload_n 0, 1) := by decide +kernel
theorem dX6_cellAlong_55 : decode cX6_cellAlong 55 = .ok (.ireturn, 1) := by decide +kernel
theorem dX6_distanceAlong_0 : decode cX6_distanceAlong 0 = .ok (.iload_n 1, 1) := by decide +kernel
theorem dX6_distanceAlong_1 : decode cX6_distanceAlong 1 = .ok (.bipush 10, 2) := by decide +kernel
theorem dX6_distanceAlong_3 : decode cX6_distanceAlong 3 = .ok (.idiv, 1) := by decide +kernel
theorem dX6_distanceAlong_4 : decode cX6_distanceAlong 4 = .ok (.iload_n 0, 1) := by decide +kernel
theorem dX6_distanceAlong_5 : decode cX6_distanceAlong 5 = .ok (.bipush 10, 2) := by decide +kernel
theorem dX6_distanceAlong_7 : decode cX6_distanceAlong 7 = .ok (.idiv, 1) := by decide +kernel
theorem dX6_distanceAlong_8 : decode cX6_distanceAlong 8 = .ok (.isub, 1) := by decide +kernel
theorem dX6_distanceAlong_9 : decode cX6_distanceAlong 9 = .ok (.istore_n 3, 1) := by decide +kernel
theorem dX6_distanceAlong_10 : decode cX6_distanceAlong 10 = .ok (.iload_n 1, 1) := by decide +kernel
theorem dX6_distanceAlong_11 : decode cX6_distanceAlong 11 = .ok (.bipush 10, 2) := by decide +kernel
theorem dX6_distanceAlong_13 : decode cX6_distanceAlong 13 = .ok (.irem, 1) := by decide +kernel
theorem dX6_distanceAlong_14 : decode cX6_distanceAlong 14 = .ok (.iload_n 0, 1) := by decide +kernel
theorem dX6_distanceAlong_15 : decode cX6_distanceAlong 15 = .ok (.bipush 10, 2) := by decide +kernel
theorem dX6_distanceAlong_17 : decode cX6_distanceAlong 17 = .ok (.irem, 1) := by decide +kernel
theorem dX6_distanceAlong_18 : decode cX6_distanceAlong 18 = .ok (.isub, 1) := by decide +kernel
theorem dX6_distanceAlong_19 : decode cX6_distanceAlong 19 = .ok (.istore 4, 2) := by decide +kernel
theorem dX6_distanceAlong_21 : decode cX6_distanceAlong 21 = .ok (.iload_n 2, 1) := by decide +kernel
theorem dX6_distanceAlong_22 : decode cX6_distanceAlong 22 = .ok (.tableswitch 76 0 3 #[30, 42, 53, 64], 30) := by decide +kernel
theorem dX6_distanceAlong_52 : decode cX6_distanceAlong 52 = .ok (.iload 4, 2) := by decide +kernel
theorem dX6_distanceAlong_54 : decode cX6_distanceAlong 54 = .ok (.ifCond .ne 8, 3) := by decide +kernel
theorem dX6_distanceAlong_57 : decode cX6_distanceAlong 57 = .ok (.iload_n 3, 1) := by decide +kernel
theorem dX6_distanceAlong_58 : decode cX6_distanceAlong 58 = .ok (.ineg, 1) := by decide +kernel
theorem dX6_distanceAlong_59 : decode cX6_distanceAlong 59 = .ok (.goto 4, 3) := by decide +kernel
theorem dX6_distanceAlong_62 : decode cX6_distanceAlong 62 = .ok (.iconst 0, 1) := by decide +kernel
theorem dX6_distanceAlong_63 : decode cX6_distanceAlong 63 = .ok (.ireturn, 1) := by decide +kernel
theorem dX6_distanceAlong_64 : decode cX6_distanceAlong 64 = .ok (.iload_n 3, 1) := by decide +kernel
theorem dX6_distanceAlong_65 : decode cX6_distanceAlong 65 = .ok (.ifCond .ne 8, 3) := by decide +kernel
theorem dX6_distanceAlong_68 : decode cX6_distanceAlong 68 = .ok (.iload 4, 2) := by decide +kernel
theorem dX6_distanceAlong_70 : decode cX6_distanceAlong 70 = .ok (.goto 4, 3) := by decide +kernel
theorem dX6_distanceAlong_73 : decode cX6_distanceAlong 73 = .ok (.iconst 0, 1) := by decide +kernel
theorem dX6_distanceAlong_74 : decode cX6_distanceAlong 74 = .ok (.ireturn, 1) := by decide +kernel
theorem dX6_distanceAlong_75 : decode cX6_distanceAlong 75 = .ok (.iload 4, 2) := by decide +kernel
theorem dX6_distanceAlong_77 : decode cX6_distanceAlong 77 = .ok (.ifCond .ne 7, 3) := by decide +kernel
theorem dX6_distanceAlong_80 : decode cX6_distanceAlong 80 = .ok (.iload_n 3, 1) := by decide +kernel
theorem dX6_distanceAlong_81 : decode cX6_distanceAlong 81 = .ok (.goto 4, 3) := by decide +kernel
theorem dX6_distanceAlong_84 : decode cX6_distanceAlong 84 = .ok (.iconst 0, 1) := by decide +kernel
theorem dX6_distanceAlong_85 : decode cX6_distanceAlong 85 = .ok (.ireturn, 1) := by decide +kernel
theorem dX6_distanceAlong_86 : decode cX6_distanceAlong 86 = .ok (.iload_n 3, 1) := by decide +kernel
theorem dX6_distanceAlong_87 : decode cX6_distanceAlong 87 = .ok (.ifCond .ne 9, 3) := by decide +kernel
theorem dX6_distanceAlong_90 : decode cX6_distanceAlong 90 = .ok (.iload 4, 2) := by decide +kernel
theorem dX6_distanceAlong_92 : decode cX6_distanceAlong 92 = .ok (.ineg, 1) := by decide +kernel
theorem dX6_distanceAlong_93 : decode cX6_distanceAlong 93 = .ok (.goto 4, 3) := by decide +kernel
theorem dX6_distanceAlong_96 : decode cX6_distanceAlong 96 = .ok (.iconst 0, 1) := by decide +kernel
theorem dX6_distanceAlong_97 : decode cX6_distanceAlong 97 = .ok (.ireturn, 1) := by decide +kernel
theorem dX6_distanceAlong_98 : decode cX6_distanceAlong 98 = .ok (.iconst 0, 1) := by decide +kernel
theorem dX6_distanceAlong_99 : decode cX6_distanceAlong 99 = .ok (.ireturn, 1) := by decide +kernel
theorem dX7_init_0 : decode cX7_init 0 = .ok (.aload_n 0, 1) := by decide +kernel
theorem dX7_init_1 : decode cX7_init 1 = .ok (.invokespecial 1, 3) := by decide +kernel
theorem dX7_init_4 : decode cX7_init 4 = .ok (.aload_n 0, 1) := by decide +kernel
theorem dX7_init_5 : decode cX7_init 5 = .ok (.bipush 63, 2) := by decide +kernel
theorem dX7_init_7 : decode cX7_init 7 = .ok (.newarray .int, 2) := by decide +kernel
theorem dX7_init_9 : decode cX7_init 9 = .ok (.putfield 7, 3) := by decide +kernel
theorem dX7_init_12 : decode cX7_init 12 = .ok (.aload_n 0, 1) := by decide +kernel
theorem dX7_init_13 : decode cX7_init 13 = .ok (.sipush 252, 3) := by decide +kernel
theorem dX7_init_16 : decode cX7_init 16 = .ok (.newarray .int, 2) := by decide +kernel
theorem dX7_init_18 : decode cX7_init 18 = .ok (.putfield 13, 3) := by decide +kernel
theorem dX7_init_21 : decode cX7_init 21 = .ok (.aload_n 0, 1) := by decide +kernel
theorem dX7_init_22 : decode cX7_init 22 = .ok (.bipush 63, 2) := by decide +kernel
theorem dX7_init_24 : decode cX7_init 24 = .ok (.newarray .int, 2) := by decide +kernel
theorem dX7_init_26 : decode cX7_init 26 = .ok (.putfield 16, 3) := by decide +kernel
theorem dX7_init_29 : decode cX7_init 29 = .ok (.aload_n 0, 1) := by decide +kernel
theorem dX7_init_30 : decode cX7_init 30 = .ok (.bipush 63, 2) := by decide +kernel
theorem dX7_init_32 : decode cX7_init 32 = .ok (.newarray .int, 2) := by decide +kernel
theorem dX7_init_34 : decode cX7_init 34 = .ok (.putfield 19, 3) := by decide +kernel
theorem dX7_init_37 : decode cX7_init 37 = .ok (.aload_n 0, 1) := by decide +kernel
theorem dX7_init_38 : decode cX7_init 38 = .ok (.bipush 24, 2) := by decide +kernel
theorem dX7_init_40 : decode cX7_init 40 = .ok (.newarray .int, 2) := by decide +kernel
theorem dX7_init_42 : decode cX7_init 42 = .ok (.putfield 22, 3) := by decide +kernel
theorem dX7_init_45 : decode cX7_init 45 = .ok (.aload_n 0, 1) := by decide +kernel
theorem dX7_init_46 : decode cX7_init 46 = .ok (.bipush 60, 2) := by decide +kernel
theorem dX7_init_48 : decode cX7_init 48 = .ok (.newarray .int, 2) := by decide +kernel
theorem dX7_init_50 : decode cX7_init 50 = .ok (.putfield 25, 3) := by decide +kernel
theorem dX7_init_53 : decode cX7_init 53 = .ok (.aload_n 0, 1) := by decide +kernel
theorem dX7_init_54 : decode cX7_init 54 = .ok (.bipush 32, 2) := by decide +kernel
theorem dX7_init_56 : decode cX7_init 56 = .ok (.newarray .int, 2) := by decide +kernel
theorem dX7_init_58 : decode cX7_init 58 = .ok (.putfield 28, 3) := by decide +kernel
theorem dX7_init_61 : decode cX7_init 61 = .ok (.aload_n 0, 1) := by decide +kernel
theorem dX7_init_62 : decode cX7_init 62 = .ok (.bipush 32, 2) := by decide +kernel
theorem dX7_init_64 : decode cX7_init 64 = .ok (.newarray .int, 2) := by decide +kernel
theorem dX7_init_66 : decode cX7_init 66 = .ok (.putfield 31, 3) := by decide +kernel
theorem dX7_init_69 : decode cX7_init 69 = .ok (.aload_n 0, 1) := by decide +kernel
theorem dX7_init_70 : decode cX7_init 70 = .ok (.bipush 32, 2) := by decide +kernel
theorem dX7_init_72 : decode cX7_init 72 = .ok (.newarray .int, 2) := by decide +kernel
theorem dX7_init_74 : decode cX7_init 74 = .ok (.putfield 34, 3) := by decide +kernel
theorem dX7_init_77 : decode cX7_init 77 = .ok (.aload_n 0, 1) := by decide +kernel
theorem dX7_init_78 : decode cX7_init 78 = .ok (.bipush (-5), 2) := by decide +kernel
theorem dX7_init_80 : decode cX7_init 80 = .ok (.putfield 37, 3) := by decide +kernel
theorem dX7_init_83 : decode cX7_init 83 = .ok (.aload_n 0, 1) := by decide +kernel
theorem dX7_init_84 : decode cX7_init 84 = .ok (.bipush (-5), 2) := by decide +kernel
theorem dX7_init_86 : decode cX7_init 86 = .ok (.putfield 41, 3) := by decide +kernel
theorem dX7_init_89 : decode cX7_init 89 = .ok (.aload_n 0, 1) := by decide +kernel
theorem dX7_init_90 : decode cX7_init 90 = .ok (.bipush 100, 2) := by decide +kernel
theorem dX7_init_92 : decode cX7_init 92 = .ok (.newarray .int, 2) := by decide +kernel
theorem dX7_init_94 : decode cX7_init 94 = .ok (.putfield 44, 3) := by decide +kernel
theorem dX7_init_97 : decode cX7_init 97 = .ok (.aload_n 0, 1) := by decide +kernel
theorem dX7_init_98 : decode cX7_init 98 = .ok (.getfield 7, 3) := by decide +kernel
theorem dX7_init_101 : decode cX7_init 101 = .ok (.iconst 1, 1) := by decide +kernel
theorem dX7_init_102 : decode cX7_init 102 = .ok (.bipush (-5), 2) := by decide +kernel
theorem dX7_init_104 : decode cX7_init 104 = .ok (.iastore, 1) := by decide +kernel
theorem dX7_init_105 : decode cX7_init 105 = .ok (.aload_n 0, 1) := by decide +kernel
theorem dX7_init_106 : decode cX7_init 106 = .ok (.getfield 7, 3) := by decide +kernel
theorem dX7_init_109 : decode cX7_init 109 = .ok (.bipush 6, 2) := by decide +kernel
theorem dX7_init_111 : decode cX7_init 111 = .ok (.iconst 3, 1) := by decide +kernel
theorem dX7_init_112 : decode cX7_init 112 = .ok (.iastore, 1) := by decide +kernel
theorem dX7_init_113 : decode cX7_init 113 = .ok (.iconst 0, 1) := by decide +kernel
theorem dX7_init_114 : decode cX7_init 114 = .ok (.istore_n 1, 1) := by decide +kernel
theorem dX7_init_115 : decode cX7_init 115 = .ok (.iload_n 1, 1) := by decide +kernel
theorem dX7_init_116 : decode cX7_init 116 = .ok (.iconst 3, 1) := by decide +kernel
theorem dX7_init_117 : decode cX7_init 117 = .ok (.if_icmp .ge 30, 3) := by decide +kernel
theorem dX7_init_120 : decode cX7_init 120 = .ok (.aload_n 0, 1) := by decide +kernel
theorem dX7_init_121 : decode cX7_init 121 = .ok (.iload_n 1, 1) := by decide +kernel
theorem dX7_init_122 : decode cX7_init 122 = .ok (.iconst 0, 1) := by decide +kernel
theorem dX7_init_123 : decode cX7_init 123 = .ok (.iload_n 1, 1) := by decide +kernel
theorem dX7_init_124 : decode cX7_init 124 = .ok (.invokevirtual 47, 3) := by decide +kernel
theorem dX7_init_127 : decode cX7_init 127 = .ok (.aload_n 0, 1) := by decide +kernel
theorem dX7_init_128 : decode cX7_init 128 = .ok (.iload_n 1, 1) := by decide +kernel
theorem dX7_init_129 : decode cX7_init 129 = .ok (.iconst 1, 1) := by decide +kernel
theorem dX7_init_130 : decode cX7_init 130 = .ok (.iconst 1, 1) := by decide +kernel
theorem dX7_init_131 : decode cX7_init 131 = .ok (.invokevirtual 47, 3) := by decide +kernel
theorem dX7_init_134 : decode cX7_init 134 = .ok (.aload_n 0, 1) := by decide +kernel
theorem dX7_init_135 : decode cX7_init 135 = .ok (.iload_n 1, 1) := by decide +kernel
theorem dX7_init_136 : decode cX7_init 136 = .ok (.iconst 3, 1) := by decide +kernel
theorem dX7_init_137 : decode cX7_init 137 = .ok (.iconst 1, 1) := by decide +kernel
theorem dX7_init_138 : decode cX7_init 138 = .ok (.invokevirtual 47, 3) := by decide +kernel
theorem dX7_init_141 : decode cX7_init 141 = .ok (.iinc 1 1, 3) := by decide +kernel
theorem dX7_init_144 : decode cX7_init 144 = .ok (.goto (-29), 3) := by decide +kernel
theorem dX7_init_147 : decode cX7_init 147 = .ok (.return_, 1) := by decide +kernel
theorem dX7_in_0 : decode cX7_in 0 = .ok (.iload_n 0, 1) := by decide +kernel
theorem dX7_in_1 : decode cX7_in 1 = .ok (.iload_n 1, 1) := by decide +kernel
theorem dX7_in_2 : decode cX7_in 2 = .ok (.if_icmp .lt 12, 3) := by decide +kernel
theorem dX7_in_5 : decode cX7_in 5 = .ok (.iload_n 0, 1) := by decide +kernel
theorem dX7_in_6 : decode cX7_in 6 = .ok (.iload_n 2, 1) := by decide +kernel
theorem dX7_in_7 : decode cX7_in 7 = .ok (.if_icmp .gt 7, 3) := by decide +kernel
theorem dX7_in_10 : decode cX7_in 10 = .ok (.iconst 1, 1) := by decide +kernel
theorem dX7_in_11 : decode cX7_in 11 = .ok (.goto 4, 3) := by decide +kernel
theorem dX7_in_14 : decode cX7_in 14 = .ok (.iconst 0, 1) := by decide +kernel
theorem dX7_in_15 : decode cX7_in 15 = .ok (.ireturn, 1) := by decide +kernel
theorem dX7_isCell_0 : decode cX7_isCell 0 = .ok (.iload_n 0, 1) := by decide +kernel
theorem dX7_isCell_1 : decode cX7_isCell 1 = .ok (.iconst 0, 1) := by decide +kernel
theorem dX7_isCell_2 : decode cX7_isCell 2 = .ok (.bipush 99, 2) := by decide +kernel
theorem dX7_isCell_4 : decode cX7_isCell 4 = .ok (.invokestatic 51, 3) := by decide +kernel
theorem dX7_isCell_7 : decode cX7_isCell 7 = .ok (.ireturn, 1) := by decide +kernel
theorem dX7_isRunner_0 : decode cX7_isRunner 0 = .ok (.iload_n 1, 1) := by decide +kernel
theorem dX7_isRunner_1 : decode cX7_isRunner 1 = .ok (.iconst 0, 1) := by decide +kernel
theorem dX7_isRunner_2 : decode cX7_isRunner 2 = .ok (.aload_n 0, 1) := by decide +kernel
theorem dX7_isRunner_3 : decode cX7_isRunner 3 = .ok (.getfield 7, 3) := by decide +kernel
theorem dX7_isRunner_6 : decode cX7_isRunner 6 = .ok (.bipush 20, 2) := by decide +kernel
theorem dX7_isRunner_8 : decode cX7_isRunner 8 = .ok (.iaload, 1) := by decide +kernel
theorem dX7_isRunner_9 : decode cX7_isRunner 9 = .ok (.iconst 1, 1) := by decide +kernel
theorem dX7_isRunner_10 : decode cX7_isRunner 10 = .ok (.isub, 1) := by decide +kernel
theorem dX7_isRunner_11 : decode cX7_isRunner 11 = .ok (.invokestatic 51, 3) := by decide +kernel
theorem dX7_isRunner_14 : decode cX7_isRunner 14 = .ok (.ireturn, 1) := by decide +kernel
theorem dX7_isLamp_0 : decode cX7_isLamp 0 = .ok (.iload_n 0, 1) := by decide +kernel
theorem dX7_isLamp_1 : decode cX7_isLamp 1 = .ok (.iconst 0, 1) := by decide +kernel
theorem dX7_isLamp_2 : decode cX7_isLamp 2 = .ok (.iconst 2, 1) := by decide +kernel
theorem dX7_isLamp_3 : decode cX7_isLamp 3 = .ok (.invokestatic 51, 3) := by decide +kernel
theorem dX7_isLamp_6 : decode cX7_isLamp 6 = .ok (.ireturn, 1) := by decide +kernel
theorem dX7_of_0 : decode cX7_of 0 = .ok (.aload_n 0, 1) := by decide +kernel
theorem dX7_of_1 : decode cX7_of 1 = .ok (.getfield 7, 3) := by decide +kernel
theorem dX7_of_4 : decode cX7_of 4 = .ok (.bipush 21, 2) := by decide +kernel
theorem dX7_of_6 : decode cX7_of 6 = .ok (.bipush 7, 2) := by decide +kernel
theorem dX7_of_8 : decode cX7_of 8 = .ok (.iload_n 1, 1) := by decide +kernel
theorem dX7_of_9 : decode cX7_of 9 = .ok (.imul, 1) := by decide +kernel
theorem dX7_of_10 : decode cX7_of 10 = .ok (.iadd, 1) := by decide +kernel
theorem dX7_of_11 : decode cX7_of 11 = .ok (.iload_n 2, 1) := by decide +kernel
theorem dX7_of_12 : decode cX7_of 12 = .ok (.iadd, 1) := by decide +kernel
theorem dX7_of_13 : decode cX7_of 13 = .ok (.iaload, 1) := by decide +kernel
theorem dX7_of_14 : decode cX7_of 14 = .ok (.ireturn, 1) := by decide +kernel
theorem dX7_put_0 : decode cX7_put 0 = .ok (.aload_n 0, 1) := by decide +kernel
theorem dX7_put_1 : decode cX7_put 1 = .ok (.getfield 7, 3) := by decide +kernel
theorem dX7_put_4 : decode cX7_put 4 = .ok (.bipush 21, 2) := by decide +kernel
theorem dX7_put_6 : decode cX7_put 6 = .ok (.bipush 7, 2) := by decide +kernel
theorem dX7_put_8 : decode cX7_put 8 = .ok (.iload_n 1, 1) := by decide +kernel
theorem dX7_put_9 : decode cX7_put 9 = .ok (.imul, 1) := by decide +kernel
theorem dX7_put_10 : decode cX7_put 10 = .ok (.iadd, 1) := by decide +kernel
theorem dX7_put_11 : decode cX7_put 11 = .ok (.iload_n 2, 1) := by decide +kernel
theorem dX7_put_12 : decode cX7_put 12 = .ok (.iadd, 1) := by decide +kernel
theorem dX7_put_13 : decode cX7_put 13 = .ok (.iload_n 3, 1) := by decide +kernel
theorem dX7_put_14 : decode cX7_put 14 = .ok (.iastore, 1) := by decide +kernel
theorem dX7_put_15 : decode cX7_put 15 = .ok (.return_, 1) := by decide +kernel
theorem dX7_ofLamp_0 : decode cX7_ofLamp 0 = .ok (.aload_n 0, 1) := by decide +kernel
theorem dX7_ofLamp_1 : decode cX7_ofLamp 1 = .ok (.getfield 7, 3) := by decide +kernel
theorem dX7_ofLamp_4 : decode cX7_ofLamp 4 = .ok (.bipush 8, 2) := by decide +kernel
theorem dX7_ofLamp_6 : decode cX7_ofLamp 6 = .ok (.iconst 4, 1) := by decide +kernel
theorem dX7_ofLamp_7 : decode cX7_ofLamp 7 = .ok (.iload_n 1, 1) := by decide +kernel
theorem dX7_ofLamp_8 : decode cX7_ofLamp 8 = .ok (.imul, 1) := by decide +kernel
theorem dX7_ofLamp_9 : decode cX7_ofLamp 9 = .ok (.iadd, 1) := by decide +kernel
theorem dX7_ofLamp_10 : decode cX7_ofLamp 10 = .ok (.iload_n 2, 1) := by decide +kernel
theorem dX7_ofLamp_11 : decode cX7_ofLamp 11 = .ok (.iadd, 1) := by decide +kernel
theorem dX7_ofLamp_12 : decode cX7_ofLamp 12 = .ok (.iaload, 1) := by decide +kernel
theorem dX7_ofLamp_13 : decode cX7_ofLamp 13 = .ok (.ireturn, 1) := by decide +kernel
theorem dX7_putLamp_0 : decode cX7_putLamp 0 = .ok (.aload_n 0, 1) := by decide +kernel
theorem dX7_putLamp_1 : decode cX7_putLamp 1 = .ok (.getfield 7, 3) := by decide +kernel
theorem dX7_putLamp_4 : decode cX7_putLamp 4 = .ok (.bipush 8, 2) := by decide +kernel
theorem dX7_putLamp_6 : decode cX7_putLamp 6 = .ok (.iconst 4, 1) := by decide +kernel
theorem dX7_putLamp_7 : decode cX7_putLamp 7 = .ok (.iload_n 1, 1) := by decide +kernel
theorem dX7_putLamp_8 : decode cX7_putLamp 8 = .ok (.imul, 1) := by decide +kernel
theorem dX7_putLamp_9 : decode cX7_putLamp 9 = .ok (.iadd, 1) := by decide +kernel
theorem dX7_putLamp_10 : decode cX7_putLamp 10 = .ok (.iload_n 2, 1) := by decide +kernel
theorem dX7_putLamp_11 : decode cX7_putLamp 11 = .ok (.iadd, 1) := by decide +kernel
theorem dX7_putLamp_12 : decode cX7_putLamp 12 = .ok (.iload_n 3, 1) := by decide +kernel
theorem dX7_putLamp_13 : decode cX7_putLamp 13 = .ok (.iastore, 1) := by decide +kernel
theorem dX7_putLamp_14 : decode cX7_putLamp 14 = .ok (.return_, 1) := by decide +kernel
theorem dX7_putAside_0 : decode cX7_putAside 0 = .ok (.iconst 0, 1) := by decide +kernel
theorem dX7_putAside_1 : decode cX7_putAside 1 = .ok (.istore_n 1, 1) := by decide +kernel
theorem dX7_putAside_2 : decode cX7_putAside 2 = .ok (.iload_n 1, 1) := by decide +kernel
theorem dX7_putAside_3 : decode cX7_putAside 3 = .ok (.bipush 63, 2) := by decide +kernel
theorem dX7_putAside_5 : decode cX7_putAside 5 = .ok (.if_icmp .ge 21, 3) := by decide +kernel
theorem dX7_putAside_8 : decode cX7_putAside 8 = .ok (.aload_n 0, 1) := by decide +kernel
theorem dX7_putAside_9 : decode cX7_putAside 9 = .ok (.getfield 19, 3) := by decide +kernel
theorem dX7_putAside_12 : decode cX7_putAside 12 = .ok (.iload_n 1, 1) := by decide +kernel
theorem dX7_putAside_13 : decode cX7_putAside 13 = .ok (.aload_n 0, 1) := by decide +kernel
theorem dX7_putAside_14 : decode cX7_putAside 14 = .ok (.getfield 7, 3) := by decide +kernel
theorem dX7_putAside_17 : decode cX7_putAside 17 = .ok (.iload_n 1, 1) := by decide +kernel
theorem dX7_putAside_18 : decode cX7_putAside 18 = .ok (.iaload, 1) := by decide +kernel
theorem dX7_putAside_19 : decode cX7_putAside 19 = .ok (.iastore, 1) := by decide +kernel
theorem dX7_putAside_20 : decode cX7_putAside 20 = .ok (.iinc 1 1, 3) := by decide +kernel
theorem dX7_putAside_23 : decode cX7_putAside 23 = .ok (.goto (-21), 3) := by decide +kernel
theorem dX7_putAside_26 : decode cX7_putAside 26 = .ok (.return_, 1) := by decide +kernel
theorem dX7_putBack_0 : decode cX7_putBack 0 = .ok (.iconst 0, 1) := by decide +kernel
theorem dX7_putBack_1 : decode cX7_putBack 1 = .ok (.istore_n 1, 1) := by decide +kernel
theorem dX7_putBack_2 : decode cX7_putBack 2 = .ok (.iload_n 1, 1) := by decide +kernel
theorem dX7_putBack_3 : decode cX7_putBack 3 = .ok (.bipush 63, 2) := by decide +kernel
theorem dX7_putBack_5 : decode cX7_putBack 5 = .ok (.if_icmp .ge 21, 3) := by decide +kernel
theorem dX7_putBack_8 : decode cX7_putBack 8 = .ok (.aload_n 0, 1) := by decide +kernel
theorem dX7_putBack_9 : decode cX7_putBack 9 = .ok (.getfield 7, 3) := by decide +kernel
theorem dX7_putBack_12 : decode cX7_putBack 12 = .ok (.iload_n 1, 1) := by decide +kernel
theorem dX7_putBack_13 : decode cX7_putBack 13 = .ok (.aload_n 0, 1) := by decide +kernel
theorem dX7_putBack_14 : decode cX7_putBack 14 = .ok (.getfield 19, 3) := by decide +kernel
theorem dX7_putBack_17 : decode cX7_putBack 17 = .ok (.iload_n 1, 1) := by decide +kernel
theorem dX7_putBack_18 : decode cX7_putBack 18 = .ok (.iaload, 1) := by decide +kernel
theorem dX7_putBack_19 : decode cX7_putBack 19 = .ok (.iastore, 1) := by decide +kernel
theorem dX7_putBack_20 : decode cX7_putBack 20 = .ok (.iinc 1 1, 3) := by decide +kernel
theorem dX7_putBack_23 : decode cX7_putBack 23 = .ok (.goto (-21), 3) := by decide +kernel
theorem dX7_putBack_26 : decode cX7_putBack 26 = .ok (.return_, 1) := by decide +kernel
theorem dX7_record_0 : decode cX7_record 0 = .ok (.aload_n 0, 1) := by decide +kernel
theorem dX7_record_1 : decode cX7_record 1 = .ok (.getfield 55, 3) := by decide +kernel
theorem dX7_record_4 : decode cX7_record 4 = .ok (.iconst 4, 1) := by decide +kernel
theorem dX7_record_5 : decode cX7_record 5 = .ok (.if_icmp .ne 43, 3) := by decide +kernel
theorem dX7_record_8 : decode cX7_record 8 = .ok (.iconst 0, 1) := by decide +kernel
theorem dX7_record_9 : decode cX7_record 9 = .ok (.istore_n 1, 1) := by decide +kernel
theorem dX7_record_10 : decode cX7_record 10 = .ok (.iload_n 1, 1) := by decide +kernel
theorem dX7_record_11 : decode cX7_record 11 = .ok (.sipush 189, 3) := by decide +kernel
theorem dX7_record_14 : decode cX7_record 14 = .ok (.if_icmp .ge 24, 3) := by decide +kernel
theorem dX7_record_17 : decode cX7_record 17 = .ok (.aload_n 0, 1) := by decide +kernel
theorem dX7_record_18 : decode cX7_record 18 = .ok (.getfield 13, 3) := by decide +kernel
theorem dX7_record_21 : decode cX7_record 21 = .ok (.iload_n 1, 1) := by decide +kernel
theorem dX7_record_22 : decode cX7_record 22 = .ok (.aload_n 0, 1) := by decide +kernel
theorem dX7_record_23 : decode cX7_record 23 = .ok (.getfield 13, 3) := by decide +kernel
theorem dX7_record_26 : decode cX7_record 26 = .ok (.iload_n 1, 1) := by decide +kernel
theorem dX7_record_27 : decode cX7_record 27 = .ok (.bipush 63, 2) := by decide +kernel
theorem dX7_record_29 : decode cX7_record 29 = .ok (.iadd, 1) := by decide +kernel
theorem dX7_record_30 : decode cX7_record 30 = .ok (.iaload, 1) := by decide +kernel
theorem dX7_record_31 : decode cX7_record 31 = .ok (.iastore, 1) := by decide +kernel
theorem dX7_record_32 : decode cX7_record 32 = .ok (.iinc 1 1, 3) := by decide +kernel
theorem dX7_record_35 : decode cX7_record 35 = .ok (.goto (-25), 3) := by decide +kernel
theorem dX7_record_38 : decode cX7_record 38 = .ok (.aload_n 0, 1) := by decide +kernel
theorem dX7_record_39 : decode cX7_record 39 = .ok (.dup, 1) := by decide +kernel
theorem dX7_record_40 : decode cX7_record 40 = .ok (.getfield 55, 3) := by decide +kernel
theorem dX7_record_43 : decode cX7_record 43 = .ok (.iconst 1, 1) := by decide +kernel
theorem dX7_record_44 : decode cX7_record 44 = .ok (.isub, 1) := by decide +kernel
theorem dX7_record_45 : decode cX7_record 45 = .ok (.putfield 55, 3) := by decide +kernel
theorem dX7_record_48 : decode cX7_record 48 = .ok (.iconst 0, 1) := by decide +kernel
theorem dX7_record_49 : decode cX7_record 49 = .ok (.istore_n 1, 1) := by decide +kernel
theorem dX7_record_50 : decode cX7_record 50 = .ok (.iload_n 1, 1) := by decide +kernel
theorem dX7_record_51 : decode cX7_record 51 = .ok (.bipush 63, 2) := by decide +kernel
theorem dX7_record_53 : decode cX7_record 53 = .ok (.if_icmp .ge 29, 3) := by decide +kernel
theorem dX7_record_56 : decode cX7_record 56 = .ok (.aload_n 0, 1) := by decide +kernel
theorem dX7_record_57 : decode cX7_record 57 = .ok (.getfield 13, 3) := by decide +kernel
theorem dX7_record_60 : decode cX7_record 60 = .ok (.bipush 63, 2) := by decide +kernel
theorem dX7_record_62 : decode cX7_record 62 = .ok (.aload_n 0, 1) := by decide +kernel
theorem dX7_record_63 : decode cX7_record 63 = .ok (.getfield 55, 3) := by decide +kernel
theorem dX7_record_66 : decode cX7_record 66 = .ok (.imul, 1) := by decide +kernel
theorem dX7_record_67 : decode cX7_record 67 = .ok (.iload_n 1, 1) := by decide +kernel
theorem dX7_record_68 : decode cX7_record 68 = .ok (.iadd, 1) := by decide +kernel
theorem dX7_record_69 : decode cX7_record 69 = .ok (.aload_n 0, 1) := by decide +kernel
theorem dX7_record_70 : decode cX7_record 70 = .ok (.getfield 19, 3) := by decide +kernel
theorem dX7_record_73 : decode cX7_record 73 = .ok (.iload_n 1, 1) := by decide +kernel
theorem dX7_record_74 : decode cX7_record 74 = .ok (.iaload, 1) := by decide +kernel
theorem dX7_record_75 : decode cX7_record 75 = .ok (.iastore, 1) := by decide +kernel
theorem dX7_record_76 : decode cX7_record 76 = .ok (.iinc 1 1, 3) := by decide +kernel
theorem dX7_record_79 : decode cX7_record 79 = .ok (.goto (-29), 3) := by decide +kernel
theorem dX7_record_82 : decode cX7_record 82 = .ok (.aload_n 0, 1) := by decide +kernel
theorem dX7_record_83 : decode cX7_record 83 = .ok (.dup, 1) := by decide +kernel
theorem dX7_record_84 : decode cX7_record 84 = .ok (.getfield 55, 3) := by decide +kernel
theorem dX7_record_87 : decode cX7_record 87 = .ok (.iconst 1, 1) := by decide +kernel
theorem dX7_record_88 : decode cX7_record 88 = .ok (.iadd, 1) := by decide +kernel
theorem dX7_record_89 : decode cX7_record 89 = .ok (.putfield 55, 3) := by decide +kernel
theorem dX7_record_92 : decode cX7_record 92 = .ok (.return_, 1) := by decide +kernel
theorem dX7_acted_0 : decode cX7_acted 0 = .ok (.iload_n 1, 1) := by decide +kernel
theorem dX7_acted_1 : decode cX7_acted 1 = .ok (.ifCond .lt 7, 3) := by decide +kernel
theorem dX7_acted_4 : decode cX7_acted 4 = .ok (.aload_n 0, 1) := by decide +kernel
theorem dX7_acted_5 : decode cX7_acted 5 = .ok (.invokevirtual 58, 3) := by decide +kernel
theorem dX7_acted_8 : decode cX7_acted 8 = .ok (.iload_n 1, 1) := by decide +kernel
theorem dX7_acted_9 : decode cX7_acted 9 = .ok (.ireturn, 1) := by decide +kernel
theorem dX7_undo_0 : decode cX7_undo 0 = .ok (.aload_n 0, 1) := by decide +kernel
theorem dX7_undo_1 : decode cX7_undo 1 = .ok (.getfield 55, 3) := by decide +kernel
theorem dX7_undo_4 : decode cX7_undo 4 = .ok (.ifCond .ne 6, 3) := by decide +kernel
theorem dX7_undo_7 : decode cX7_undo 7 = .ok (.bipush (-5), 2) := by decide +kernel
theorem dX7_undo_9 : decode cX7_undo 9 = .ok (.ireturn, 1) := by decide +kernel
theorem dX7_undo_10 : decode cX7_undo 10 = .ok (.aload_n 0, 1) := by decide +kernel
theorem dX7_undo_11 : decode cX7_undo 11 = .ok (.dup, 1) := by decide +kernel
theorem dX7_undo_12 : decode cX7_undo 12 = .ok (.getfield 55, 3) := by decide +kernel
theorem dX7_undo_15 : decode cX7_undo 15 = .ok (.iconst 1, 1) := by decide +kernel
theorem dX7_undo_16 : decode cX7_undo 16 = .ok (.isub, 1) := by decide +kernel
theorem dX7_undo_17 : decode cX7_undo 17 = .ok (.putfield 55, 3) := by decide +kernel
theorem dX7_undo_20 : decode cX7_undo 20 = .ok (.iconst 0, 1) := by decide +kernel
theorem dX7_undo_21 : decode cX7_undo 21 = .ok (.istore_n 1, 1) := by decide +kernel
theorem dX7_undo_22 : decode cX7_undo 22 = .ok (.iload_n 1, 1) := by decide +kernel
theorem dX7_undo_23 : decode cX7_undo 23 = .ok (.bipush 63, 2) := by decide +kernel
theorem dX7_undo_25 : decode cX7_undo 25 = .ok (.if_icmp .ge 29, 3) := by decide +kernel
theorem dX7_undo_28 : decode cX7_undo 28 = .ok (.aload_n 0, 1) := by decide +kernel
theorem dX7_undo_29 : decode cX7_undo 29 = .ok (.getfield 7, 3) := by decide +kernel
theorem dX7_undo_32 : decode cX7_undo 32 = .ok (.iload_n 1, 1) := by decide +kernel
theorem dX7_undo_33 : decode cX7_undo 33 = .ok (.aload_n 0, 1) := by decide +kernel
theorem dX7_undo_34 : decode cX7_undo 34 = .ok (.getfield 13, 3) := by decide +kernel
theorem dX7_undo_37 : decode cX7_undo 37 = .ok (.bipush 63, 2) := by decide +kernel
theorem dX7_undo_39 : decode cX7_undo 39 = .ok (.aload_n 0, 1) := by decide +kernel
theorem dX7_undo_40 : decode cX7_undo 40 = .ok (.getfield 55, 3) := by decide +kernel
theorem dX7_undo_43 : decode cX7_undo 43 = .ok (.imul, 1) := by decide +kernel
theorem dX7_undo_44 : decode cX7_undo 44 = .ok (.iload_n 1, 1) := by decide +kernel
theorem dX7_undo_45 : decode cX7_undo 45 = .ok (.iadd, 1) := by decide +kernel
theorem dX7_undo_46 : decode cX7_undo 46 = .ok (.iaload, 1) := by decide +kernel
theorem dX7_undo_47 : decode cX7_undo 47 = .ok (.iastore, 1) := by decide +kernel
theorem dX7_undo_48 : decode cX7_undo 48 = .ok (.iinc 1 1, 3) := by decide +kernel
theorem dX7_undo_51 : decode cX7_undo 51 = .ok (.goto (-29), 3) := by decide +kernel
theorem dX7_undo_54 : decode cX7_undo 54 = .ok (.aload_n 0, 1) := by decide +kernel
theorem dX7_undo_55 : decode cX7_undo 55 = .ok (.getfield 55, 3) := by decide +kernel
theorem dX7_undo_58 : decode cX7_undo 58 = .ok (.ireturn, 1) := by decide +kernel
theorem dX7_keep_0 : decode cX7_keep 0 = .ok (.iconst 0, 1) := by decide +kernel
theorem dX7_keep_1 : decode cX7_keep 1 = .ok (.istore_n 1, 1) := by decide +kernel
theorem dX7_keep_2 : decode cX7_keep 2 = .ok (.iload_n 1, 1) := by decide +kernel
theorem dX7_keep_3 : decode cX7_keep 3 = .ok (.bipush 63, 2) := by decide +kernel
theorem dX7_keep_5 : decode cX7_keep 5 = .ok (.if_icmp .ge 21, 3) := by decide +kernel
theorem dX7_keep_8 : decode cX7_keep 8 = .ok (.aload_n 0, 1) := by decide +kernel
theorem dX7_keep_9 : decode cX7_keep 9 = .ok (.getfield 16, 3) := by decide +kernel
theorem dX7_keep_12 : decode cX7_keep 12 = .ok (.iload_n 1, 1) := by decide +kernel
theorem dX7_keep_13 : decode cX7_keep 13 = .ok (.aload_n 0, 1) := by decide +kernel
theorem dX7_keep_14 : decode cX7_keep 14 = .ok (.getfield 7, 3) := by decide +kernel
theorem dX7_keep_17 : decode cX7_keep 17 = .ok (.iload_n 1, 1) := by decide +kernel
theorem dX7_keep_18 : decode cX7_keep 18 = .ok (.iaload, 1) := by decide +kernel
theorem dX7_keep_19 : decode cX7_keep 19 = .ok (.iastore, 1) := by decide +kernel
theorem dX7_keep_20 : decode cX7_keep 20 = .ok (.iinc 1 1, 3) := by decide +kernel
theorem dX7_keep_23 : decode cX7_keep 23 = .ok (.goto (-21), 3) := by decide +kernel
theorem dX7_keep_26 : decode cX7_keep 26 = .ok (.aload_n 0, 1) := by decide +kernel
theorem dX7_keep_27 : decode cX7_keep 27 = .ok (.iconst 1, 1) := by decide +kernel
theorem dX7_keep_28 : decode cX7_keep 28 = .ok (.putfield 61, 3) := by decide +kernel
theorem dX7_keep_31 : decode cX7_keep 31 = .ok (.aload_n 0, 1) := by decide +kernel
theorem dX7_keep_32 : decode cX7_keep 32 = .ok (.getfield 7, 3) := by decide +kernel
theorem dX7_keep_35 : decode cX7_keep 35 = .ok (.bipush 20, 2) := by decide +kernel
theorem dX7_keep_37 : decode cX7_keep 37 = .ok (.iaload, 1) := by decide +kernel
theorem dX7_keep_38 : decode cX7_keep 38 = .ok (.ireturn, 1) := by decide +kernel
theorem dX7_restore_0 : decode cX7_restore 0 = .ok (.aload_n 0, 1) := by decide +kernel
theorem dX7_restore_1 : decode cX7_restore 1 = .ok (.getfield 61, 3) := by decide +kernel
theorem dX7_restore_4 : decode cX7_restore 4 = .ok (.ifCond .ne 6, 3) := by decide +kernel
theorem dX7_restore_7 : decode cX7_restore 7 = .ok (.bipush (-5), 2) := by decide +kernel
theorem dX7_restore_9 : decode cX7_restore 9 = .ok (.ireturn, 1) := by decide +kernel
theorem dX7_restore_10 : decode cX7_restore 10 = .ok (.aload_n 0, 1) := by decide +kernel
theorem dX7_restore_11 : decode cX7_restore 11 = .ok (.invokevirtual 65, 3) := by decide +kernel
theorem dX7_restore_14 : decode cX7_restore 14 = .ok (.aload_n 0, 1) := by decide +kernel
theorem dX7_restore_15 : decode cX7_restore 15 = .ok (.invokevirtual 58, 3) := by decide +kernel
theorem dX7_restore_18 : decode cX7_restore 18 = .ok (.iconst 0, 1) := by decide +kernel
theorem dX7_restore_19 : decode cX7_restore 19 = .ok (.istore_n 1, 1) := by decide +kernel
theorem dX7_restore_20 : decode cX7_restore 20 = .ok (.iload_n 1, 1) := by decide +kernel
theorem dX7_restore_21 : decode cX7_restore 21 = .ok (.bipush 63, 2) := by decide +kernel
theorem dX7_restore_23 : decode cX7_restore 23 = .ok (.if_icmp .ge 21, 3) := by decide +kernel
theorem dX7_restore_26 : decode cX7_restore 26 = .ok (.aload_n 0, 1) := by decide +kernel
theorem dX7_restore_27 : decode cX7_restore 27 = .ok (.getfield 7, 3) := by decide +kernel
theorem dX7_restore_30 : decode cX7_restore 30 = .ok (.iload_n 1, 1) := by decide +kernel
theorem dX7_restore_31 : decode cX7_restore 31 = .ok (.aload_n 0, 1) := by decide +kernel
theorem dX7_restore_32 : decode cX7_restore 32 = .ok (.getfield 16, 3) := by decide +kernel
theorem dX7_restore_35 : decode cX7_restore 35 = .ok (.iload_n 1, 1) := by decide +kernel
theorem dX7_restore_36 : decode cX7_restore 36 = .ok (.iaload, 1) := by decide +kernel
theorem dX7_restore_37 : decode cX7_restore 37 = .ok (.iastore, 1) := by decide +kernel
theorem dX7_restore_38 : decode cX7_restore 38 = .ok (.iinc 1 1, 3) := by decide +kernel
theorem dX7_restore_41 : decode cX7_restore 41 = .ok (.goto (-21), 3) := by decide +kernel
theorem dX7_restore_44 : decode cX7_restore 44 = .ok (.aload_n 0, 1) := by decide +kernel
theorem dX7_restore_45 : decode cX7_restore 45 = .ok (.getfield 7, 3) := by decide +kernel
theorem dX7_restore_48 : decode cX7_restore 48 = .ok (.bipush 20, 2) := by decide +kernel
theorem dX7_restore_50 : decode cX7_restore 50 = .ok (.iaload, 1) := by decide +kernel
theorem dX7_restore_51 : decode cX7_restore 51 = .ok (.ireturn, 1) := by decide +kernel
theorem dX7_next_0 : decode cX7_next 0 = .ok (.iload_n 1, 1) := by decide +kernel
theorem dX7_next_1 : decode cX7_next 1 = .ok (.tableswitch 77 0 2 #[27, 43, 61], 27) := by decide +kernel
theorem dX7_next_28 : decode cX7_next 28 = .ok (.iload_n 0, 1) := by decide +kernel
theorem dX7_next_29 : decode cX7_next 29 = .ok (.bipush 10, 2) := by decide +kernel
theorem dX7_next_31 : decode cX7_next 31 = .ok (.if_icmp .ge 8, 3) := by decide +kernel
theorem dX7_next_34 : decode cX7_next 34 = .ok (.bipush (-5), 2) := by decide +kernel
theorem dX7_next_36 : decode cX7_next 36 = .ok (.goto 7, 3) := by decide +kernel
theorem dX7_next_39 : decode cX7_next 39 = .ok (.iload_n 0, 1) := by decide +kernel
theorem dX7_next_40 : decode cX7_next 40 = .ok (.bipush 10, 2) := by decide +kernel
theorem dX7_next_42 : decode cX7_next 42 = .ok (.isub, 1) := by decide +kernel
theorem dX7_next_43 : decode cX7_next 43 = .ok (.ireturn, 1) := by decide +kernel
theorem dX7_next_44 : decode cX7_next 44 = .ok (.iload_n 0, 1) := by decide +kernel
theorem dX7_next_45 : decode cX7_next 45 = .ok (.bipush 10, 2) := by decide +kernel
theorem dX7_next_47 : decode cX7_next 47 = .ok (.irem, 1) := by decide +kernel
theorem dX7_next_48 : decode cX7_next 48 = .ok (.bipush 9, 2) := by decide +kernel
theorem dX7_next_50 : decode cX7_next 50 = .ok (.if_icmp .ne 8, 3) := by decide +kernel
theorem dX7_next_53 : decode cX7_next 53 = .ok (.bipush (-5), 2) := by decide +kernel
theorem dX7_next_55 : decode cX7_next 55 = .ok (.goto 6, 3) := by decide +kernel
theorem dX7_next_58 : decode cX7_next 58 = .ok (.iload_n 0, 1) := by decide +kernel
theorem dX7_next_59 : decode cX7_next 59 = .ok (.iconst 1, 1) := by decide +kernel
theorem dX7_next_60 : decode cX7_next 60 = .ok (.iadd, 1) := by decide +kernel
theorem dX7_next_61 : decode cX7_next 61 = .ok (.ireturn, 1) := by decide +kernel
theorem dX7_next_62 : decode cX7_next 62 = .ok (.iload_n 0, 1) := by decide +kernel
theorem dX7_next_63 : decode cX7_next 63 = .ok (.bipush 89, 2) := by decide +kernel
theorem dX7_next_65 : decode cX7_next 65 = .ok (.if_icmp .le 8, 3) := by decide +kernel
theorem dX7_next_68 : decode cX7_next 68 = .ok (.bipush (-5), 2) := by decide +kernel
theorem dX7_next_70 : decode cX7_next 70 = .ok (.goto 7, 3) := by decide +kernel
theorem dX7_next_73 : decode cX7_next 73 = .ok (.iload_n 0, 1) := by decide +kernel
theorem dX7_next_74 : decode cX7_next 74 = .ok (.bipush 10, 2) := by decide +kernel
theorem dX7_next_76 : decode cX7_next 76 = .ok (.iadd, 1) := by decide +kernel
theorem dX7_next_77 : decode cX7_next 77 = .ok (.ireturn, 1) := by decide +kernel
theorem dX7_next_78 : decode cX7_next 78 = .ok (.iload_n 0, 1) := by decide +kernel
theorem dX7_next_79 : decode cX7_next 79 = .ok (.bipush 10, 2) := by decide +kernel
theorem dX7_next_81 : decode cX7_next 81 = .ok (.irem, 1) := by decide +kernel
theorem dX7_next_82 : decode cX7_next 82 = .ok (.ifCond .ne 8, 3) := by decide +kernel
theorem dX7_next_85 : decode cX7_next 85 = .ok (.bipush (-5), 2) := by decide +kernel
theorem dX7_next_87 : decode cX7_next 87 = .ok (.goto 6, 3) := by decide +kernel
theorem dX7_next_90 : decode cX7_next 90 = .ok (.iload_n 0, 1) := by decide +kernel
theorem dX7_next_91 : decode cX7_next 91 = .ok (.iconst 1, 1) := by decide +kernel
theorem dX7_next_92 : decode cX7_next 92 = .ok (.isub, 1) := by decide +kernel
theorem dX7_next_93 : decode cX7_next 93 = .ok (.ireturn, 1) := by decide +kernel
theorem dX7_runnerAt_0 : decode cX7_runnerAt 0 = .ok (.bipush (-5), 2) := by decide +kernel
theorem dX7_runnerAt_2 : decode cX7_runnerAt 2 = .ok (.istore_n 2, 1) := by decide +kernel
theorem dX7_runnerAt_3 : decode cX7_runnerAt 3 = .ok (.iconst 0, 1) := by decide +kernel
theorem dX7_runnerAt_4 : decode cX7_runnerAt 4 = .ok (.istore_n 3, 1) := by decide +kernel
theorem dX7_runnerAt_5 : decode cX7_runnerAt 5 = .ok (.iload_n 3, 1) := by decide +kernel
theorem dX7_runnerAt_6 : decode cX7_runnerAt 6 = .ok (.aload_n 0, 1) := by decide +kernel
theorem dX7_runnerAt_7 : decode cX7_runnerAt 7 = .ok (.getfield 7, 3) := by decide +kernel
theorem dX7_runnerAt_10 : decode cX7_runnerAt 10 = .ok (.bipush 20, 2) := by decide +kernel
theorem dX7_runnerAt_12 : decode cX7_runnerAt 12 = .ok (.iaload, 1) := by decide +kernel
theorem dX7_runnerAt_13 : decode cX7_runnerAt 13 = .ok (.if_icmp .ge 25, 3) := by decide +kernel
theorem dX7_runnerAt_16 : decode cX7_runnerAt 16 = .ok (.aload_n 0, 1) := by decide +kernel
theorem dX7_runnerAt_17 : decode cX7_runnerAt 17 = .ok (.iload_n 3, 1) := by decide +kernel
theorem dX7_runnerAt_18 : decode cX7_runnerAt 18 = .ok (.iconst 0, 1) := by decide +kernel
theorem dX7_runnerAt_19 : decode cX7_runnerAt 19 = .ok (.invokevirtual 68, 3) := by decide +kernel
theorem dX7_runnerAt_22 : decode cX7_runnerAt 22 = .ok (.iload_n 1, 1) := by decide +kernel
theorem dX7_runnerAt_23 : decode cX7_runnerAt 23 = .ok (.if_icmp .ne 7, 3) := by decide +kernel
theorem dX7_runnerAt_26 : decode cX7_runnerAt 26 = .ok (.iload_n 3, 1) := by decide +kernel
theorem dX7_runnerAt_27 : decode cX7_runnerAt 27 = .ok (.goto 4, 3) := by decide +kernel
theorem dX7_runnerAt_30 : decode cX7_runnerAt 30 = .ok (.iload_n 2, 1) := by decide +kernel
theorem dX7_runnerAt_31 : decode cX7_runnerAt 31 = .ok (.istore_n 2, 1) := by decide +kernel
theorem dX7_runnerAt_32 : decode cX7_runnerAt 32 = .ok (.iinc 3 1, 3) := by decide +kernel
theorem dX7_runnerAt_35 : decode cX7_runnerAt 35 = .ok (.goto (-30), 3) := by decide +kernel
theorem dX7_runnerAt_38 : decode cX7_runnerAt 38 = .ok (.iload_n 2, 1) := by decide +kernel
theorem dX7_runnerAt_39 : decode cX7_runnerAt 39 = .ok (.ireturn, 1) := by decide +kernel
theorem dX7_follow_0 : decode cX7_follow 0 = .ok (.aload_n 0, 1) := by decide +kernel
theorem dX7_follow_1 : decode cX7_follow 1 = .ok (.iconst 0, 1) := by decide +kernel
theorem dX7_follow_2 : decode cX7_follow 2 = .ok (.putfield 72, 3) := by decide +kernel
theorem dX7_follow_5 : decode cX7_follow 5 = .ok (.aload_n 0, 1) := by decide +kernel
theorem dX7_follow_6 : decode cX7_follow 6 = .ok (.bipush (-5), 2) := by decide +kernel
theorem dX7_follow_8 : decode cX7_follow 8 = .ok (.putfield 75, 3) := by decide +kernel
theorem dX7_follow_11 : decode cX7_follow 11 = .ok (.aload_n 0, 1) := by decide +kernel
theorem dX7_follow_12 : decode cX7_follow 12 = .ok (.iload_n 2, 1) := by decide +kernel
theorem dX7_follow_13 : decode cX7_follow 13 = .ok (.iconst 3, 1) := by decide +kernel
theorem dX7_follow_14 : decode cX7_follow 14 = .ok (.invokevirtual 78, 3) := by decide +kernel
theorem dX7_follow_17 : decode cX7_follow 17 = .ok (.iconst 1, 1) := by decide +kernel
theorem dX7_follow_18 : decode cX7_follow 18 = .ok (.if_icmp .ne 19, 3) := by decide +kernel
theorem dX7_follow_21 : decode cX7_follow 21 = .ok (.aload_n 0, 1) := by decide +kernel
theorem dX7_follow_22 : decode cX7_follow 22 = .ok (.iload_n 1, 1) := by decide +kernel
theorem dX7_follow_23 : decode cX7_follow 23 = .ok (.iconst 1, 1) := by decide +kernel
theorem dX7_follow_24 : decode cX7_follow 24 = .ok (.invokevirtual 68, 3) := by decide +kernel
theorem dX7_follow_27 : decode cX7_follow 27 = .ok (.aload_n 0, 1) := by decide +kernel
theorem dX7_follow_28 : decode cX7_follow 28 = .ok (.iload_n 2, 1) := by decide +kernel
theorem dX7_follow_29 : decode cX7_follow 29 = .ok (.iconst 1, 1) := by decide +kernel
theorem dX7_follow_30 : decode cX7_follow 30 = .ok (.invokevirtual 78, 3) := by decide +kernel
theorem dX7_follow_33 : decode cX7_follow 33 = .ok (.imul, 1) := by decide +kernel
theorem dX7_follow_34 : decode cX7_follow 34 = .ok (.goto 4, 3) := by decide +kernel
theorem dX7_follow_37 : decode cX7_follow 37 = .ok (.iconst 0, 1) := by decide +kernel
theorem dX7_follow_38 : decode cX7_follow 38 = .ok (.istore_n 3, 1) := by decide +kernel
theorem dX7_follow_39 : decode cX7_follow 39 = .ok (.aload_n 0, 1) := by decide +kernel
theorem dX7_follow_40 : decode cX7_follow 40 = .ok (.iload_n 1, 1) := by decide +kernel
theorem dX7_follow_41 : decode cX7_follow 41 = .ok (.iconst 0, 1) := by decide +kernel
theorem dX7_follow_42 : decode cX7_follow 42 = .ok (.invokevirtual 68, 3) := by decide +kernel
theorem dX7_follow_45 : decode cX7_follow 45 = .ok (.istore 4, 2) := by decide +kernel
theorem dX7_follow_47 : decode cX7_follow 47 = .ok (.aload_n 0, 1) := by decide +kernel
theorem dX7_follow_48 : decode cX7_follow 48 = .ok (.getfield 72, 3) := by decide +kernel
theorem dX7_follow_51 : decode cX7_follow 51 = .ok (.iload_n 3, 1) := by decide +kernel
theorem dX7_follow_52 : decode cX7_follow 52 = .ok (.if_icmp .ge 77, 3) := by decide +kernel
theorem dX7_follow_55 : decode cX7_follow 55 = .ok (.aload_n 0, 1) := by decide +kernel
theorem dX7_follow_56 : decode cX7_follow 56 = .ok (.getfield 75, 3) := by decide +kernel
theorem dX7_follow_59 : decode cX7_follow 59 = .ok (.bipush (-5), 2) := by decide +kernel
theorem dX7_follow_61 : decode cX7_follow 61 = .ok (.if_icmp .ne 68, 3) := by decide +kernel
theorem dX7_follow_64 : decode cX7_follow 64 = .ok (.iload 4, 2) := by decide +kernel
theorem dX7_follow_66 : decode cX7_follow 66 = .ok (.bipush (-5), 2) := by decide +kernel
theorem dX7_follow_68 : decode cX7_follow 68 = .ok (.if_icmp .eq 61, 3) := by decide +kernel
theorem dX7_follow_71 : decode cX7_follow 71 = .ok (.iload 4, 2) := by decide +kernel
theorem dX7_follow_73 : decode cX7_follow 73 = .ok (.aload_n 0, 1) := by decide +kernel
theorem dX7_follow_74 : decode cX7_follow 74 = .ok (.iload_n 2, 1) := by decide +kernel
theorem dX7_follow_75 : decode cX7_follow 75 = .ok (.iconst 0, 1) := by decide +kernel
theorem dX7_follow_76 : decode cX7_follow 76 = .ok (.invokevirtual 78, 3) := by decide +kernel
theorem dX7_follow_79 : decode cX7_follow 79 = .ok (.iconst 2, 1) := by decide +kernel
theorem dX7_follow_80 : decode cX7_follow 80 = .ok (.iadd, 1) := by decide +kernel
theorem dX7_follow_81 : decode cX7_follow 81 = .ok (.iconst 4, 1) := by decide +kernel
theorem dX7_follow_82 : decode cX7_follow 82 = .ok (.irem, 1) := by decide +kernel
theorem dX7_follow_83 : decode cX7_follow 83 = .ok (.invokestatic 81, 3) := by decide +kernel
theorem dX7_follow_86 : decode cX7_follow 86 = .ok (.istore 4, 2) := by decide +kernel
theorem dX7_follow_88 : decode cX7_follow 88 = .ok (.iload 4, 2) := by decide +kernel
theorem dX7_follow_90 : decode cX7_follow 90 = .ok (.bipush (-5), 2) := by decide +kernel
theorem dX7_follow_92 : decode cX7_follow 92 = .ok (.if_icmp .eq (-45), 3) := by decide +kernel
theorem dX7_follow_95 : decode cX7_follow 95 = .ok (.aload_n 0, 1) := by decide +kernel
theorem dX7_follow_96 : decode cX7_follow 96 = .ok (.getfield 22, 3) := by decide +kernel
theorem dX7_follow_99 : decode cX7_follow 99 = .ok (.aload_n 0, 1) := by decide +kernel
theorem dX7_follow_100 : decode cX7_follow 100 = .ok (.getfield 72, 3) := by decide +kernel
theorem dX7_follow_103 : decode cX7_follow 103 = .ok (.iload 4, 2) := by decide +kernel
theorem dX7_follow_105 : decode cX7_follow 105 = .ok (.iastore, 1) := by decide +kernel
theorem dX7_follow_106 : decode cX7_follow 106 = .ok (.aload_n 0, 1) := by decide +kernel
theorem dX7_follow_107 : decode cX7_follow 107 = .ok (.dup, 1) := by decide +kernel
theorem dX7_follow_108 : decode cX7_follow 108 = .ok (.getfield 72, 3) := by decide +kernel
theorem dX7_follow_111 : decode cX7_follow 111 = .ok (.iconst 1, 1) := by decide +kernel
theorem dX7_follow_112 : decode cX7_follow 112 = .ok (.iadd, 1) := by decide +kernel
theorem dX7_follow_113 : decode cX7_follow 113 = .ok (.putfield 72, 3) := by decide +kernel
theorem dX7_follow_116 : decode cX7_follow 116 = .ok (.aload_n 0, 1) := by decide +kernel
theorem dX7_follow_117 : decode cX7_follow 117 = .ok (.aload_n 0, 1) := by decide +kernel
theorem dX7_follow_118 : decode cX7_follow 118 = .ok (.iload 4, 2) := by decide +kernel
theorem dX7_follow_120 : decode cX7_follow 120 = .ok (.invokevirtual 84, 3) := by decide +kernel
theorem dX7_follow_123 : decode cX7_follow 123 = .ok (.putfield 75, 3) := by decide +kernel
theorem dX7_follow_126 : decode cX7_follow 126 = .ok (.goto (-79), 3) := by decide +kernel
theorem dX7_follow_129 : decode cX7_follow 129 = .ok (.return_, 1) := by decide +kernel
theorem dX7_isShaded_0 : decode cX7_isShaded 0 = .ok (.aload_n 0, 1) := by decide +kernel
theorem dX7_isShaded_1 : decode cX7_isShaded 1 = .ok (.iload_n 1, 1) := by decide +kernel
theorem dX7_isShaded_2 : decode cX7_isShaded 2 = .ok (.iload_n 2, 1) := by decide +kernel
theorem dX7_isShaded_3 : decode cX7_isShaded 3 = .ok (.invokevirtual 88, 3) := by decide +kernel
theorem dX7_isShaded_6 : decode cX7_isShaded 6 = .ok (.iconst 0, 1) := by decide +kernel
theorem dX7_isShaded_7 : decode cX7_isShaded 7 = .ok (.istore 4, 2) := by decide +kernel
theorem dX7_isShaded_9 : decode cX7_isShaded 9 = .ok (.iconst 0, 1) := by decide +kernel
theorem dX7_isShaded_10 : decode cX7_isShaded 10 = .ok (.istore 5, 2) := by decide +kernel
theorem dX7_isShaded_12 : decode cX7_isShaded 12 = .ok (.iload 5, 2) := by decide +kernel
theorem dX7_isShaded_14 : decode cX7_isShaded 14 = .ok (.aload_n 0, 1) := by decide +kernel
theorem dX7_isShaded_15 : decode cX7_isShaded 15 = .ok (.getfield 72, 3) := by decide +kernel
theorem dX7_isShaded_18 : decode cX7_isShaded 18 = .ok (.if_icmp .ge 32, 3) := by decide +kernel
theorem dX7_isShaded_21 : decode cX7_isShaded 21 = .ok (.iload 4, 2) := by decide +kernel
theorem dX7_isShaded_23 : decode cX7_isShaded 23 = .ok (.ifCond .ne 14, 3) := by decide +kernel
theorem dX7_isShaded_26 : decode cX7_isShaded 26 = .ok (.aload_n 0, 1) := by decide +kernel
theorem dX7_isShaded_27 : decode cX7_isShaded 27 = .ok (.getfield 22, 3) := by decide +kernel
theorem dX7_isShaded_30 : decode cX7_isShaded 30 = .ok (.iload 5, 2) := by decide +kernel
theorem dX7_isShaded_32 : decode cX7_isShaded 32 = .ok (.iaload, 1) := by decide +kernel
theorem dX7_isShaded_33 : decode cX7_isShaded 33 = .ok (.iload_n 3, 1) := by decide +kernel
theorem dX7_isShaded_34 : decode cX7_isShaded 34 = .ok (.if_icmp .ne 7, 3) := by decide +kernel
theorem dX7_isShaded_37 : decode cX7_isShaded 37 = .ok (.iconst 1, 1) := by decide +kernel
theorem dX7_isShaded_38 : decode cX7_isShaded 38 = .ok (.goto 4, 3) := by decide +kernel
theorem dX7_isShaded_41 : decode cX7_isShaded 41 = .ok (.iconst 0, 1) := by decide +kernel
theorem dX7_isShaded_42 : decode cX7_isShaded 42 = .ok (.istore 4, 2) := by decide +kernel
theorem dX7_isShaded_44 : decode cX7_isShaded 44 = .ok (.iinc 5 1, 3) := by decide +kernel
theorem dX7_isShaded_47 : decode cX7_isShaded 47 = .ok (.goto (-35), 3) := by decide +kernel
theorem dX7_isShaded_50 : decode cX7_isShaded 50 = .ok (.iload 4, 2) := by decide +kernel
theorem dX7_isShaded_52 : decode cX7_isShaded 52 = .ok (.ireturn, 1) := by decide +kernel
theorem dX7_isInShadowOf_0 : decode cX7_isInShadowOf 0 = .ok (.iconst 0, 1) := by decide +kernel
theorem dX7_isInShadowOf_1 : decode cX7_isInShadowOf 1 = .ok (.istore_n 3, 1) := by decide +kernel
theorem dX7_isInShadowOf_2 : decode cX7_isInShadowOf 2 = .ok (.iconst 0, 1) := by decide +kernel
theorem dX7_isInShadowOf_3 : decode cX7_isInShadowOf 3 = .ok (.istore 4, 2) := by decide +kernel
theorem dX7_isInShadowOf_5 : decode cX7_isInShadowOf 5 = .ok (.iload 4, 2) := by decide +kernel
theorem dX7_isInShadowOf_7 : decode cX7_isInShadowOf 7 = .ok (.iconst 3, 1) := by decide +kernel
theorem dX7_isInShadowOf_8 : decode cX7_isInShadowOf 8 = .ok (.if_icmp .ge 30, 3) := by decide +kernel
theorem dX7_isInShadowOf_11 : decode cX7_isInShadowOf 11 = .ok (.iload_n 3, 1) := by decide +kernel
theorem dX7_isInShadowOf_12 : decode cX7_isInShadowOf 12 = .ok (.ifCond .ne 14, 3) := by decide +kernel
theorem dX7_isInShadowOf_15 : decode cX7_isInShadowOf 15 = .ok (.aload_n 0, 1) := by decide +kernel
theorem dX7_isInShadowOf_16 : decode cX7_isInShadowOf 16 = .ok (.iload_n 1, 1) := by decide +kernel
theorem dX7_isInShadowOf_17 : decode cX7_isInShadowOf 17 = .ok (.iload 4, 2) := by decide +kernel
theorem dX7_isInShadowOf_19 : decode cX7_isInShadowOf 19 = .ok (.iload_n 2, 1) := by decide +kernel
theorem dX7_isInShadowOf_20 : decode cX7_isInShadowOf 20 = .ok (.invokevirtual 92, 3) := by decide +kernel
theorem dX7_isInShadowOf_23 : decode cX7_isInShadowOf 23 = .ok (.ifCond .eq 7, 3) := by decide +kernel
theorem dX7_isInShadowOf_26 : decode cX7_isInShadowOf 26 = .ok (.iconst 1, 1) := by decide +kernel
theorem dX7_isInShadowOf_27 : decode cX7_isInShadowOf 27 = .ok (.goto 4, 3) := by decide +kernel
theorem dX7_isInShadowOf_30 : decode cX7_isInShadowOf 30 = .ok (.iconst 0, 1) := by decide +kernel
theorem dX7_isInShadowOf_31 : decode cX7_isInShadowOf 31 = .ok (.istore_n 3, 1) := by decide +kernel
theorem dX7_isInShadowOf_32 : decode cX7_isInShadowOf 32 = .ok (.iinc 4 1, 3) := by decide +kernel
theorem dX7_isInShadowOf_35 : decode cX7_isInShadowOf 35 = .ok (.goto (-30), 3) := by decide +kernel
theorem dX7_isInShadowOf_38 : decode cX7_isInShadowOf 38 = .ok (.iload_n 3, 1) := by decide +kernel
theorem dX7_isInShadowOf_39 : decode cX7_isInShadowOf 39 = .ok (.ireturn, 1) := by decide +kernel
theorem dX7_hasShadow_0 : decode cX7_hasShadow 0 = .ok (.iconst 0, 1) := by decide +kernel
theorem dX7_hasShadow_1 : decode cX7_hasShadow 1 = .ok (.istore_n 2, 1) := by decide +kernel
theorem dX7_hasShadow_2 : decode cX7_hasShadow 2 = .ok (.iconst 0, 1) := by decide +kernel
theorem dX7_hasShadow_3 : decode cX7_hasShadow 3 = .ok (.istore_n 3, 1) := by decide +kernel
theorem dX7_hasShadow_4 : decode cX7_hasShadow 4 = .ok (.iload_n 3, 1) := by decide +kernel
theorem dX7_hasShadow_5 : decode cX7_hasShadow 5 = .ok (.iconst 3, 1) := by decide +kernel
theorem dX7_hasShadow_6 : decode cX7_hasShadow 6 = .ok (.if_icmp .ge 32, 3) := by decide +kernel
theorem dX7_hasShadow_9 : decode cX7_hasShadow 9 = .ok (.aload_n 0, 1) := by decide +kernel
theorem dX7_hasShadow_10 : decode cX7_hasShadow 10 = .ok (.iload_n 1, 1) := by decide +kernel
theorem dX7_hasShadow_11 : decode cX7_hasShadow 11 = .ok (.iload_n 3, 1) := by decide +kernel
theorem dX7_hasShadow_12 : decode cX7_hasShadow 12 = .ok (.invokevirtual 88, 3) := by decide +kernel
theorem dX7_hasShadow_15 : decode cX7_hasShadow 15 = .ok (.iload_n 2, 1) := by decide +kernel
theorem dX7_hasShadow_16 : decode cX7_hasShadow 16 = .ok (.ifCond .ne 10, 3) := by decide +kernel
theorem dX7_hasShadow_19 : decode cX7_hasShadow 19 = .ok (.aload_n 0, 1) := by decide +kernel
theorem dX7_hasShadow_20 : decode cX7_hasShadow 20 = .ok (.getfield 72, 3) := by decide +kernel
theorem dX7_hasShadow_23 : decode cX7_hasShadow 23 = .ok (.ifCond .le 7, 3) := by decide +kernel
theorem dX7_hasShadow_26 : decode cX7_hasShadow 26 = .ok (.iconst 1, 1) := by decide +kernel
theorem dX7_hasShadow_27 : decode cX7_hasShadow 27 = .ok (.goto 4, 3) := by decide +kernel
theorem dX7_hasShadow_30 : decode cX7_hasShadow 30 = .ok (.iconst 0, 1) := by decide +kernel
theorem dX7_hasShadow_31 : decode cX7_hasShadow 31 = .ok (.istore_n 2, 1) := by decide +kernel
theorem dX7_hasShadow_32 : decode cX7_hasShadow 32 = .ok (.iinc 3 1, 3) := by decide +kernel
theorem dX7_hasShadow_35 : decode cX7_hasShadow 35 = .ok (.goto (-31), 3) := by decide +kernel
theorem dX7_hasShadow_38 : decode cX7_hasShadow 38 = .ok (.iload_n 2, 1) := by decide +kernel
theorem dX7_hasShadow_39 : decode cX7_hasShadow 39 = .ok (.ireturn, 1) := by decide +kernel
theorem dX7_go_0 : decode cX7_go 0 = .ok (.aload_n 0, 1) := by decide +kernel
theorem dX7_go_1 : decode cX7_go 1 = .ok (.iload_n 1, 1) := by decide +kernel
theorem dX7_go_2 : decode cX7_go 2 = .ok (.iconst 2, 1) := by decide +kernel
theorem dX7_go_3 : decode cX7_go 3 = .ok (.invokevirtual 68, 3) := by decide +kernel
theorem dX7_go_6 : decode cX7_go 6 = .ok (.iconst 4, 1) := by decide +kernel
theorem dX7_go_7 : decode cX7_go 7 = .ok (.if_icmp .ne 4, 3) := by decide +kernel
theorem dX7_go_10 : decode cX7_go 10 = .ok (.return_, 1) := by decide +kernel
theorem dX7_go_11 : decode cX7_go 11 = .ok (.aload_n 0, 1) := by decide +kernel
theorem dX7_go_12 : decode cX7_go 12 = .ok (.iload_n 1, 1) := by decide +kernel
theorem dX7_go_13 : decode cX7_go 13 = .ok (.iconst 0, 1) := by decide +kernel
theorem dX7_go_14 : decode cX7_go 14 = .ok (.invokevirtual 68, 3) := by decide +kernel
theorem dX7_go_17 : decode cX7_go 17 = .ok (.aload_n 0, 1) := by decide +kernel
theorem dX7_go_18 : decode cX7_go 18 = .ok (.iload_n 1, 1) := by decide +kernel
theorem dX7_go_19 : decode cX7_go 19 = .ok (.iconst 2, 1) := by decide +kernel
theorem dX7_go_20 : decode cX7_go 20 = .ok (.invokevirtual 68, 3) := by decide +kernel
theorem dX7_go_23 : decode cX7_go 23 = .ok (.invokestatic 81, 3) := by decide +kernel
theorem dX7_go_26 : decode cX7_go 26 = .ok (.istore_n 2, 1) := by decide +kernel
theorem dX7_go_27 : decode cX7_go 27 = .ok (.iload_n 2, 1) := by decide +kernel
theorem dX7_go_28 : decode cX7_go 28 = .ok (.bipush (-5), 2) := by decide +kernel
theorem dX7_go_30 : decode cX7_go 30 = .ok (.if_icmp .eq 13, 3) := by decide +kernel
theorem dX7_go_33 : decode cX7_go 33 = .ok (.aload_n 0, 1) := by decide +kernel
theorem dX7_go_34 : decode cX7_go 34 = .ok (.iload_n 2, 1) := by decide +kernel
theorem dX7_go_35 : decode cX7_go 35 = .ok (.invokevirtual 84, 3) := by decide +kernel
theorem dX7_go_38 : decode cX7_go 38 = .ok (.bipush (-5), 2) := by decide +kernel
theorem dX7_go_40 : decode cX7_go 40 = .ok (.if_icmp .eq 16, 3) := by decide +kernel
theorem dX7_go_43 : decode cX7_go 43 = .ok (.aload_n 0, 1) := by decide +kernel
theorem dX7_go_44 : decode cX7_go 44 = .ok (.getfield 7, 3) := by decide +kernel
theorem dX7_go_47 : decode cX7_go 47 = .ok (.iconst 4, 1) := by decide +kernel
theorem dX7_go_48 : decode cX7_go 48 = .ok (.dup2, 1) := by decide +kernel
theorem dX7_go_49 : decode cX7_go 49 = .ok (.iaload, 1) := by decide +kernel
theorem dX7_go_50 : decode cX7_go 50 = .ok (.iconst 1, 1) := by decide +kernel
theorem dX7_go_51 : decode cX7_go 51 = .ok (.iadd, 1) := by decide +kernel
theorem dX7_go_52 : decode cX7_go 52 = .ok (.iastore, 1) := by decide +kernel
theorem dX7_go_53 : decode cX7_go 53 = .ok (.goto 20, 3) := by decide +kernel
theorem dX7_go_56 : decode cX7_go 56 = .ok (.aload_n 0, 1) := by decide +kernel
theorem dX7_go_57 : decode cX7_go 57 = .ok (.iload_n 1, 1) := by decide +kernel
theorem dX7_go_58 : decode cX7_go 58 = .ok (.iconst 0, 1) := by decide +kernel
theorem dX7_go_59 : decode cX7_go 59 = .ok (.iload_n 2, 1) := by decide +kernel
theorem dX7_go_60 : decode cX7_go 60 = .ok (.invokevirtual 95, 3) := by decide +kernel
theorem dX7_go_63 : decode cX7_go 63 = .ok (.aload_n 0, 1) := by decide +kernel
theorem dX7_go_64 : decode cX7_go 64 = .ok (.getfield 7, 3) := by decide +kernel
theorem dX7_go_67 : decode cX7_go 67 = .ok (.iconst 3, 1) := by decide +kernel
theorem dX7_go_68 : decode cX7_go 68 = .ok (.dup2, 1) := by decide +kernel
theorem dX7_go_69 : decode cX7_go 69 = .ok (.iaload, 1) := by decide +kernel
theorem dX7_go_70 : decode cX7_go 70 = .ok (.iconst 1, 1) := by decide +kernel
theorem dX7_go_71 : decode cX7_go 71 = .ok (.iadd, 1) := by decide +kernel
theorem dX7_go_72 : decode cX7_go 72 = .ok (.iastore, 1) := by decide +kernel
theorem dX7_go_73 : decode cX7_go 73 = .ok (.return_, 1) := by decide +kernel
theorem dX7_tagNow_0 : decode cX7_tagNow 0 = .ok (.bipush (-5), 2) := by decide +kernel
theorem dX7_tagNow_2 : decode cX7_tagNow 2 = .ok (.istore_n 1, 1) := by decide +kernel
theorem dX7_tagNow_3 : decode cX7_tagNow 3 = .ok (.aload_n 0, 1) := by decide +kernel
theorem dX7_tagNow_4 : decode cX7_tagNow 4 = .ok (.getfield 7, 3) := by decide +kernel
theorem dX7_tagNow_7 : decode cX7_tagNow 7 = .ok (.bipush 20, 2) := by decide +kernel
theorem dX7_tagNow_9 : decode cX7_tagNow 9 = .ok (.iaload, 1) := by decide +kernel
theorem dX7_tagNow_10 : decode cX7_tagNow 10 = .ok (.iconst 1, 1) := by decide +kernel
theorem dX7_tagNow_11 : decode cX7_tagNow 11 = .ok (.isub, 1) := by decide +kernel
theorem dX7_tagNow_12 : decode cX7_tagNow 12 = .ok (.istore_n 2, 1) := by decide +kernel
theorem dX7_tagNow_13 : decode cX7_tagNow 13 = .ok (.iload_n 2, 1) := by decide +kernel
theorem dX7_tagNow_14 : decode cX7_tagNow 14 = .ok (.ifCond .lt 63, 3) := by decide +kernel
theorem dX7_tagNow_17 : decode cX7_tagNow 17 = .ok (.iload_n 2, 1) := by decide +kernel
theorem dX7_tagNow_18 : decode cX7_tagNow 18 = .ok (.aload_n 0, 1) := by decide +kernel
theorem dX7_tagNow_19 : decode cX7_tagNow 19 = .ok (.getfield 7, 3) := by decide +kernel
theorem dX7_tagNow_22 : decode cX7_tagNow 22 = .ok (.iconst 1, 1) := by decide +kernel
theorem dX7_tagNow_23 : decode cX7_tagNow 23 = .ok (.iaload, 1) := by decide +kernel
theorem dX7_tagNow_24 : decode cX7_tagNow 24 = .ok (.if_icmp .eq 35, 3) := by decide +kernel
theorem dX7_tagNow_27 : decode cX7_tagNow 27 = .ok (.aload_n 0, 1) := by decide +kernel
theorem dX7_tagNow_28 : decode cX7_tagNow 28 = .ok (.iload_n 2, 1) := by decide +kernel
theorem dX7_tagNow_29 : decode cX7_tagNow 29 = .ok (.iconst 3, 1) := by decide +kernel
theorem dX7_tagNow_30 : decode cX7_tagNow 30 = .ok (.invokevirtual 68, 3) := by decide +kernel
theorem dX7_tagNow_33 : decode cX7_tagNow 33 = .ok (.ifCond .ne 26, 3) := by decide +kernel
theorem dX7_tagNow_36 : decode cX7_tagNow 36 = .ok (.aload_n 0, 1) := by decide +kernel
theorem dX7_tagNow_37 : decode cX7_tagNow 37 = .ok (.iload_n 2, 1) := by decide +kernel
theorem dX7_tagNow_38 : decode cX7_tagNow 38 = .ok (.aload_n 0, 1) := by decide +kernel
theorem dX7_tagNow_39 : decode cX7_tagNow 39 = .ok (.aload_n 0, 1) := by decide +kernel
theorem dX7_tagNow_40 : decode cX7_tagNow 40 = .ok (.getfield 7, 3) := by decide +kernel
theorem dX7_tagNow_43 : decode cX7_tagNow 43 = .ok (.iconst 1, 1) := by decide +kernel
theorem dX7_tagNow_44 : decode cX7_tagNow 44 = .ok (.iaload, 1) := by decide +kernel
theorem dX7_tagNow_45 : decode cX7_tagNow 45 = .ok (.iconst 0, 1) := by decide +kernel
theorem dX7_tagNow_46 : decode cX7_tagNow 46 = .ok (.invokevirtual 68, 3) := by decide +kernel
theorem dX7_tagNow_49 : decode cX7_tagNow 49 = .ok (.invokevirtual 98, 3) := by decide +kernel
theorem dX7_tagNow_52 : decode cX7_tagNow 52 = .ok (.ifCond .eq 7, 3) := by decide +kernel
theorem dX7_tagNow_55 : decode cX7_tagNow 55 = .ok (.iconst 1, 1) := by decide +kernel
theorem dX7_tagNow_56 : decode cX7_tagNow 56 = .ok (.goto 4, 3) := by decide +kernel
theorem dX7_tagNow_59 : decode cX7_tagNow 59 = .ok (.iconst 0, 1) := by decide +kernel
theorem dX7_tagNow_60 : decode cX7_tagNow 60 = .ok (.istore_n 3, 1) := by decide +kernel
theorem dX7_tagNow_61 : decode cX7_tagNow 61 = .ok (.iload_n 3, 1) := by decide +kernel
theorem dX7_tagNow_62 : decode cX7_tagNow 62 = .ok (.ifCond .eq 7, 3) := by decide +kernel
theorem dX7_tagNow_65 : decode cX7_tagNow 65 = .ok (.iload_n 2, 1) := by decide +kernel
theorem dX7_tagNow_66 : decode cX7_tagNow 66 = .ok (.goto 4, 3) := by decide +kernel
theorem dX7_tagNow_69 : decode cX7_tagNow 69 = .ok (.iload_n 1, 1) := by decide +kernel
theorem dX7_tagNow_70 : decode cX7_tagNow 70 = .ok (.istore_n 1, 1) := by decide +kernel
theorem dX7_tagNow_71 : decode cX7_tagNow 71 = .ok (.iinc 2 (-1), 3) := by decide +kernel
theorem dX7_tagNow_74 : decode cX7_tagNow 74 = .ok (.goto (-61), 3) := by decide +kernel
theorem dX7_tagNow_77 : decode cX7_tagNow 77 = .ok (.iload_n 1, 1) := by decide +kernel
theorem dX7_tagNow_78 : decode cX7_tagNow 78 = .ok (.ireturn, 1) := by decide +kernel
theorem dX7_tag_0 : decode cX7_tag 0 = .ok (.aload_n 0, 1) := by decide +kernel
theorem dX7_tag_1 : decode cX7_tag 1 = .ok (.getfield 7, 3) := by decide +kernel
theorem dX7_tag_4 : decode cX7_tag 4 = .ok (.iconst 1, 1) := by decide +kernel
theorem dX7_tag_5 : decode cX7_tag 5 = .ok (.iaload, 1) := by decide +kernel
theorem dX7_tag_6 : decode cX7_tag 6 = .ok (.istore_n 2, 1) := by decide +kernel
theorem dX7_tag_7 : decode cX7_tag 7 = .ok (.aload_n 0, 1) := by decide +kernel
theorem dX7_tag_8 : decode cX7_tag 8 = .ok (.iload_n 1, 1) := by decide +kernel
theorem dX7_tag_9 : decode cX7_tag 9 = .ok (.iconst 4, 1) := by decide +kernel
theorem dX7_tag_10 : decode cX7_tag 10 = .ok (.aload_n 0, 1) := by decide +kernel
theorem dX7_tag_11 : decode cX7_tag 11 = .ok (.iload_n 1, 1) := by decide +kernel
theorem dX7_tag_12 : decode cX7_tag 12 = .ok (.iconst 4, 1) := by decide +kernel
theorem dX7_tag_13 : decode cX7_tag 13 = .ok (.invokevirtual 68, 3) := by decide +kernel
theorem dX7_tag_16 : decode cX7_tag 16 = .ok (.iconst 1, 1) := by decide +kernel
theorem dX7_tag_17 : decode cX7_tag 17 = .ok (.iadd, 1) := by decide +kernel
theorem dX7_tag_18 : decode cX7_tag 18 = .ok (.invokevirtual 95, 3) := by decide +kernel
theorem dX7_tag_21 : decode cX7_tag 21 = .ok (.aload_n 0, 1) := by decide +kernel
theorem dX7_tag_22 : decode cX7_tag 22 = .ok (.iload_n 2, 1) := by decide +kernel
theorem dX7_tag_23 : decode cX7_tag 23 = .ok (.iconst 5, 1) := by decide +kernel
theorem dX7_tag_24 : decode cX7_tag 24 = .ok (.aload_n 0, 1) := by decide +kernel
theorem dX7_tag_25 : decode cX7_tag 25 = .ok (.iload_n 2, 1) := by decide +kernel
theorem dX7_tag_26 : decode cX7_tag 26 = .ok (.iconst 5, 1) := by decide +kernel
theorem dX7_tag_27 : decode cX7_tag 27 = .ok (.invokevirtual 68, 3) := by decide +kernel
theorem dX7_tag_30 : decode cX7_tag 30 = .ok (.iconst 1, 1) := by decide +kernel
theorem dX7_tag_31 : decode cX7_tag 31 = .ok (.iadd, 1) := by decide +kernel
theorem dX7_tag_32 : decode cX7_tag 32 = .ok (.invokevirtual 95, 3) := by decide +kernel
theorem dX7_tag_35 : decode cX7_tag 35 = .ok (.aload_n 0, 1) := by decide +kernel
theorem dX7_tag_36 : decode cX7_tag 36 = .ok (.iload_n 2, 1) := by decide +kernel
theorem dX7_tag_37 : decode cX7_tag 37 = .ok (.iconst 3, 1) := by decide +kernel
theorem dX7_tag_38 : decode cX7_tag 38 = .ok (.aload_n 0, 1) := by decide +kernel
theorem dX7_tag_39 : decode cX7_tag 39 = .ok (.getfield 7, 3) := by decide +kernel
theorem dX7_tag_42 : decode cX7_tag 42 = .ok (.bipush 6, 2) := by decide +kernel
theorem dX7_tag_44 : decode cX7_tag 44 = .ok (.iaload, 1) := by decide +kernel
theorem dX7_tag_45 : decode cX7_tag 45 = .ok (.iconst 1, 1) := by decide +kernel
theorem dX7_tag_46 : decode cX7_tag 46 = .ok (.iadd, 1) := by decide +kernel
theorem dX7_tag_47 : decode cX7_tag 47 = .ok (.invokevirtual 95, 3) := by decide +kernel
theorem dX7_tag_50 : decode cX7_tag 50 = .ok (.aload_n 0, 1) := by decide +kernel
theorem dX7_tag_51 : decode cX7_tag 51 = .ok (.getfield 7, 3) := by decide +kernel
theorem dX7_tag_54 : decode cX7_tag 54 = .ok (.iconst 1, 1) := by decide +kernel
theorem dX7_tag_55 : decode cX7_tag 55 = .ok (.iload_n 1, 1) := by decide +kernel
theorem dX7_tag_56 : decode cX7_tag 56 = .ok (.iastore, 1) := by decide +kernel
theorem dX7_tag_57 : decode cX7_tag 57 = .ok (.aload_n 0, 1) := by decide +kernel
theorem dX7_tag_58 : decode cX7_tag 58 = .ok (.getfield 7, 3) := by decide +kernel
theorem dX7_tag_61 : decode cX7_tag 61 = .ok (.iconst 2, 1) := by decide +kernel
theorem dX7_tag_62 : decode cX7_tag 62 = .ok (.dup2, 1) := by decide +kernel
theorem dX7_tag_63 : decode cX7_tag 63 = .ok (.iaload, 1) := by decide +kernel
theorem dX7_tag_64 : decode cX7_tag 64 = .ok (.iconst 1, 1) := by decide +kernel
theorem dX7_tag_65 : decode cX7_tag 65 = .ok (.iadd, 1) := by decide +kernel
theorem dX7_tag_66 : decode cX7_tag 66 = .ok (.iastore, 1) := by decide +kernel
theorem dX7_tag_67 : decode cX7_tag 67 = .ok (.return_, 1) := by decide +kernel
theorem dX7_turnPlatform_0 : decode cX7_turnPlatform 0 = .ok (.iconst 0, 1) := by decide +kernel
theorem dX7_turnPlatform_1 : decode cX7_turnPlatform 1 = .ok (.istore_n 1, 1) := by decide +kernel
theorem dX7_turnPlatform_2 : decode cX7_turnPlatform 2 = .ok (.iload_n 1, 1) := by decide +kernel
theorem dX7_turnPlatform_3 : decode cX7_turnPlatform 3 = .ok (.aload_n 0, 1) := by decide +kernel
theorem dX7_turnPlatform_4 : decode cX7_turnPlatform 4 = .ok (.getfield 7, 3) := by decide +kernel
theorem dX7_turnPlatform_7 : decode cX7_turnPlatform 7 = .ok (.bipush 20, 2) := by decide +kernel
theorem dX7_turnPlatform_9 : decode cX7_turnPlatform 9 = .ok (.iaload, 1) := by decide +kernel
theorem dX7_turnPlatform_10 : decode cX7_turnPlatform 10 = .ok (.if_icmp .ge 63, 3) := by decide +kernel
theorem dX7_turnPlatform_13 : decode cX7_turnPlatform 13 = .ok (.aload_n 0, 1) := by decide +kernel
theorem dX7_turnPlatform_14 : decode cX7_turnPlatform 14 = .ok (.iload_n 1, 1) := by decide +kernel
theorem dX7_turnPlatform_15 : decode cX7_turnPlatform 15 = .ok (.iconst 0, 1) := by decide +kernel
theorem dX7_turnPlatform_16 : decode cX7_turnPlatform 16 = .ok (.invokevirtual 68, 3) := by decide +kernel
theorem dX7_turnPlatform_19 : decode cX7_turnPlatform 19 = .ok (.istore_n 2, 1) := by decide +kernel
theorem dX7_turnPlatform_20 : decode cX7_turnPlatform 20 = .ok (.aload_n 0, 1) := by decide +kernel
theorem dX7_turnPlatform_21 : decode cX7_turnPlatform 21 = .ok (.iload_n 1, 1) := by decide +kernel
theorem dX7_turnPlatform_22 : decode cX7_turnPlatform 22 = .ok (.iconst 0, 1) := by decide +kernel
theorem dX7_turnPlatform_23 : decode cX7_turnPlatform 23 = .ok (.iload_n 2, 1) := by decide +kernel
theorem dX7_turnPlatform_24 : decode cX7_turnPlatform 24 = .ok (.bipush 10, 2) := by decide +kernel
theorem dX7_turnPlatform_26 : decode cX7_turnPlatform 26 = .ok (.irem, 1) := by decide +kernel
theorem dX7_turnPlatform_27 : decode cX7_turnPlatform 27 = .ok (.bipush 10, 2) := by decide +kernel
theorem dX7_turnPlatform_29 : decode cX7_turnPlatform 29 = .ok (.imul, 1) := by decide +kernel
theorem dX7_turnPlatform_30 : decode cX7_turnPlatform 30 = .ok (.bipush 9, 2) := by decide +kernel
theorem dX7_turnPlatform_32 : decode cX7_turnPlatform 32 = .ok (.iadd, 1) := by decide +kernel
theorem dX7_turnPlatform_33 : decode cX7_turnPlatform 33 = .ok (.iload_n 2, 1) := by decide +kernel
theorem dX7_turnPlatform_34 : decode cX7_turnPlatform 34 = .ok (.bipush 10, 2) := by decide +kernel
theorem dX7_turnPlatform_36 : decode cX7_turnPlatform 36 = .ok (.idiv, 1) := by decide +kernel
theorem dX7_turnPlatform_37 : decode cX7_turnPlatform 37 = .ok (.isub, 1) := by decide +kernel
theorem dX7_turnPlatform_38 : decode cX7_turnPlatform 38 = .ok (.invokevirtual 95, 3) := by decide +kernel
theorem dX7_turnPlatform_41 : decode cX7_turnPlatform 41 = .ok (.aload_n 0, 1) := by decide +kernel
theorem dX7_turnPlatform_42 : decode cX7_turnPlatform 42 = .ok (.iload_n 1, 1) := by decide +kernel
theorem dX7_turnPlatform_43 : decode cX7_turnPlatform 43 = .ok (.iconst 2, 1) := by decide +kernel
theorem dX7_turnPlatform_44 : decode cX7_turnPlatform 44 = .ok (.invokevirtual 68, 3) := by decide +kernel
theorem dX7_turnPlatform_47 : decode cX7_turnPlatform 47 = .ok (.iconst 4, 1) := by decide +kernel
theorem dX7_turnPlatform_48 : decode cX7_turnPlatform 48 = .ok (.if_icmp .eq 19, 3) := by decide +kernel
theorem dX7_turnPlatform_51 : decode cX7_turnPlatform 51 = .ok (.aload_n 0, 1) := by decide +kernel
theorem dX7_turnPlatform_52 : decode cX7_turnPlatform 52 = .ok (.iload_n 1, 1) := by decide +kernel
theorem dX7_turnPlatform_53 : decode cX7_turnPlatform 53 = .ok (.iconst 2, 1) := by decide +kernel
theorem dX7_turnPlatform_54 : decode cX7_turnPlatform 54 = .ok (.aload_n 0, 1) := by decide +kernel
theorem dX7_turnPlatform_55 : decode cX7_turnPlatform 55 = .ok (.iload_n 1, 1) := by decide +kernel
theorem dX7_turnPlatform_56 : decode cX7_turnPlatform 56 = .ok (.iconst 2, 1) := by decide +kernel
theorem dX7_turnPlatform_57 : decode cX7_turnPlatform 57 = .ok (.invokevirtual 68, 3) := by decide +kernel
theorem dX7_turnPlatform_60 : decode cX7_turnPlatform 60 = .ok (.iconst 1, 1) := by decide +kernel
theorem dX7_turnPlatform_61 : decode cX7_turnPlatform 61 = .ok (.iadd, 1) := by decide +kernel
theorem dX7_turnPlatform_62 : decode cX7_turnPlatform 62 = .ok (.iconst 4, 1) := by decide +kernel
theorem dX7_turnPlatform_63 : decode cX7_turnPlatform 63 = .ok (.irem, 1) := by decide +kernel
theorem dX7_turnPlatform_64 : decode cX7_turnPlatform 64 = .ok (.invokevirtual 95, 3) := by decide +kernel
theorem dX7_turnPlatform_67 : decode cX7_turnPlatform 67 = .ok (.iinc 1 1, 3) := by decide +kernel
theorem dX7_turnPlatform_70 : decode cX7_turnPlatform 70 = .ok (.goto (-68), 3) := by decide +kernel
theorem dX7_turnPlatform_73 : decode cX7_turnPlatform 73 = .ok (.aload_n 0, 1) := by decide +kernel
theorem dX7_turnPlatform_74 : decode cX7_turnPlatform 74 = .ok (.getfield 7, 3) := by decide +kernel
theorem dX7_turnPlatform_77 : decode cX7_turnPlatform 77 = .ok (.iconst 5, 1) := by decide +kernel
theorem dX7_turnPlatform_78 : decode cX7_turnPlatform 78 = .ok (.dup2, 1) := by decide +kernel
theorem dX7_turnPlatform_79 : decode cX7_turnPlatform 79 = .ok (.iaload, 1) := by decide +kernel
theorem dX7_turnPlatform_80 : decode cX7_turnPlatform 80 = .ok (.iconst 1, 1) := by decide +kernel
theorem dX7_turnPlatform_81 : decode cX7_turnPlatform 81 = .ok (.iadd, 1) := by decide +kernel
theorem dX7_turnPlatform_82 : decode cX7_turnPlatform 82 = .ok (.iastore, 1) := by decide +kernel
theorem dX7_turnPlatform_83 : decode cX7_turnPlatform 83 = .ok (.return_, 1) := by decide +kernel
theorem dX7_turn_0 : decode cX7_turn 0 = .ok (.iconst 0, 1) := by decide +kernel
theorem dX7_turn_1 : decode cX7_turn 1 = .ok (.istore_n 1, 1) := by decide +kernel
theorem dX7_turn_2 : decode cX7_turn 2 = .ok (.iload_n 1, 1) := by decide +kernel
theorem dX7_turn_3 : decode cX7_turn 3 = .ok (.aload_n 0, 1) := by decide +kernel
theorem dX7_turn_4 : decode cX7_turn 4 = .ok (.getfield 7, 3) := by decide +kernel
theorem dX7_turn_7 : decode cX7_turn 7 = .ok (.bipush 20, 2) := by decide +kernel
theorem dX7_turn_9 : decode cX7_turn 9 = .ok (.iaload, 1) := by decide +kernel
theorem dX7_turn_10 : decode cX7_turn 10 = .ok (.if_icmp .ge 14, 3) := by decide +kernel
theorem dX7_turn_13 : decode cX7_turn 13 = .ok (.aload_n 0, 1) := by decide +kernel
theorem dX7_turn_14 : decode cX7_turn 14 = .ok (.iload_n 1, 1) := by decide +kernel
theorem dX7_turn_15 : decode cX7_turn 15 = .ok (.invokevirtual 102, 3) := by decide +kernel
theorem dX7_turn_18 : decode cX7_turn 18 = .ok (.iinc 1 1, 3) := by decide +kernel
theorem dX7_turn_21 : decode cX7_turn 21 = .ok (.goto (-19), 3) := by decide +kernel
theorem dX7_turn_24 : decode cX7_turn 24 = .ok (.aload_n 0, 1) := by decide +kernel
theorem dX7_turn_25 : decode cX7_turn 25 = .ok (.invokevirtual 106, 3) := by decide +kernel
theorem dX7_turn_28 : decode cX7_turn 28 = .ok (.istore_n 1, 1) := by decide +kernel
theorem dX7_turn_29 : decode cX7_turn 29 = .ok (.iload_n 1, 1) := by decide +kernel
theorem dX7_turn_30 : decode cX7_turn 30 = .ok (.bipush (-5), 2) := by decide +kernel
theorem dX7_turn_32 : decode cX7_turn 32 = .ok (.if_icmp .eq 8, 3) := by decide +kernel
theorem dX7_turn_35 : decode cX7_turn 35 = .ok (.aload_n 0, 1) := by decide +kernel
theorem dX7_turn_36 : decode cX7_turn 36 = .ok (.iload_n 1, 1) := by decide +kernel
theorem dX7_turn_37 : decode cX7_turn 37 = .ok (.invokevirtual 110, 3) := by decide +kernel
theorem dX7_turn_40 : decode cX7_turn 40 = .ok (.iconst 0, 1) := by decide +kernel
theorem dX7_turn_41 : decode cX7_turn 41 = .ok (.istore_n 2, 1) := by decide +kernel
theorem dX7_turn_42 : decode cX7_turn 42 = .ok (.iload_n 2, 1) := by decide +kernel
theorem dX7_turn_43 : decode cX7_turn 43 = .ok (.aload_n 0, 1) := by decide +kernel
theorem dX7_turn_44 : decode cX7_turn 44 = .ok (.getfield 7, 3) := by decide +kernel
theorem dX7_turn_47 : decode cX7_turn 47 = .ok (.bipush 20, 2) := by decide +kernel
theorem dX7_turn_49 : decode cX7_turn 49 = .ok (.iaload, 1) := by decide +kernel
theorem dX7_turn_50 : decode cX7_turn 50 = .ok (.if_icmp .ge 66, 3) := by decide +kernel
theorem dX7_turn_53 : decode cX7_turn 53 = .ok (.aload_n 0, 1) := by decide +kernel
theorem dX7_turn_54 : decode cX7_turn 54 = .ok (.iload_n 2, 1) := by decide +kernel
theorem dX7_turn_55 : decode cX7_turn 55 = .ok (.iconst 3, 1) := by decide +kernel
theorem dX7_turn_56 : decode cX7_turn 56 = .ok (.aload_n 0, 1) := by decide +kernel
theorem dX7_turn_57 : decode cX7_turn 57 = .ok (.iload_n 2, 1) := by decide +kernel
theorem dX7_turn_58 : decode cX7_turn 58 = .ok (.iconst 3, 1) := by decide +kernel
theorem dX7_turn_59 : decode cX7_turn 59 = .ok (.invokevirtual 68, 3) := by decide +kernel
theorem dX7_turn_62 : decode cX7_turn 62 = .ok (.ifCond .le 14, 3) := by decide +kernel
theorem dX7_turn_65 : decode cX7_turn 65 = .ok (.aload_n 0, 1) := by decide +kernel
theorem dX7_turn_66 : decode cX7_turn 66 = .ok (.iload_n 2, 1) := by decide +kernel
theorem dX7_turn_67 : decode cX7_turn 67 = .ok (.iconst 3, 1) := by decide +kernel
theorem dX7_turn_68 : decode cX7_turn 68 = .ok (.invokevirtual 68, 3) := by decide +kernel
theorem dX7_turn_71 : decode cX7_turn 71 = .ok (.iconst 1, 1) := by decide +kernel
theorem dX7_turn_72 : decode cX7_turn 72 = .ok (.isub, 1) := by decide +kernel
theorem dX7_turn_73 : decode cX7_turn 73 = .ok (.goto 4, 3) := by decide +kernel
theorem dX7_turn_76 : decode cX7_turn 76 = .ok (.iconst 0, 1) := by decide +kernel
theorem dX7_turn_77 : decode cX7_turn 77 = .ok (.invokevirtual 95, 3) := by decide +kernel
theorem dX7_turn_80 : decode cX7_turn 80 = .ok (.aload_n 0, 1) := by decide +kernel
theorem dX7_turn_81 : decode cX7_turn 81 = .ok (.iload_n 2, 1) := by decide +kernel
theorem dX7_turn_82 : decode cX7_turn 82 = .ok (.bipush 6, 2) := by decide +kernel
theorem dX7_turn_84 : decode cX7_turn 84 = .ok (.aload_n 0, 1) := by decide +kernel
theorem dX7_turn_85 : decode cX7_turn 85 = .ok (.iload_n 2, 1) := by decide +kernel
theorem dX7_turn_86 : decode cX7_turn 86 = .ok (.bipush 6, 2) := by decide +kernel
theorem dX7_turn_88 : decode cX7_turn 88 = .ok (.invokevirtual 68, 3) := by decide +kernel
theorem dX7_turn_91 : decode cX7_turn 91 = .ok (.iload_n 2, 1) := by decide +kernel
theorem dX7_turn_92 : decode cX7_turn 92 = .ok (.aload_n 0, 1) := by decide +kernel
theorem dX7_turn_93 : decode cX7_turn 93 = .ok (.getfield 7, 3) := by decide +kernel
theorem dX7_turn_96 : decode cX7_turn 96 = .ok (.iconst 1, 1) := by decide +kernel
theorem dX7_turn_97 : decode cX7_turn 97 = .ok (.iaload, 1) := by decide +kernel
theorem dX7_turn_98 : decode cX7_turn 98 = .ok (.if_icmp .ne 7, 3) := by decide +kernel
theorem dX7_turn_101 : decode cX7_turn 101 = .ok (.iconst 0, 1) := by decide +kernel
theorem dX7_turn_102 : decode cX7_turn 102 = .ok (.goto 4, 3) := by decide +kernel
theorem dX7_turn_105 : decode cX7_turn 105 = .ok (.iconst 1, 1) := by decide +kernel
theorem dX7_turn_106 : decode cX7_turn 106 = .ok (.iadd, 1) := by decide +kernel
theorem dX7_turn_107 : decode cX7_turn 107 = .ok (.invokevirtual 95, 3) := by decide +kernel
theorem dX7_turn_110 : decode cX7_turn 110 = .ok (.iinc 2 1, 3) := by decide +kernel
theorem dX7_turn_113 : decode cX7_turn 113 = .ok (.goto (-71), 3) := by decide +kernel
theorem dX7_turn_116 : decode cX7_turn 116 = .ok (.aload_n 0, 1) := by decide +kernel
theorem dX7_turn_117 : decode cX7_turn 117 = .ok (.getfield 7, 3) := by decide +kernel
theorem dX7_turn_120 : decode cX7_turn 120 = .ok (.iconst 0, 1) := by decide +kernel
theorem dX7_turn_121 : decode cX7_turn 121 = .ok (.dup2, 1) := by decide +kernel
theorem dX7_turn_122 : decode cX7_turn 122 = .ok (.iaload, 1) := by decide +kernel
theorem dX7_turn_123 : decode cX7_turn 123 = .ok (.iconst 1, 1) := by decide +kernel
theorem dX7_turn_124 : decode cX7_turn 124 = .ok (.iadd, 1) := by decide +kernel
theorem dX7_turn_125 : decode cX7_turn 125 = .ok (.iastore, 1) := by decide +kernel
theorem dX7_turn_126 : decode cX7_turn 126 = .ok (.iconst 0, 1) := by decide +kernel
theorem dX7_turn_127 : decode cX7_turn 127 = .ok (.istore_n 2, 1) := by decide +kernel
theorem dX7_turn_128 : decode cX7_turn 128 = .ok (.iload_n 2, 1) := by decide +kernel
theorem dX7_turn_129 : decode cX7_turn 129 = .ok (.iconst 3, 1) := by decide +kernel
theorem dX7_turn_130 : decode cX7_turn 130 = .ok (.if_icmp .ge 50, 3) := by decide +kernel
theorem dX7_turn_133 : decode cX7_turn 133 = .ok (.aload_n 0, 1) := by decide +kernel
theorem dX7_turn_134 : decode cX7_turn 134 = .ok (.iload_n 2, 1) := by decide +kernel
theorem dX7_turn_135 : decode cX7_turn 135 = .ok (.iconst 2, 1) := by decide +kernel
theorem dX7_turn_136 : decode cX7_turn 136 = .ok (.invokevirtual 78, 3) := by decide +kernel
theorem dX7_turn_139 : decode cX7_turn 139 = .ok (.ifCond .le 35, 3) := by decide +kernel
theorem dX7_turn_142 : decode cX7_turn 142 = .ok (.aload_n 0, 1) := by decide +kernel
theorem dX7_turn_143 : decode cX7_turn 143 = .ok (.getfield 7, 3) := by decide +kernel
theorem dX7_turn_146 : decode cX7_turn 146 = .ok (.iconst 0, 1) := by decide +kernel
theorem dX7_turn_147 : decode cX7_turn 147 = .ok (.iaload, 1) := by decide +kernel
theorem dX7_turn_148 : decode cX7_turn 148 = .ok (.aload_n 0, 1) := by decide +kernel
theorem dX7_turn_149 : decode cX7_turn 149 = .ok (.iload_n 2, 1) := by decide +kernel
theorem dX7_turn_150 : decode cX7_turn 150 = .ok (.iconst 2, 1) := by decide +kernel
theorem dX7_turn_151 : decode cX7_turn 151 = .ok (.invokevirtual 78, 3) := by decide +kernel
theorem dX7_turn_154 : decode cX7_turn 154 = .ok (.irem, 1) := by decide +kernel
theorem dX7_turn_155 : decode cX7_turn 155 = .ok (.ifCond .ne 19, 3) := by decide +kernel
theorem dX7_turn_158 : decode cX7_turn 158 = .ok (.aload_n 0, 1) := by decide +kernel
theorem dX7_turn_159 : decode cX7_turn 159 = .ok (.iload_n 2, 1) := by decide +kernel
theorem dX7_turn_160 : decode cX7_turn 160 = .ok (.iconst 0, 1) := by decide +kernel
theorem dX7_turn_161 : decode cX7_turn 161 = .ok (.aload_n 0, 1) := by decide +kernel
theorem dX7_turn_162 : decode cX7_turn 162 = .ok (.iload_n 2, 1) := by decide +kernel
theorem dX7_turn_163 : decode cX7_turn 163 = .ok (.iconst 0, 1) := by decide +kernel
theorem dX7_turn_164 : decode cX7_turn 164 = .ok (.invokevirtual 78, 3) := by decide +kernel
theorem dX7_turn_167 : decode cX7_turn 167 = .ok (.iconst 1, 1) := by decide +kernel
theorem dX7_turn_168 : decode cX7_turn 168 = .ok (.iadd, 1) := by decide +kernel
theorem dX7_turn_169 : decode cX7_turn 169 = .ok (.iconst 4, 1) := by decide +kernel
theorem dX7_turn_170 : decode cX7_turn 170 = .ok (.irem, 1) := by decide +kernel
theorem dX7_turn_171 : decode cX7_turn 171 = .ok (.invokevirtual 47, 3) := by decide +kernel
theorem dX7_turn_174 : decode cX7_turn 174 = .ok (.iinc 2 1, 3) := by decide +kernel
theorem dX7_turn_177 : decode cX7_turn 177 = .ok (.goto (-49), 3) := by decide +kernel
theorem dX7_turn_180 : decode cX7_turn 180 = .ok (.aload_n 0, 1) := by decide +kernel
theorem dX7_turn_181 : decode cX7_turn 181 = .ok (.getfield 7, 3) := by decide +kernel
theorem dX7_turn_184 : decode cX7_turn 184 = .ok (.bipush 7, 2) := by decide +kernel
theorem dX7_turn_186 : decode cX7_turn 186 = .ok (.iaload, 1) := by decide +kernel
theorem dX7_turn_187 : decode cX7_turn 187 = .ok (.ifCond .le 24, 3) := by decide +kernel
theorem dX7_turn_190 : decode cX7_turn 190 = .ok (.aload_n 0, 1) := by decide +kernel
theorem dX7_turn_191 : decode cX7_turn 191 = .ok (.getfield 7, 3) := by decide +kernel
theorem dX7_turn_194 : decode cX7_turn 194 = .ok (.iconst 0, 1) := by decide +kernel
theorem dX7_turn_195 : decode cX7_turn 195 = .ok (.iaload, 1) := by decide +kernel
theorem dX7_turn_196 : decode cX7_turn 196 = .ok (.aload_n 0, 1) := by decide +kernel
theorem dX7_turn_197 : decode cX7_turn 197 = .ok (.getfield 7, 3) := by decide +kernel
theorem dX7_turn_200 : decode cX7_turn 200 = .ok (.bipush 7, 2) := by decide +kernel
theorem dX7_turn_202 : decode cX7_turn 202 = .ok (.iaload, 1) := by decide +kernel
theorem dX7_turn_203 : decode cX7_turn 203 = .ok (.irem, 1) := by decide +kernel
theorem dX7_turn_204 : decode cX7_turn 204 = .ok (.ifCond .ne 7, 3) := by decide +kernel
theorem dX7_turn_207 : decode cX7_turn 207 = .ok (.aload_n 0, 1) := by decide +kernel
theorem dX7_turn_208 : decode cX7_turn 208 = .ok (.invokevirtual 113, 3) := by decide +kernel
theorem dX7_turn_211 : decode cX7_turn 211 = .ok (.return_, 1) := by decide +kernel
theorem dX7_comeNow_0 : decode cX7_comeNow 0 = .ok (.iload_n 1, 1) := by decide +kernel
theorem dX7_comeNow_1 : decode cX7_comeNow 1 = .ok (.invokestatic 116, 3) := by decide +kernel
theorem dX7_comeNow_4 : decode cX7_comeNow 4 = .ok (.ifCond .ne 5, 3) := by decide +kernel
theorem dX7_comeNow_7 : decode cX7_comeNow 7 = .ok (.iconst (-1), 1) := by decide +kernel
theorem dX7_comeNow_8 : decode cX7_comeNow 8 = .ok (.ireturn, 1) := by decide +kernel
theorem dX7_comeNow_9 : decode cX7_comeNow 9 = .ok (.iload_n 2, 1) := by decide +kernel
theorem dX7_comeNow_10 : decode cX7_comeNow 10 = .ok (.iconst 1, 1) := by decide +kernel
theorem dX7_comeNow_11 : decode cX7_comeNow 11 = .ok (.iconst 5, 1) := by decide +kernel
theorem dX7_comeNow_12 : decode cX7_comeNow 12 = .ok (.invokestatic 51, 3) := by decide +kernel
theorem dX7_comeNow_15 : decode cX7_comeNow 15 = .ok (.ifCond .ne 6, 3) := by decide +kernel
theorem dX7_comeNow_18 : decode cX7_comeNow 18 = .ok (.bipush (-2), 2) := by decide +kernel
theorem dX7_comeNow_20 : decode cX7_comeNow 20 = .ok (.ireturn, 1) := by decide +kernel
theorem dX7_comeNow_21 : decode cX7_comeNow 21 = .ok (.aload_n 0, 1) := by decide +kernel
theorem dX7_comeNow_22 : decode cX7_comeNow 22 = .ok (.iload_n 1, 1) := by decide +kernel
theorem dX7_comeNow_23 : decode cX7_comeNow 23 = .ok (.invokevirtual 84, 3) := by decide +kernel
theorem dX7_comeNow_26 : decode cX7_comeNow 26 = .ok (.bipush (-5), 2) := by decide +kernel
theorem dX7_comeNow_28 : decode cX7_comeNow 28 = .ok (.if_icmp .eq 6, 3) := by decide +kernel
theorem dX7_comeNow_31 : decode cX7_comeNow 31 = .ok (.bipush (-4), 2) := by decide +kernel
theorem dX7_comeNow_33 : decode cX7_comeNow 33 = .ok (.ireturn, 1) := by decide +kernel
theorem dX7_comeNow_34 : decode cX7_comeNow 34 = .ok (.aload_n 0, 1) := by decide +kernel
theorem dX7_comeNow_35 : decode cX7_comeNow 35 = .ok (.getfield 7, 3) := by decide +kernel
theorem dX7_comeNow_38 : decode cX7_comeNow 38 = .ok (.bipush 20, 2) := by decide +kernel
theorem dX7_comeNow_40 : decode cX7_comeNow 40 = .ok (.iaload, 1) := by decide +kernel
theorem dX7_comeNow_41 : decode cX7_comeNow 41 = .ok (.bipush 6, 2) := by decide +kernel
theorem dX7_comeNow_43 : decode cX7_comeNow 43 = .ok (.if_icmp .ne 6, 3) := by decide +kernel
theorem dX7_comeNow_46 : decode cX7_comeNow 46 = .ok (.bipush (-3), 2) := by decide +kernel
theorem dX7_comeNow_48 : decode cX7_comeNow 48 = .ok (.ireturn, 1) := by decide +kernel
theorem dX7_comeNow_49 : decode cX7_comeNow 49 = .ok (.aload_n 0, 1) := by decide +kernel
theorem dX7_comeNow_50 : decode cX7_comeNow 50 = .ok (.getfield 7, 3) := by decide +kernel
theorem dX7_comeNow_53 : decode cX7_comeNow 53 = .ok (.bipush 20, 2) := by decide +kernel
theorem dX7_comeNow_55 : decode cX7_comeNow 55 = .ok (.iaload, 1) := by decide +kernel
theorem dX7_comeNow_56 : decode cX7_comeNow 56 = .ok (.istore_n 3, 1) := by decide +kernel
theorem dX7_comeNow_57 : decode cX7_comeNow 57 = .ok (.iconst 0, 1) := by decide +kernel
theorem dX7_comeNow_58 : decode cX7_comeNow 58 = .ok (.istore 4, 2) := by decide +kernel
theorem dX7_comeNow_60 : decode cX7_comeNow 60 = .ok (.iload 4, 2) := by decide +kernel
theorem dX7_comeNow_62 : decode cX7_comeNow 62 = .ok (.bipush 7, 2) := by decide +kernel
theorem dX7_comeNow_64 : decode cX7_comeNow 64 = .ok (.if_icmp .ge 17, 3) := by decide +kernel
theorem dX7_comeNow_67 : decode cX7_comeNow 67 = .ok (.aload_n 0, 1) := by decide +kernel
theorem dX7_comeNow_68 : decode cX7_comeNow 68 = .ok (.iload_n 3, 1) := by decide +kernel
theorem dX7_comeNow_69 : decode cX7_comeNow 69 = .ok (.iload 4, 2) := by decide +kernel
theorem dX7_comeNow_71 : decode cX7_comeNow 71 = .ok (.iconst 0, 1) := by decide +kernel
theorem dX7_comeNow_72 : decode cX7_comeNow 72 = .ok (.invokevirtual 95, 3) := by decide +kernel
theorem dX7_comeNow_75 : decode cX7_comeNow 75 = .ok (.iinc 4 1, 3) := by decide +kernel
theorem dX7_comeNow_78 : decode cX7_comeNow 78 = .ok (.goto (-18), 3) := by decide +kernel
theorem dX7_comeNow_81 : decode cX7_comeNow 81 = .ok (.aload_n 0, 1) := by decide +kernel
theorem dX7_comeNow_82 : decode cX7_comeNow 82 = .ok (.iload_n 3, 1) := by decide +kernel
theorem dX7_comeNow_83 : decode cX7_comeNow 83 = .ok (.iconst 0, 1) := by decide +kernel
theorem dX7_comeNow_84 : decode cX7_comeNow 84 = .ok (.iload_n 1, 1) := by decide +kernel
theorem dX7_comeNow_85 : decode cX7_comeNow 85 = .ok (.invokevirtual 95, 3) := by decide +kernel
theorem dX7_comeNow_88 : decode cX7_comeNow 88 = .ok (.aload_n 0, 1) := by decide +kernel
theorem dX7_comeNow_89 : decode cX7_comeNow 89 = .ok (.iload_n 3, 1) := by decide +kernel
theorem dX7_comeNow_90 : decode cX7_comeNow 90 = .ok (.iconst 1, 1) := by decide +kernel
theorem dX7_comeNow_91 : decode cX7_comeNow 91 = .ok (.iload_n 2, 1) := by decide +kernel
theorem dX7_comeNow_92 : decode cX7_comeNow 92 = .ok (.invokevirtual 95, 3) := by decide +kernel
theorem dX7_comeNow_95 : decode cX7_comeNow 95 = .ok (.aload_n 0, 1) := by decide +kernel
theorem dX7_comeNow_96 : decode cX7_comeNow 96 = .ok (.iload_n 3, 1) := by decide +kernel
theorem dX7_comeNow_97 : decode cX7_comeNow 97 = .ok (.iconst 2, 1) := by decide +kernel
theorem dX7_comeNow_98 : decode cX7_comeNow 98 = .ok (.iconst 4, 1) := by decide +kernel
theorem dX7_comeNow_99 : decode cX7_comeNow 99 = .ok (.invokevirtual 95, 3) := by decide +kernel
theorem dX7_comeNow_102 : decode cX7_comeNow 102 = .ok (.aload_n 0, 1) := by decide +kernel
theorem dX7_comeNow_103 : decode cX7_comeNow 103 = .ok (.getfield 7, 3) := by decide +kernel
theorem dX7_comeNow_106 : decode cX7_comeNow 106 = .ok (.bipush 20, 2) := by decide +kernel
theorem dX7_comeNow_108 : decode cX7_comeNow 108 = .ok (.dup2, 1) := by decide +kernel
theorem dX7_comeNow_109 : decode cX7_comeNow 109 = .ok (.iaload, 1) := by decide +kernel
theorem dX7_comeNow_110 : decode cX7_comeNow 110 = .ok (.iconst 1, 1) := by decide +kernel
theorem dX7_comeNow_111 : decode cX7_comeNow 111 = .ok (.iadd, 1) := by decide +kernel
theorem dX7_comeNow_112 : decode cX7_comeNow 112 = .ok (.iastore, 1) := by decide +kernel
theorem dX7_comeNow_113 : decode cX7_comeNow 113 = .ok (.aload_n 0, 1) := by decide +kernel
theorem dX7_comeNow_114 : decode cX7_comeNow 114 = .ok (.getfield 7, 3) := by decide +kernel
theorem dX7_comeNow_117 : decode cX7_comeNow 117 = .ok (.iconst 1, 1) := by decide +kernel
theorem dX7_comeNow_118 : decode cX7_comeNow 118 = .ok (.iload_n 3, 1) := by decide +kernel
theorem dX7_comeNow_119 : decode cX7_comeNow 119 = .ok (.ifCond .ne 7, 3) := by decide +kernel
theorem dX7_comeNow_122 : decode cX7_comeNow 122 = .ok (.iconst 0, 1) := by decide +kernel
theorem dX7_comeNow_123 : decode cX7_comeNow 123 = .ok (.goto 9, 3) := by decide +kernel
theorem dX7_comeNow_126 : decode cX7_comeNow 126 = .ok (.aload_n 0, 1) := by decide +kernel
theorem dX7_comeNow_127 : decode cX7_comeNow 127 = .ok (.getfield 7, 3) := by decide +kernel
theorem dX7_comeNow_130 : decode cX7_comeNow 130 = .ok (.iconst 1, 1) := by decide +kernel
theorem dX7_comeNow_131 : decode cX7_comeNow 131 = .ok (.iaload, 1) := by decide +kernel
theorem dX7_comeNow_132 : decode cX7_comeNow 132 = .ok (.iastore, 1) := by decide +kernel
theorem dX7_comeNow_133 : decode cX7_comeNow 133 = .ok (.iload_n 3, 1) := by decide +kernel
theorem dX7_comeNow_134 : decode cX7_comeNow 134 = .ok (.ireturn, 1) := by decide +kernel
theorem dX7_headNow_0 : decode cX7_headNow 0 = .ok (.aload_n 0, 1) := by decide +kernel
theorem dX7_headNow_1 : decode cX7_headNow 1 = .ok (.iload_n 1, 1) := by decide +kernel
theorem dX7_headNow_2 : decode cX7_headNow 2 = .ok (.invokevirtual 120, 3) := by decide +kernel
theorem dX7_headNow_5 : decode cX7_headNow 5 = .ok (.ifCond .ne 5, 3) := by decide +kernel
theorem dX7_headNow_8 : decode cX7_headNow 8 = .ok (.iconst (-1), 1) := by decide +kernel
theorem dX7_headNow_9 : decode cX7_headNow 9 = .ok (.ireturn, 1) := by decide +kernel
theorem dX7_headNow_10 : decode cX7_headNow 10 = .ok (.iload_n 2, 1) := by decide +kernel
theorem dX7_headNow_11 : decode cX7_headNow 11 = .ok (.iconst (-1), 1) := by decide +kernel
theorem dX7_headNow_12 : decode cX7_headNow 12 = .ok (.iconst 3, 1) := by decide +kernel
theorem dX7_headNow_13 : decode cX7_headNow 13 = .ok (.invokestatic 51, 3) := by decide +kernel
theorem dX7_headNow_16 : decode cX7_headNow 16 = .ok (.ifCond .ne 6, 3) := by decide +kernel
theorem dX7_headNow_19 : decode cX7_headNow 19 = .ok (.bipush (-2), 2) := by decide +kernel
theorem dX7_headNow_21 : decode cX7_headNow 21 = .ok (.ireturn, 1) := by decide +kernel
theorem dX7_headNow_22 : decode cX7_headNow 22 = .ok (.aload_n 0, 1) := by decide +kernel
theorem dX7_headNow_23 : decode cX7_headNow 23 = .ok (.iload_n 1, 1) := by decide +kernel
theorem dX7_headNow_24 : decode cX7_headNow 24 = .ok (.iconst 2, 1) := by decide +kernel
theorem dX7_headNow_25 : decode cX7_headNow 25 = .ok (.invokevirtual 68, 3) := by decide +kernel
theorem dX7_headNow_28 : decode cX7_headNow 28 = .ok (.istore_n 3, 1) := by decide +kernel
theorem dX7_headNow_29 : decode cX7_headNow 29 = .ok (.iload_n 2, 1) := by decide +kernel
theorem dX7_headNow_30 : decode cX7_headNow 30 = .ok (.iconst (-1), 1) := by decide +kernel
theorem dX7_headNow_31 : decode cX7_headNow 31 = .ok (.if_icmp .ne 7, 3) := by decide +kernel
theorem dX7_headNow_34 : decode cX7_headNow 34 = .ok (.iconst 4, 1) := by decide +kernel
theorem dX7_headNow_35 : decode cX7_headNow 35 = .ok (.goto 4, 3) := by decide +kernel
theorem dX7_headNow_38 : decode cX7_headNow 38 = .ok (.iload_n 2, 1) := by decide +kernel
theorem dX7_headNow_39 : decode cX7_headNow 39 = .ok (.istore 4, 2) := by decide +kernel
theorem dX7_headNow_41 : decode cX7_headNow 41 = .ok (.iload_n 3, 1) := by decide +kernel
theorem dX7_headNow_42 : decode cX7_headNow 42 = .ok (.iload 4, 2) := by decide +kernel
theorem dX7_headNow_44 : decode cX7_headNow 44 = .ok (.if_icmp .ne 6, 3) := by decide +kernel
theorem dX7_headNow_47 : decode cX7_headNow 47 = .ok (.bipush (-5), 2) := by decide +kernel
theorem dX7_headNow_49 : decode cX7_headNow 49 = .ok (.ireturn, 1) := by decide +kernel
theorem dX7_headNow_50 : decode cX7_headNow 50 = .ok (.aload_n 0, 1) := by decide +kernel
theorem dX7_headNow_51 : decode cX7_headNow 51 = .ok (.iload_n 1, 1) := by decide +kernel
theorem dX7_headNow_52 : decode cX7_headNow 52 = .ok (.iconst 2, 1) := by decide +kernel
theorem dX7_headNow_53 : decode cX7_headNow 53 = .ok (.iload 4, 2) := by decide +kernel
theorem dX7_headNow_55 : decode cX7_headNow 55 = .ok (.invokevirtual 95, 3) := by decide +kernel
theorem dX7_headNow_58 : decode cX7_headNow 58 = .ok (.iload_n 3, 1) := by decide +kernel
theorem dX7_headNow_59 : decode cX7_headNow 59 = .ok (.ireturn, 1) := by decide +kernel
theorem dX7_lampsOn_0 : decode cX7_lampsOn 0 = .ok (.aload_n 0, 1) := by decide +kernel
theorem dX7_lampsOn_1 : decode cX7_lampsOn 1 = .ok (.iconst 0, 1) := by decide +kernel
theorem dX7_lampsOn_2 : decode cX7_lampsOn 2 = .ok (.iconst 3, 1) := by decide +kernel
theorem dX7_lampsOn_3 : decode cX7_lampsOn 3 = .ok (.invokevirtual 78, 3) := by decide +kernel
theorem dX7_lampsOn_6 : decode cX7_lampsOn 6 = .ok (.aload_n 0, 1) := by decide +kernel
theorem dX7_lampsOn_7 : decode cX7_lampsOn 7 = .ok (.iconst 1, 1) := by decide +kernel
theorem dX7_lampsOn_8 : decode cX7_lampsOn 8 = .ok (.iconst 3, 1) := by decide +kernel
theorem dX7_lampsOn_9 : decode cX7_lampsOn 9 = .ok (.invokevirtual 78, 3) := by decide +kernel
theorem dX7_lampsOn_12 : decode cX7_lampsOn 12 = .ok (.iadd, 1) := by decide +kernel
theorem dX7_lampsOn_13 : decode cX7_lampsOn 13 = .ok (.aload_n 0, 1) := by decide +kernel
theorem dX7_lampsOn_14 : decode cX7_lampsOn 14 = .ok (.iconst 2, 1) := by decide +kernel
theorem dX7_lampsOn_15 : decode cX7_lampsOn 15 = .ok (.iconst 3, 1) := by decide +kernel
theorem dX7_lampsOn_16 : decode cX7_lampsOn 16 = .ok (.invokevirtual 78, 3) := by decide +kernel
theorem dX7_lampsOn_19 : decode cX7_lampsOn 19 = .ok (.iadd, 1) := by decide +kernel
theorem dX7_lampsOn_20 : decode cX7_lampsOn 20 = .ok (.ireturn, 1) := by decide +kernel
theorem dX7_lightNow_0 : decode cX7_lightNow 0 = .ok (.iload_n 1, 1) := by decide +kernel
theorem dX7_lightNow_1 : decode cX7_lightNow 1 = .ok (.invokestatic 123, 3) := by decide +kernel
theorem dX7_lightNow_4 : decode cX7_lightNow 4 = .ok (.ifCond .ne 5, 3) := by decide +kernel
theorem dX7_lightNow_7 : decode cX7_lightNow 7 = .ok (.iconst (-1), 1) := by decide +kernel
theorem dX7_lightNow_8 : decode cX7_lightNow 8 = .ok (.ireturn, 1) := by decide +kernel
theorem dX7_lightNow_9 : decode cX7_lightNow 9 = .ok (.aload_n 0, 1) := by decide +kernel
theorem dX7_lightNow_10 : decode cX7_lightNow 10 = .ok (.iload_n 1, 1) := by decide +kernel
theorem dX7_lightNow_11 : decode cX7_lightNow 11 = .ok (.iconst 3, 1) := by decide +kernel
theorem dX7_lightNow_12 : decode cX7_lightNow 12 = .ok (.invokevirtual 78, 3) := by decide +kernel
theorem dX7_lightNow_15 : decode cX7_lightNow 15 = .ok (.iload_n 2, 1) := by decide +kernel
theorem dX7_lightNow_16 : decode cX7_lightNow 16 = .ok (.if_icmp .ne 6, 3) := by decide +kernel
theorem dX7_lightNow_19 : decode cX7_lightNow 19 = .ok (.bipush (-5), 2) := by decide +kernel
theorem dX7_lightNow_21 : decode cX7_lightNow 21 = .ok (.ireturn, 1) := by decide +kernel
theorem dX7_lightNow_22 : decode cX7_lightNow 22 = .ok (.aload_n 0, 1) := by decide +kernel
theorem dX7_lightNow_23 : decode cX7_lightNow 23 = .ok (.iload_n 1, 1) := by decide +kernel
theorem dX7_lightNow_24 : decode cX7_lightNow 24 = .ok (.iconst 3, 1) := by decide +kernel
theorem dX7_lightNow_25 : decode cX7_lightNow 25 = .ok (.iload_n 2, 1) := by decide +kernel
theorem dX7_lightNow_26 : decode cX7_lightNow 26 = .ok (.invokevirtual 47, 3) := by decide +kernel
theorem dX7_lightNow_29 : decode cX7_lightNow 29 = .ok (.aload_n 0, 1) := by decide +kernel
theorem dX7_lightNow_30 : decode cX7_lightNow 30 = .ok (.invokevirtual 126, 3) := by decide +kernel
theorem dX7_lightNow_33 : decode cX7_lightNow 33 = .ok (.ireturn, 1) := by decide +kernel
theorem dX7_setLampNow_0 : decode cX7_setLampNow 0 = .ok (.iload_n 1, 1) := by decide +kernel
theorem dX7_setLampNow_1 : decode cX7_setLampNow 1 = .ok (.invokestatic 123, 3) := by decide +kernel
theorem dX7_setLampNow_4 : decode cX7_setLampNow 4 = .ok (.ifCond .ne 5, 3) := by decide +kernel
theorem dX7_setLampNow_7 : decode cX7_setLampNow 7 = .ok (.iconst (-1), 1) := by decide +kernel
theorem dX7_setLampNow_8 : decode cX7_setLampNow 8 = .ok (.ireturn, 1) := by decide +kernel
theorem dX7_setLampNow_9 : decode cX7_setLampNow 9 = .ok (.iload_n 2, 1) := by decide +kernel
theorem dX7_setLampNow_10 : decode cX7_setLampNow 10 = .ok (.ifCond .ne 12, 3) := by decide +kernel
theorem dX7_setLampNow_13 : decode cX7_setLampNow 13 = .ok (.iload_n 3, 1) := by decide +kernel
theorem dX7_setLampNow_14 : decode cX7_setLampNow 14 = .ok (.iconst 0, 1) := by decide +kernel
theorem dX7_setLampNow_15 : decode cX7_setLampNow 15 = .ok (.iconst 3, 1) := by decide +kernel
theorem dX7_setLampNow_16 : decode cX7_setLampNow 16 = .ok (.invokestatic 51, 3) := by decide +kernel
theorem dX7_setLampNow_19 : decode cX7_setLampNow 19 = .ok (.goto 37, 3) := by decide +kernel
theorem dX7_setLampNow_22 : decode cX7_setLampNow 22 = .ok (.iload_n 2, 1) := by decide +kernel
theorem dX7_setLampNow_23 : decode cX7_setLampNow 23 = .ok (.iconst 1, 1) := by decide +kernel
theorem dX7_setLampNow_24 : decode cX7_setLampNow 24 = .ok (.if_icmp .ne 12, 3) := by decide +kernel
theorem dX7_setLampNow_27 : decode cX7_setLampNow 27 = .ok (.iload_n 3, 1) := by decide +kernel
theorem dX7_setLampNow_28 : decode cX7_setLampNow 28 = .ok (.iconst 1, 1) := by decide +kernel
theorem dX7_setLampNow_29 : decode cX7_setLampNow 29 = .ok (.iconst 4, 1) := by decide +kernel
theorem dX7_setLampNow_30 : decode cX7_setLampNow 30 = .ok (.invokestatic 51, 3) := by decide +kernel
theorem dX7_setLampNow_33 : decode cX7_setLampNow 33 = .ok (.goto 23, 3) := by decide +kernel
theorem dX7_setLampNow_36 : decode cX7_setLampNow 36 = .ok (.iload_n 2, 1) := by decide +kernel
theorem dX7_setLampNow_37 : decode cX7_setLampNow 37 = .ok (.iconst 2, 1) := by decide +kernel
theorem dX7_setLampNow_38 : decode cX7_setLampNow 38 = .ok (.if_icmp .ne 17, 3) := by decide +kernel
theorem dX7_setLampNow_41 : decode cX7_setLampNow 41 = .ok (.iload_n 3, 1) := by decide +kernel
theorem dX7_setLampNow_42 : decode cX7_setLampNow 42 = .ok (.iconst 0, 1) := by decide +kernel
theorem dX7_setLampNow_43 : decode cX7_setLampNow 43 = .ok (.bipush 9, 2) := by decide +kernel
theorem dX7_setLampNow_45 : decode cX7_setLampNow 45 = .ok (.invokestatic 51, 3) := by decide +kernel
theorem dX7_setLampNow_48 : decode cX7_setLampNow 48 = .ok (.ifCond .eq 7, 3) := by decide +kernel
theorem dX7_setLampNow_51 : decode cX7_setLampNow 51 = .ok (.iconst 1, 1) := by decide +kernel
theorem dX7_setLampNow_52 : decode cX7_setLampNow 52 = .ok (.goto 4, 3) := by decide +kernel
theorem dX7_setLampNow_55 : decode cX7_setLampNow 55 = .ok (.iconst 0, 1) := by decide +kernel
theorem dX7_setLampNow_56 : decode cX7_setLampNow 56 = .ok (.istore 4, 2) := by decide +kernel
theorem dX7_setLampNow_58 : decode cX7_setLampNow 58 = .ok (.iload 4, 2) := by decide +kernel
theorem dX7_setLampNow_60 : decode cX7_setLampNow 60 = .ok (.ifCond .ne 6, 3) := by decide +kernel
theorem dX7_setLampNow_63 : decode cX7_setLampNow 63 = .ok (.bipush (-2), 2) := by decide +kernel
theorem dX7_setLampNow_65 : decode cX7_setLampNow 65 = .ok (.ireturn, 1) := by decide +kernel
theorem dX7_setLampNow_66 : decode cX7_setLampNow 66 = .ok (.aload_n 0, 1) := by decide +kernel
theorem dX7_setLampNow_67 : decode cX7_setLampNow 67 = .ok (.iload_n 1, 1) := by decide +kernel
theorem dX7_setLampNow_68 : decode cX7_setLampNow 68 = .ok (.iload_n 2, 1) := by decide +kernel
theorem dX7_setLampNow_69 : decode cX7_setLampNow 69 = .ok (.invokevirtual 78, 3) := by decide +kernel
theorem dX7_setLampNow_72 : decode cX7_setLampNow 72 = .ok (.istore 5, 2) := by decide +kernel
theorem dX7_setLampNow_74 : decode cX7_setLampNow 74 = .ok (.iload 5, 2) := by decide +kernel
theorem dX7_setLampNow_76 : decode cX7_setLampNow 76 = .ok (.iload_n 3, 1) := by decide +kernel
theorem dX7_setLampNow_77 : decode cX7_setLampNow 77 = .ok (.if_icmp .ne 6, 3) := by decide +kernel
theorem dX7_setLampNow_80 : decode cX7_setLampNow 80 = .ok (.bipush (-5), 2) := by decide +kernel
theorem dX7_setLampNow_82 : decode cX7_setLampNow 82 = .ok (.ireturn, 1) := by decide +kernel
theorem dX7_setLampNow_83 : decode cX7_setLampNow 83 = .ok (.aload_n 0, 1) := by decide +kernel
theorem dX7_setLampNow_84 : decode cX7_setLampNow 84 = .ok (.iload_n 1, 1) := by decide +kernel
theorem dX7_setLampNow_85 : decode cX7_setLampNow 85 = .ok (.iload_n 2, 1) := by decide +kernel
theorem dX7_setLampNow_86 : decode cX7_setLampNow 86 = .ok (.iload_n 3, 1) := by decide +kernel
theorem dX7_setLampNow_87 : decode cX7_setLampNow 87 = .ok (.invokevirtual 47, 3) := by decide +kernel
theorem dX7_setLampNow_90 : decode cX7_setLampNow 90 = .ok (.iload 5, 2) := by decide +kernel
theorem dX7_setLampNow_92 : decode cX7_setLampNow 92 = .ok (.ireturn, 1) := by decide +kernel
theorem dX7_setNow_0 : decode cX7_setNow 0 = .ok (.iload_n 1, 1) := by decide +kernel
theorem dX7_setNow_1 : decode cX7_setNow 1 = .ok (.iconst 0, 1) := by decide +kernel
theorem dX7_setNow_2 : decode cX7_setNow 2 = .ok (.iconst 1, 1) := by decide +kernel
theorem dX7_setNow_3 : decode cX7_setNow 3 = .ok (.invokestatic 51, 3) := by decide +kernel
theorem dX7_setNow_6 : decode cX7_setNow 6 = .ok (.ifCond .ne 5, 3) := by decide +kernel
theorem dX7_setNow_9 : decode cX7_setNow 9 = .ok (.iconst (-1), 1) := by decide +kernel
theorem dX7_setNow_10 : decode cX7_setNow 10 = .ok (.ireturn, 1) := by decide +kernel
theorem dX7_setNow_11 : decode cX7_setNow 11 = .ok (.iload_n 2, 1) := by decide +kernel
theorem dX7_setNow_12 : decode cX7_setNow 12 = .ok (.iconst 0, 1) := by decide +kernel
theorem dX7_setNow_13 : decode cX7_setNow 13 = .ok (.bipush 9, 2) := by decide +kernel
theorem dX7_setNow_15 : decode cX7_setNow 15 = .ok (.invokestatic 51, 3) := by decide +kernel
theorem dX7_setNow_18 : decode cX7_setNow 18 = .ok (.ifCond .ne 6, 3) := by decide +kernel
theorem dX7_setNow_21 : decode cX7_setNow 21 = .ok (.bipush (-2), 2) := by decide +kernel
theorem dX7_setNow_23 : decode cX7_setNow 23 = .ok (.ireturn, 1) := by decide +kernel
theorem dX7_setNow_24 : decode cX7_setNow 24 = .ok (.aload_n 0, 1) := by decide +kernel
theorem dX7_setNow_25 : decode cX7_setNow 25 = .ok (.getfield 7, 3) := by decide +kernel
theorem dX7_setNow_28 : decode cX7_setNow 28 = .ok (.bipush 6, 2) := by decide +kernel
theorem dX7_setNow_30 : decode cX7_setNow 30 = .ok (.iload_n 1, 1) := by decide +kernel
theorem dX7_setNow_31 : decode cX7_setNow 31 = .ok (.iadd, 1) := by decide +kernel
theorem dX7_setNow_32 : decode cX7_setNow 32 = .ok (.iaload, 1) := by decide +kernel
theorem dX7_setNow_33 : decode cX7_setNow 33 = .ok (.istore_n 3, 1) := by decide +kernel
theorem dX7_setNow_34 : decode cX7_setNow 34 = .ok (.iload_n 3, 1) := by decide +kernel
theorem dX7_setNow_35 : decode cX7_setNow 35 = .ok (.iload_n 2, 1) := by decide +kernel
theorem dX7_setNow_36 : decode cX7_setNow 36 = .ok (.if_icmp .ne 6, 3) := by decide +kernel
theorem dX7_setNow_39 : decode cX7_setNow 39 = .ok (.bipush (-5), 2) := by decide +kernel
theorem dX7_setNow_41 : decode cX7_setNow 41 = .ok (.ireturn, 1) := by decide +kernel
theorem dX7_setNow_42 : decode cX7_setNow 42 = .ok (.aload_n 0, 1) := by decide +kernel
theorem dX7_setNow_43 : decode cX7_setNow 43 = .ok (.getfield 7, 3) := by decide +kernel
theorem dX7_setNow_46 : decode cX7_setNow 46 = .ok (.bipush 6, 2) := by decide +kernel
theorem dX7_setNow_48 : decode cX7_setNow 48 = .ok (.iload_n 1, 1) := by decide +kernel
theorem dX7_setNow_49 : decode cX7_setNow 49 = .ok (.iadd, 1) := by decide +kernel
theorem dX7_setNow_50 : decode cX7_setNow 50 = .ok (.iload_n 2, 1) := by decide +kernel
theorem dX7_setNow_51 : decode cX7_setNow 51 = .ok (.iastore, 1) := by decide +kernel
theorem dX7_setNow_52 : decode cX7_setNow 52 = .ok (.iload_n 3, 1) := by decide +kernel
theorem dX7_setNow_53 : decode cX7_setNow 53 = .ok (.ireturn, 1) := by decide +kernel
theorem dX7_passNow_0 : decode cX7_passNow 0 = .ok (.iload_n 1, 1) := by decide +kernel
theorem dX7_passNow_1 : decode cX7_passNow 1 = .ok (.iconst 1, 1) := by decide +kernel
theorem dX7_passNow_2 : decode cX7_passNow 2 = .ok (.bipush 99, 2) := by decide +kernel
theorem dX7_passNow_4 : decode cX7_passNow 4 = .ok (.invokestatic 51, 3) := by decide +kernel
theorem dX7_passNow_7 : decode cX7_passNow 7 = .ok (.ifCond .ne 6, 3) := by decide +kernel
theorem dX7_passNow_10 : decode cX7_passNow 10 = .ok (.bipush (-2), 2) := by decide +kernel
theorem dX7_passNow_12 : decode cX7_passNow 12 = .ok (.ireturn, 1) := by decide +kernel
theorem dX7_passNow_13 : decode cX7_passNow 13 = .ok (.aload_n 0, 1) := by decide +kernel
theorem dX7_passNow_14 : decode cX7_passNow 14 = .ok (.getfield 7, 3) := by decide +kernel
theorem dX7_passNow_17 : decode cX7_passNow 17 = .ok (.iconst 0, 1) := by decide +kernel
theorem dX7_passNow_18 : decode cX7_passNow 18 = .ok (.iaload, 1) := by decide +kernel
theorem dX7_passNow_19 : decode cX7_passNow 19 = .ok (.iload_n 1, 1) := by decide +kernel
theorem dX7_passNow_20 : decode cX7_passNow 20 = .ok (.iadd, 1) := by decide +kernel
theorem dX7_passNow_21 : decode cX7_passNow 21 = .ok (.ldc 129, 2) := by decide +kernel
theorem dX7_passNow_23 : decode cX7_passNow 23 = .ok (.if_icmp .le 6, 3) := by decide +kernel
theorem dX7_passNow_26 : decode cX7_passNow 26 = .ok (.bipush (-3), 2) := by decide +kernel
theorem dX7_passNow_28 : decode cX7_passNow 28 = .ok (.ireturn, 1) := by decide +kernel
theorem dX7_passNow_29 : decode cX7_passNow 29 = .ok (.aload_n 0, 1) := by decide +kernel
theorem dX7_passNow_30 : decode cX7_passNow 30 = .ok (.getfield 7, 3) := by decide +kernel
theorem dX7_passNow_33 : decode cX7_passNow 33 = .ok (.iconst 2, 1) := by decide +kernel
theorem dX7_passNow_34 : decode cX7_passNow 34 = .ok (.iaload, 1) := by decide +kernel
theorem dX7_passNow_35 : decode cX7_passNow 35 = .ok (.istore_n 2, 1) := by decide +kernel
theorem dX7_passNow_36 : decode cX7_passNow 36 = .ok (.iconst 0, 1) := by decide +kernel
theorem dX7_passNow_37 : decode cX7_passNow 37 = .ok (.istore_n 3, 1) := by decide +kernel
theorem dX7_passNow_38 : decode cX7_passNow 38 = .ok (.iload_n 3, 1) := by decide +kernel
theorem dX7_passNow_39 : decode cX7_passNow 39 = .ok (.iload_n 1, 1) := by decide +kernel
theorem dX7_passNow_40 : decode cX7_passNow 40 = .ok (.if_icmp .ge 13, 3) := by decide +kernel
theorem dX7_passNow_43 : decode cX7_passNow 43 = .ok (.aload_n 0, 1) := by decide +kernel
theorem dX7_passNow_44 : decode cX7_passNow 44 = .ok (.invokevirtual 130, 3) := by decide +kernel
theorem dX7_passNow_47 : decode cX7_passNow 47 = .ok (.iinc 3 1, 3) := by decide +kernel
theorem dX7_passNow_50 : decode cX7_passNow 50 = .ok (.goto (-12), 3) := by decide +kernel
theorem dX7_passNow_53 : decode cX7_passNow 53 = .ok (.aload_n 0, 1) := by decide +kernel
theorem dX7_passNow_54 : decode cX7_passNow 54 = .ok (.getfield 7, 3) := by decide +kernel
theorem dX7_passNow_57 : decode cX7_passNow 57 = .ok (.iconst 2, 1) := by decide +kernel
theorem dX7_passNow_58 : decode cX7_passNow 58 = .ok (.iaload, 1) := by decide +kernel
theorem dX7_passNow_59 : decode cX7_passNow 59 = .ok (.iload_n 2, 1) := by decide +kernel
theorem dX7_passNow_60 : decode cX7_passNow 60 = .ok (.isub, 1) := by decide +kernel
theorem dX7_passNow_61 : decode cX7_passNow 61 = .ok (.ireturn, 1) := by decide +kernel
theorem dX7_come_0 : decode cX7_come 0 = .ok (.aload_n 0, 1) := by decide +kernel
theorem dX7_come_1 : decode cX7_come 1 = .ok (.invokevirtual 65, 3) := by decide +kernel
theorem dX7_come_4 : decode cX7_come 4 = .ok (.aload_n 0, 1) := by decide +kernel
theorem dX7_come_5 : decode cX7_come 5 = .ok (.aload_n 0, 1) := by decide +kernel
theorem dX7_come_6 : decode cX7_come 6 = .ok (.iload_n 1, 1) := by decide +kernel
theorem dX7_come_7 : decode cX7_come 7 = .ok (.iload_n 2, 1) := by decide +kernel
theorem dX7_come_8 : decode cX7_come 8 = .ok (.invokevirtual 133, 3) := by decide +kernel
theorem dX7_come_11 : decode cX7_come 11 = .ok (.invokevirtual 136, 3) := by decide +kernel
theorem dX7_come_14 : decode cX7_come 14 = .ok (.ireturn, 1) := by decide +kernel
theorem dX7_head_0 : decode cX7_head 0 = .ok (.aload_n 0, 1) := by decide +kernel
theorem dX7_head_1 : decode cX7_head 1 = .ok (.invokevirtual 65, 3) := by decide +kernel
theorem dX7_head_4 : decode cX7_head 4 = .ok (.aload_n 0, 1) := by decide +kernel
theorem dX7_head_5 : decode cX7_head 5 = .ok (.aload_n 0, 1) := by decide +kernel
theorem dX7_head_6 : decode cX7_head 6 = .ok (.iload_n 1, 1) := by decide +kernel
theorem dX7_head_7 : decode cX7_head 7 = .ok (.iload_n 2, 1) := by decide +kernel
theorem dX7_head_8 : decode cX7_head 8 = .ok (.invokevirtual 139, 3) := by decide +kernel
theorem dX7_head_11 : decode cX7_head 11 = .ok (.invokevirtual 136, 3) := by decide +kernel
theorem dX7_head_14 : decode cX7_head 14 = .ok (.ireturn, 1) := by decide +kernel
theorem dX7_light_0 : decode cX7_light 0 = .ok (.aload_n 0, 1) := by decide +kernel
theorem dX7_light_1 : decode cX7_light 1 = .ok (.invokevirtual 65, 3) := by decide +kernel
theorem dX7_light_4 : decode cX7_light 4 = .ok (.aload_n 0, 1) := by decide +kernel
theorem dX7_light_5 : decode cX7_light 5 = .ok (.aload_n 0, 1) := by decide +kernel
theorem dX7_light_6 : decode cX7_light 6 = .ok (.iload_n 1, 1) := by decide +kernel
theorem dX7_light_7 : decode cX7_light 7 = .ok (.iload_n 2, 1) := by decide +kernel
theorem dX7_light_8 : decode cX7_light 8 = .ok (.ifCond .eq 7, 3) := by decide +kernel
theorem dX7_light_11 : decode cX7_light 11 = .ok (.iconst 1, 1) := by decide +kernel
theorem dX7_light_12 : decode cX7_light 12 = .ok (.goto 4, 3) := by decide +kernel
theorem dX7_light_15 : decode cX7_light 15 = .ok (.iconst 0, 1) := by decide +kernel
theorem dX7_light_16 : decode cX7_light 16 = .ok (.invokevirtual 142, 3) := by decide +kernel
theorem dX7_light_19 : decode cX7_light 19 = .ok (.invokevirtual 136, 3) := by decide +kernel
theorem dX7_light_22 : decode cX7_light 22 = .ok (.ireturn, 1) := by decide +kernel
theorem dX7_setLamp_0 : decode cX7_setLamp 0 = .ok (.aload_n 0, 1) := by decide +kernel
theorem dX7_setLamp_1 : decode cX7_setLamp 1 = .ok (.invokevirtual 65, 3) := by decide +kernel
theorem dX7_setLamp_4 : decode cX7_setLamp 4 = .ok (.aload_n 0, 1) := by decide +kernel
theorem dX7_setLamp_5 : decode cX7_setLamp 5 = .ok (.aload_n 0, 1) := by decide +kernel
theorem dX7_setLamp_6 : decode cX7_setLamp 6 = .ok (.iload_n 1, 1) := by decide +kernel
theorem dX7_setLamp_7 : decode cX7_setLamp 7 = .ok (.iload_n 2, 1) := by decide +kernel
theorem dX7_setLamp_8 : decode cX7_setLamp 8 = .ok (.iload_n 3, 1) := by decide +kernel
theorem dX7_setLamp_9 : decode cX7_setLamp 9 = .ok (.invokevirtual 145, 3) := by decide +kernel
theorem dX7_setLamp_12 : decode cX7_setLamp 12 = .ok (.invokevirtual 136, 3) := by decide +kernel
theorem dX7_setLamp_15 : decode cX7_setLamp 15 = .ok (.ireturn, 1) := by decide +kernel
theorem dX7_set_0 : decode cX7_set 0 = .ok (.aload_n 0, 1) := by decide +kernel
theorem dX7_set_1 : decode cX7_set 1 = .ok (.invokevirtual 65, 3) := by decide +kernel
theorem dX7_set_4 : decode cX7_set 4 = .ok (.aload_n 0, 1) := by decide +kernel
theorem dX7_set_5 : decode cX7_set 5 = .ok (.aload_n 0, 1) := by decide +kernel
theorem dX7_set_6 : decode cX7_set 6 = .ok (.iload_n 1, 1) := by decide +kernel
theorem dX7_set_7 : decode cX7_set 7 = .ok (.iload_n 2, 1) := by decide +kernel
theorem dX7_set_8 : decode cX7_set 8 = .ok (.invokevirtual 149, 3) := by decide +kernel
theorem dX7_set_11 : decode cX7_set 11 = .ok (.invokevirtual 136, 3) := by decide +kernel
theorem dX7_set_14 : decode cX7_set 14 = .ok (.ireturn, 1) := by decide +kernel
theorem dX7_pass_0 : decode cX7_pass 0 = .ok (.aload_n 0, 1) := by decide +kernel
theorem dX7_pass_1 : decode cX7_pass 1 = .ok (.invokevirtual 65, 3) := by decide +kernel
theorem dX7_pass_4 : decode cX7_pass 4 = .ok (.aload_n 0, 1) := by decide +kernel
theorem dX7_pass_5 : decode cX7_pass 5 = .ok (.aload_n 0, 1) := by decide +kernel
theorem dX7_pass_6 : decode cX7_pass 6 = .ok (.iload_n 1, 1) := by decide +kernel
theorem dX7_pass_7 : decode cX7_pass 7 = .ok (.invokevirtual 152, 3) := by decide +kernel
theorem dX7_pass_10 : decode cX7_pass 10 = .ok (.invokevirtual 136, 3) := by decide +kernel
theorem dX7_pass_13 : decode cX7_pass 13 = .ok (.ireturn, 1) := by decide +kernel
theorem dX7_type_0 : decode cX7_type 0 = .ok (.aload_n 0, 1) := by decide +kernel
theorem dX7_type_1 : decode cX7_type 1 = .ok (.getfield 155, 3) := by decide +kernel
theorem dX7_type_4 : decode cX7_type 4 = .ok (.bipush 60, 2) := by decide +kernel
theorem dX7_type_6 : decode cX7_type 6 = .ok (.if_icmp .ne 6, 3) := by decide +kernel
theorem dX7_type_9 : decode cX7_type 9 = .ok (.bipush (-3), 2) := by decide +kernel
theorem dX7_type_11 : decode cX7_type 11 = .ok (.ireturn, 1) := by decide +kernel
theorem dX7_type_12 : decode cX7_type 12 = .ok (.aload_n 0, 1) := by decide +kernel
theorem dX7_type_13 : decode cX7_type 13 = .ok (.getfield 25, 3) := by decide +kernel
theorem dX7_type_16 : decode cX7_type 16 = .ok (.aload_n 0, 1) := by decide +kernel
theorem dX7_type_17 : decode cX7_type 17 = .ok (.getfield 155, 3) := by decide +kernel
theorem dX7_type_20 : decode cX7_type 20 = .ok (.iload_n 1, 1) := by decide +kernel
theorem dX7_type_21 : decode cX7_type 21 = .ok (.iastore, 1) := by decide +kernel
theorem dX7_type_22 : decode cX7_type 22 = .ok (.aload_n 0, 1) := by decide +kernel
theorem dX7_type_23 : decode cX7_type 23 = .ok (.dup, 1) := by decide +kernel
theorem dX7_type_24 : decode cX7_type 24 = .ok (.getfield 155, 3) := by decide +kernel
theorem dX7_type_27 : decode cX7_type 27 = .ok (.iconst 1, 1) := by decide +kernel
theorem dX7_type_28 : decode cX7_type 28 = .ok (.iadd, 1) := by decide +kernel
theorem dX7_type_29 : decode cX7_type 29 = .ok (.putfield 155, 3) := by decide +kernel
theorem dX7_type_32 : decode cX7_type 32 = .ok (.aload_n 0, 1) := by decide +kernel
theorem dX7_type_33 : decode cX7_type 33 = .ok (.getfield 155, 3) := by decide +kernel
theorem dX7_type_36 : decode cX7_type 36 = .ok (.ireturn, 1) := by decide +kernel
theorem dX7_clearText_0 : decode cX7_clearText 0 = .ok (.aload_n 0, 1) := by decide +kernel
theorem dX7_clearText_1 : decode cX7_clearText 1 = .ok (.getfield 155, 3) := by decide +kernel
theorem dX7_clearText_4 : decode cX7_clearText 4 = .ok (.istore_n 1, 1) := by decide +kernel
theorem dX7_clearText_5 : decode cX7_clearText 5 = .ok (.aload_n 0, 1) := by decide +kernel
theorem dX7_clearText_6 : decode cX7_clearText 6 = .ok (.iconst 0, 1) := by decide +kernel
theorem dX7_clearText_7 : decode cX7_clearText 7 = .ok (.putfield 155, 3) := by decide +kernel
theorem dX7_clearText_10 : decode cX7_clearText 10 = .ok (.iload_n 1, 1) := by decide +kernel
theorem dX7_clearText_11 : decode cX7_clearText 11 = .ok (.ireturn, 1) := by decide +kernel
theorem dX7_code_0 : decode cX7_code 0 = .ok (.aload_n 0, 1) := by decide +kernel
theorem dX7_code_1 : decode cX7_code 1 = .ok (.getfield 158, 3) := by decide +kernel
theorem dX7_code_4 : decode cX7_code 4 = .ok (.aload_n 0, 1) := by decide +kernel
theorem dX7_code_5 : decode cX7_code 5 = .ok (.getfield 155, 3) := by decide +kernel
theorem dX7_code_8 : decode cX7_code 8 = .ok (.if_icmp .ge 15, 3) := by decide +kernel
theorem dX7_code_11 : decode cX7_code 11 = .ok (.aload_n 0, 1) := by decide +kernel
theorem dX7_code_12 : decode cX7_code 12 = .ok (.getfield 25, 3) := by decide +kernel
theorem dX7_code_15 : decode cX7_code 15 = .ok (.aload_n 0, 1) := by decide +kernel
theorem dX7_code_16 : decode cX7_code 16 = .ok (.getfield 158, 3) := by decide +kernel
theorem dX7_code_19 : decode cX7_code 19 = .ok (.iaload, 1) := by decide +kernel
theorem dX7_code_20 : decode cX7_code 20 = .ok (.goto 4, 3) := by decide +kernel
theorem dX7_code_23 : decode cX7_code 23 = .ok (.iconst 0, 1) := by decide +kernel
theorem dX7_code_24 : decode cX7_code 24 = .ok (.ireturn, 1) := by decide +kernel
theorem dX7_takes_0 : decode cX7_takes 0 = .ok (.aload_n 0, 1) := by decide +kernel
theorem dX7_takes_1 : decode cX7_takes 1 = .ok (.getfield 158, 3) := by decide +kernel
theorem dX7_takes_4 : decode cX7_takes 4 = .ok (.aload_n 0, 1) := by decide +kernel
theorem dX7_takes_5 : decode cX7_takes 5 = .ok (.getfield 155, 3) := by decide +kernel
theorem dX7_takes_8 : decode cX7_takes 8 = .ok (.if_icmp .ge 20, 3) := by decide +kernel
theorem dX7_takes_11 : decode cX7_takes 11 = .ok (.aload_n 0, 1) := by decide +kernel
theorem dX7_takes_12 : decode cX7_takes 12 = .ok (.getfield 25, 3) := by decide +kernel
theorem dX7_takes_15 : decode cX7_takes 15 = .ok (.aload_n 0, 1) := by decide +kernel
theorem dX7_takes_16 : decode cX7_takes 16 = .ok (.getfield 158, 3) := by decide +kernel
theorem dX7_takes_19 : decode cX7_takes 19 = .ok (.iaload, 1) := by decide +kernel
theorem dX7_takes_20 : decode cX7_takes 20 = .ok (.iload_n 1, 1) := by decide +kernel
theorem dX7_takes_21 : decode cX7_takes 21 = .ok (.if_icmp .ne 7, 3) := by decide +kernel
theorem dX7_takes_24 : decode cX7_takes 24 = .ok (.iconst 1, 1) := by decide +kernel
theorem dX7_takes_25 : decode cX7_takes 25 = .ok (.goto 4, 3) := by decide +kernel
theorem dX7_takes_28 : decode cX7_takes 28 = .ok (.iconst 0, 1) := by decide +kernel
theorem dX7_takes_29 : decode cX7_takes 29 = .ok (.istore_n 2, 1) := by decide +kernel
theorem dX7_takes_30 : decode cX7_takes 30 = .ok (.aload_n 0, 1) := by decide +kernel
theorem dX7_takes_31 : decode cX7_takes 31 = .ok (.dup, 1) := by decide +kernel
theorem dX7_takes_32 : decode cX7_takes 32 = .ok (.getfield 158, 3) := by decide +kernel
theorem dX7_takes_35 : decode cX7_takes 35 = .ok (.iload_n 2, 1) := by decide +kernel
theorem dX7_takes_36 : decode cX7_takes 36 = .ok (.ifCond .eq 7, 3) := by decide +kernel
theorem dX7_takes_39 : decode cX7_takes 39 = .ok (.iconst 1, 1) := by decide +kernel
theorem dX7_takes_40 : decode cX7_takes 40 = .ok (.goto 4, 3) := by decide +kernel
theorem dX7_takes_43 : decode cX7_takes 43 = .ok (.iconst 0, 1) := by decide +kernel
theorem dX7_takes_44 : decode cX7_takes 44 = .ok (.iadd, 1) := by decide +kernel
theorem dX7_takes_45 : decode cX7_takes 45 = .ok (.putfield 158, 3) := by decide +kernel
theorem dX7_takes_48 : decode cX7_takes 48 = .ok (.iload_n 2, 1) := by decide +kernel
theorem dX7_takes_49 : decode cX7_takes 49 = .ok (.ireturn, 1) := by decide +kernel
theorem dX7_isDigit_0 : decode cX7_isDigit 0 = .ok (.aload_n 0, 1) := by decide +kernel
theorem dX7_isDigit_1 : decode cX7_isDigit 1 = .ok (.getfield 158, 3) := by decide +kernel
theorem dX7_isDigit_4 : decode cX7_isDigit 4 = .ok (.aload_n 0, 1) := by decide +kernel
theorem dX7_isDigit_5 : decode cX7_isDigit 5 = .ok (.getfield 155, 3) := by decide +kernel
theorem dX7_isDigit_8 : decode cX7_isDigit 8 = .ok (.if_icmp .ge 26, 3) := by decide +kernel
theorem dX7_isDigit_11 : decode cX7_isDigit 11 = .ok (.aload_n 0, 1) := by decide +kernel
theorem dX7_isDigit_12 : decode cX7_isDigit 12 = .ok (.getfield 25, 3) := by decide +kernel
theorem dX7_isDigit_15 : decode cX7_isDigit 15 = .ok (.aload_n 0, 1) := by decide +kernel
theorem dX7_isDigit_16 : decode cX7_isDigit 16 = .ok (.getfield 158, 3) := by decide +kernel
theorem dX7_isDigit_19 : decode cX7_isDigit 19 = .ok (.iaload, 1) := by decide +kernel
theorem dX7_isDigit_20 : decode cX7_isDigit 20 = .ok (.bipush 48, 2) := by decide +kernel
theorem dX7_isDigit_22 : decode cX7_isDigit 22 = .ok (.bipush 57, 2) := by decide +kernel
theorem dX7_isDigit_24 : decode cX7_isDigit 24 = .ok (.invokestatic 51, 3) := by decide +kernel
theorem dX7_isDigit_27 : decode cX7_isDigit 27 = .ok (.ifCond .eq 7, 3) := by decide +kernel
theorem dX7_isDigit_30 : decode cX7_isDigit 30 = .ok (.iconst 1, 1) := by decide +kernel
theorem dX7_isDigit_31 : decode cX7_isDigit 31 = .ok (.goto 4, 3) := by decide +kernel
theorem dX7_isDigit_34 : decode cX7_isDigit 34 = .ok (.iconst 0, 1) := by decide +kernel
theorem dX7_isDigit_35 : decode cX7_isDigit 35 = .ok (.ireturn, 1) := by decide +kernel
theorem dX7_reads_0 : decode cX7_reads 0 = .ok (.aload_n 0, 1) := by decide +kernel
theorem dX7_reads_1 : decode cX7_reads 1 = .ok (.invokevirtual 161, 3) := by decide +kernel
theorem dX7_reads_4 : decode cX7_reads 4 = .ok (.ifCond .eq 18, 3) := by decide +kernel
theorem dX7_reads_7 : decode cX7_reads 7 = .ok (.aload_n 0, 1) := by decide +kernel
theorem dX7_reads_8 : decode cX7_reads 8 = .ok (.invokevirtual 165, 3) := by decide +kernel
theorem dX7_reads_11 : decode cX7_reads 11 = .ok (.bipush 48, 2) := by decide +kernel
theorem dX7_reads_13 : decode cX7_reads 13 = .ok (.isub, 1) := by decide +kernel
theorem dX7_reads_14 : decode cX7_reads 14 = .ok (.iload_n 1, 1) := by decide +kernel
theorem dX7_reads_15 : decode cX7_reads 15 = .ok (.iload_n 2, 1) := by decide +kernel
theorem dX7_reads_16 : decode cX7_reads 16 = .ok (.invokestatic 51, 3) := by decide +kernel
theorem dX7_reads_19 : decode cX7_reads 19 = .ok (.ifCond .ne 5, 3) := by decide +kernel
theorem dX7_reads_22 : decode cX7_reads 22 = .ok (.iconst 0, 1) := by decide +kernel
theorem dX7_reads_23 : decode cX7_reads 23 = .ok (.ireturn, 1) := by decide +kernel
theorem dX7_reads_24 : decode cX7_reads 24 = .ok (.aload_n 0, 1) := by decide +kernel
theorem dX7_reads_25 : decode cX7_reads 25 = .ok (.aload_n 0, 1) := by decide +kernel
theorem dX7_reads_26 : decode cX7_reads 26 = .ok (.invokevirtual 165, 3) := by decide +kernel
theorem dX7_reads_29 : decode cX7_reads 29 = .ok (.bipush 48, 2) := by decide +kernel
theorem dX7_reads_31 : decode cX7_reads 31 = .ok (.isub, 1) := by decide +kernel
theorem dX7_reads_32 : decode cX7_reads 32 = .ok (.putfield 168, 3) := by decide +kernel
theorem dX7_reads_35 : decode cX7_reads 35 = .ok (.aload_n 0, 1) := by decide +kernel
theorem dX7_reads_36 : decode cX7_reads 36 = .ok (.dup, 1) := by decide +kernel
theorem dX7_reads_37 : decode cX7_reads 37 = .ok (.getfield 158, 3) := by decide +kernel
theorem dX7_reads_40 : decode cX7_reads 40 = .ok (.iconst 1, 1) := by decide +kernel
theorem dX7_reads_41 : decode cX7_reads 41 = .ok (.iadd, 1) := by decide +kernel
theorem dX7_reads_42 : decode cX7_reads 42 = .ok (.putfield 158, 3) := by decide +kernel
theorem dX7_reads_45 : decode cX7_reads 45 = .ok (.aload_n 0, 1) := by decide +kernel
theorem dX7_reads_46 : decode cX7_reads 46 = .ok (.getfield 168, 3) := by decide +kernel
theorem dX7_reads_49 : decode cX7_reads 49 = .ok (.ifCond .le 61, 3) := by decide +kernel
theorem dX7_reads_52 : decode cX7_reads 52 = .ok (.aload_n 0, 1) := by decide +kernel
theorem dX7_reads_53 : decode cX7_reads 53 = .ok (.invokevirtual 161, 3) := by decide +kernel
theorem dX7_reads_56 : decode cX7_reads 56 = .ok (.ifCond .eq 54, 3) := by decide +kernel
theorem dX7_reads_59 : decode cX7_reads 59 = .ok (.bipush 10, 2) := by decide +kernel
theorem dX7_reads_61 : decode cX7_reads 61 = .ok (.aload_n 0, 1) := by decide +kernel
theorem dX7_reads_62 : decode cX7_reads 62 = .ok (.getfield 168, 3) := by decide +kernel
theorem dX7_reads_65 : decode cX7_reads 65 = .ok (.imul, 1) := by decide +kernel
theorem dX7_reads_66 : decode cX7_reads 66 = .ok (.aload_n 0, 1) := by decide +kernel
theorem dX7_reads_67 : decode cX7_reads 67 = .ok (.invokevirtual 165, 3) := by decide +kernel
theorem dX7_reads_70 : decode cX7_reads 70 = .ok (.iadd, 1) := by decide +kernel
theorem dX7_reads_71 : decode cX7_reads 71 = .ok (.bipush 48, 2) := by decide +kernel
theorem dX7_reads_73 : decode cX7_reads 73 = .ok (.isub, 1) := by decide +kernel
theorem dX7_reads_74 : decode cX7_reads 74 = .ok (.iload_n 2, 1) := by decide +kernel
theorem dX7_reads_75 : decode cX7_reads 75 = .ok (.if_icmp .gt 35, 3) := by decide +kernel
theorem dX7_reads_78 : decode cX7_reads 78 = .ok (.aload_n 0, 1) := by decide +kernel
theorem dX7_reads_79 : decode cX7_reads 79 = .ok (.bipush 10, 2) := by decide +kernel
theorem dX7_reads_81 : decode cX7_reads 81 = .ok (.aload_n 0, 1) := by decide +kernel
theorem dX7_reads_82 : decode cX7_reads 82 = .ok (.getfield 168, 3) := by decide +kernel
theorem dX7_reads_85 : decode cX7_reads 85 = .ok (.imul, 1) := by decide +kernel
theorem dX7_reads_86 : decode cX7_reads 86 = .ok (.aload_n 0, 1) := by decide +kernel
theorem dX7_reads_87 : decode cX7_reads 87 = .ok (.invokevirtual 165, 3) := by decide +kernel
theorem dX7_reads_90 : decode cX7_reads 90 = .ok (.iadd, 1) := by decide +kernel
theorem dX7_reads_91 : decode cX7_reads 91 = .ok (.bipush 48, 2) := by decide +kernel
theorem dX7_reads_93 : decode cX7_reads 93 = .ok (.isub, 1) := by decide +kernel
theorem dX7_reads_94 : decode cX7_reads 94 = .ok (.putfield 168, 3) := by decide +kernel
theorem dX7_reads_97 : decode cX7_reads 97 = .ok (.aload_n 0, 1) := by decide +kernel
theorem dX7_reads_98 : decode cX7_reads 98 = .ok (.dup, 1) := by decide +kernel
theorem dX7_reads_99 : decode cX7_reads 99 = .ok (.getfield 158, 3) := by decide +kernel
theorem dX7_reads_102 : decode cX7_reads 102 = .ok (.iconst 1, 1) := by decide +kernel
theorem dX7_reads_103 : decode cX7_reads 103 = .ok (.iadd, 1) := by decide +kernel
theorem dX7_reads_104 : decode cX7_reads 104 = .ok (.putfield 158, 3) := by decide +kernel
theorem dX7_reads_107 : decode cX7_reads 107 = .ok (.goto (-62), 3) := by decide +kernel
theorem dX7_reads_110 : decode cX7_reads 110 = .ok (.iconst 1, 1) := by decide +kernel
theorem dX7_reads_111 : decode cX7_reads 111 = .ok (.ireturn, 1) := by decide +kernel
theorem dX7_readsDirection_0 : decode cX7_readsDirection 0 = .ok (.aload_n 0, 1) := by decide +kernel
theorem dX7_readsDirection_1 : decode cX7_readsDirection 1 = .ok (.invokevirtual 165, 3) := by decide +kernel
theorem dX7_readsDirection_4 : decode cX7_readsDirection 4 = .ok (.istore_n 1, 1) := by decide +kernel
theorem dX7_readsDirection_5 : decode cX7_readsDirection 5 = .ok (.aload_n 0, 1) := by decide +kernel
theorem dX7_readsDirection_6 : decode cX7_readsDirection 6 = .ok (.getfield 34, 3) := by decide +kernel
theorem dX7_readsDirection_9 : decode cX7_readsDirection 9 = .ok (.aload_n 0, 1) := by decide +kernel
theorem dX7_readsDirection_10 : decode cX7_readsDirection 10 = .ok (.getfield 171, 3) := by decide +kernel
theorem dX7_readsDirection_13 : decode cX7_readsDirection 13 = .ok (.iload_n 1, 1) := by decide +kernel
theorem dX7_readsDirection_14 : decode cX7_readsDirection 14 = .ok (.bipush 110, 2) := by decide +kernel
theorem dX7_readsDirection_16 : decode cX7_readsDirection 16 = .ok (.if_icmp .ne 7, 3) := by decide +kernel
theorem dX7_readsDirection_19 : decode cX7_readsDirection 19 = .ok (.iconst 0, 1) := by decide +kernel
theorem dX7_readsDirection_20 : decode cX7_readsDirection 20 = .ok (.goto 34, 3) := by decide +kernel
theorem dX7_readsDirection_23 : decode cX7_readsDirection 23 = .ok (.iload_n 1, 1) := by decide +kernel
theorem dX7_readsDirection_24 : decode cX7_readsDirection 24 = .ok (.bipush 101, 2) := by decide +kernel
theorem dX7_readsDirection_26 : decode cX7_readsDirection 26 = .ok (.if_icmp .ne 7, 3) := by decide +kernel
theorem dX7_readsDirection_29 : decode cX7_readsDirection 29 = .ok (.iconst 1, 1) := by decide +kernel
theorem dX7_readsDirection_30 : decode cX7_readsDirection 30 = .ok (.goto 24, 3) := by decide +kernel
theorem dX7_readsDirection_33 : decode cX7_readsDirection 33 = .ok (.iload_n 1, 1) := by decide +kernel
theorem dX7_readsDirection_34 : decode cX7_readsDirection 34 = .ok (.bipush 115, 2) := by decide +kernel
theorem dX7_readsDirection_36 : decode cX7_readsDirection 36 = .ok (.if_icmp .ne 7, 3) := by decide +kernel
theorem dX7_readsDirection_39 : decode cX7_readsDirection 39 = .ok (.iconst 2, 1) := by decide +kernel
theorem dX7_readsDirection_40 : decode cX7_readsDirection 40 = .ok (.goto 14, 3) := by decide +kernel
theorem dX7_readsDirection_43 : decode cX7_readsDirection 43 = .ok (.iload_n 1, 1) := by decide +kernel
theorem dX7_readsDirection_44 : decode cX7_readsDirection 44 = .ok (.bipush 119, 2) := by decide +kernel
theorem dX7_readsDirection_46 : decode cX7_readsDirection 46 = .ok (.if_icmp .ne 7, 3) := by decide +kernel
theorem dX7_readsDirection_49 : decode cX7_readsDirection 49 = .ok (.iconst 3, 1) := by decide +kernel
theorem dX7_readsDirection_50 : decode cX7_readsDirection 50 = .ok (.goto 4, 3) := by decide +kernel
theorem dX7_readsDirection_53 : decode cX7_readsDirection 53 = .ok (.iconst (-1), 1) := by decide +kernel
theorem dX7_readsDirection_54 : decode cX7_readsDirection 54 = .ok (.iastore, 1) := by decide +kernel
theorem dX7_readsDirection_55 : decode cX7_readsDirection 55 = .ok (.aload_n 0, 1) := by decide +kernel
theorem dX7_readsDirection_56 : decode cX7_readsDirection 56 = .ok (.bipush 110, 2) := by decide +kernel
theorem dX7_readsDirection_58 : decode cX7_readsDirection 58 = .ok (.invokevirtual 174, 3) := by decide +kernel
theorem dX7_readsDirection_61 : decode cX7_readsDirection 61 = .ok (.ifCond .ne 39, 3) := by decide +kernel
theorem dX7_readsDirection_64 : decode cX7_readsDirection 64 = .ok (.aload_n 0, 1) := by decide +kernel
theorem dX7_readsDirection_65 : decode cX7_readsDirection 65 = .ok (.bipush 101, 2) := by decide +kernel
theorem dX7_readsDirection_67 : decode cX7_readsDirection 67 = .ok (.invokevirtual 174, 3) := by decide +kernel
theorem dX7_readsDirection_70 : decode cX7_readsDirection 70 = .ok (.ifCond .ne 30, 3) := by decide +kernel
theorem dX7_readsDirection_73 : decode cX7_readsDirection 73 = .ok (.aload_n 0, 1) := by decide +kernel
theorem dX7_readsDirection_74 : decode cX7_readsDirection 74 = .ok (.bipush 115, 2) := by decide +kernel
theorem dX7_readsDirection_76 : decode cX7_readsDirection 76 = .ok (.invokevirtual 174, 3) := by decide +kernel
theorem dX7_readsDirection_79 : decode cX7_readsDirection 79 = .ok (.ifCond .ne 21, 3) := by decide +kernel
theorem dX7_readsDirection_82 : decode cX7_readsDirection 82 = .ok (.aload_n 0, 1) := by decide +kernel
theorem dX7_readsDirection_83 : decode cX7_readsDirection 83 = .ok (.bipush 119, 2) := by decide +kernel
theorem dX7_readsDirection_85 : decode cX7_readsDirection 85 = .ok (.invokevirtual 174, 3) := by decide +kernel
theorem dX7_readsDirection_88 : decode cX7_readsDirection 88 = .ok (.ifCond .ne 12, 3) := by decide +kernel
theorem dX7_readsDirection_91 : decode cX7_readsDirection 91 = .ok (.aload_n 0, 1) := by decide +kernel
theorem dX7_readsDirection_92 : decode cX7_readsDirection 92 = .ok (.bipush 45, 2) := by decide +kernel
theorem dX7_readsDirection_94 : decode cX7_readsDirection 94 = .ok (.invokevirtual 174, 3) := by decide +kernel
theorem dX7_readsDirection_97 : decode cX7_readsDirection 97 = .ok (.ifCond .eq 7, 3) := by decide +kernel
theorem dX7_readsDirection_100 : decode cX7_readsDirection 100 = .ok (.iconst 1, 1) := by decide +kernel
theorem dX7_readsDirection_101 : decode cX7_readsDirection 101 = .ok (.goto 4, 3) := by decide +kernel
theorem dX7_readsDirection_104 : decode cX7_readsDirection 104 = .ok (.iconst 0, 1) := by decide +kernel
theorem dX7_readsDirection_105 : decode cX7_readsDirection 105 = .ok (.ireturn, 1) := by decide +kernel
theorem dX7_readsRest_0 : decode cX7_readsRest 0 = .ok (.iload_n 1, 1) := by decide +kernel
theorem dX7_readsRest_1 : decode cX7_readsRest 1 = .ok (.bipush 114, 2) := by decide +kernel
theorem dX7_readsRest_3 : decode cX7_readsRest 3 = .ok (.if_icmp .ne 13, 3) := by decide +kernel
theorem dX7_readsRest_6 : decode cX7_readsRest 6 = .ok (.aload_n 0, 1) := by decide +kernel
theorem dX7_readsRest_7 : decode cX7_readsRest 7 = .ok (.iconst 0, 1) := by decide +kernel
theorem dX7_readsRest_8 : decode cX7_readsRest 8 = .ok (.bipush 99, 2) := by decide +kernel
theorem dX7_readsRest_10 : decode cX7_readsRest 10 = .ok (.invokevirtual 177, 3) := by decide +kernel
theorem dX7_readsRest_13 : decode cX7_readsRest 13 = .ok (.goto 40, 3) := by decide +kernel
theorem dX7_readsRest_16 : decode cX7_readsRest 16 = .ok (.iload_n 1, 1) := by decide +kernel
theorem dX7_readsRest_17 : decode cX7_readsRest 17 = .ok (.bipush 100, 2) := by decide +kernel
theorem dX7_readsRest_19 : decode cX7_readsRest 19 = .ok (.if_icmp .ne 12, 3) := by decide +kernel
theorem dX7_readsRest_22 : decode cX7_readsRest 22 = .ok (.aload_n 0, 1) := by decide +kernel
theorem dX7_readsRest_23 : decode cX7_readsRest 23 = .ok (.iconst 0, 1) := by decide +kernel
theorem dX7_readsRest_24 : decode cX7_readsRest 24 = .ok (.iconst 5, 1) := by decide +kernel
theorem dX7_readsRest_25 : decode cX7_readsRest 25 = .ok (.invokevirtual 177, 3) := by decide +kernel
theorem dX7_readsRest_28 : decode cX7_readsRest 28 = .ok (.goto 25, 3) := by decide +kernel
theorem dX7_readsRest_31 : decode cX7_readsRest 31 = .ok (.iload_n 1, 1) := by decide +kernel
theorem dX7_readsRest_32 : decode cX7_readsRest 32 = .ok (.bipush 108, 2) := by decide +kernel
theorem dX7_readsRest_34 : decode cX7_readsRest 34 = .ok (.if_icmp .ne 12, 3) := by decide +kernel
theorem dX7_readsRest_37 : decode cX7_readsRest 37 = .ok (.aload_n 0, 1) := by decide +kernel
theorem dX7_readsRest_38 : decode cX7_readsRest 38 = .ok (.iconst 0, 1) := by decide +kernel
theorem dX7_readsRest_39 : decode cX7_readsRest 39 = .ok (.iconst 2, 1) := by decide +kernel
theorem dX7_readsRest_40 : decode cX7_readsRest 40 = .ok (.invokevirtual 177, 3) := by decide +kernel
theorem dX7_readsRest_43 : decode cX7_readsRest 43 = .ok (.goto 10, 3) := by decide +kernel
theorem dX7_readsRest_46 : decode cX7_readsRest 46 = .ok (.aload_n 0, 1) := by decide +kernel
theorem dX7_readsRest_47 : decode cX7_readsRest 47 = .ok (.iconst 1, 1) := by decide +kernel
theorem dX7_readsRest_48 : decode cX7_readsRest 48 = .ok (.bipush 99, 2) := by decide +kernel
theorem dX7_readsRest_50 : decode cX7_readsRest 50 = .ok (.invokevirtual 177, 3) := by decide +kernel
theorem dX7_readsRest_53 : decode cX7_readsRest 53 = .ok (.istore_n 2, 1) := by decide +kernel
theorem dX7_readsRest_54 : decode cX7_readsRest 54 = .ok (.iload_n 2, 1) := by decide +kernel
theorem dX7_readsRest_55 : decode cX7_readsRest 55 = .ok (.ifCond .ne 5, 3) := by decide +kernel
theorem dX7_readsRest_58 : decode cX7_readsRest 58 = .ok (.iconst 0, 1) := by decide +kernel
theorem dX7_readsRest_59 : decode cX7_readsRest 59 = .ok (.ireturn, 1) := by decide +kernel
theorem dX7_readsRest_60 : decode cX7_readsRest 60 = .ok (.aload_n 0, 1) := by decide +kernel
theorem dX7_readsRest_61 : decode cX7_readsRest 61 = .ok (.getfield 31, 3) := by decide +kernel
theorem dX7_readsRest_64 : decode cX7_readsRest 64 = .ok (.aload_n 0, 1) := by decide +kernel
theorem dX7_readsRest_65 : decode cX7_readsRest 65 = .ok (.getfield 171, 3) := by decide +kernel
theorem dX7_readsRest_68 : decode cX7_readsRest 68 = .ok (.aload_n 0, 1) := by decide +kernel
theorem dX7_readsRest_69 : decode cX7_readsRest 69 = .ok (.getfield 168, 3) := by decide +kernel
theorem dX7_readsRest_72 : decode cX7_readsRest 72 = .ok (.iastore, 1) := by decide +kernel
theorem dX7_readsRest_73 : decode cX7_readsRest 73 = .ok (.iload_n 1, 1) := by decide +kernel
theorem dX7_readsRest_74 : decode cX7_readsRest 74 = .ok (.bipush 114, 2) := by decide +kernel
theorem dX7_readsRest_76 : decode cX7_readsRest 76 = .ok (.if_icmp .ne 42, 3) := by decide +kernel
theorem dX7_readsRest_79 : decode cX7_readsRest 79 = .ok (.aload_n 0, 1) := by decide +kernel
theorem dX7_readsRest_80 : decode cX7_readsRest 80 = .ok (.bipush 104, 2) := by decide +kernel
theorem dX7_readsRest_82 : decode cX7_readsRest 82 = .ok (.invokevirtual 174, 3) := by decide +kernel
theorem dX7_readsRest_85 : decode cX7_readsRest 85 = .ok (.ifCond .eq 16, 3) := by decide +kernel
theorem dX7_readsRest_88 : decode cX7_readsRest 88 = .ok (.aload_n 0, 1) := by decide +kernel
theorem dX7_readsRest_89 : decode cX7_readsRest 89 = .ok (.iconst 1, 1) := by decide +kernel
theorem dX7_readsRest_90 : decode cX7_readsRest 90 = .ok (.iconst 5, 1) := by decide +kernel
theorem dX7_readsRest_91 : decode cX7_readsRest 91 = .ok (.invokevirtual 177, 3) := by decide +kernel
theorem dX7_readsRest_94 : decode cX7_readsRest 94 = .ok (.ifCond .eq 7, 3) := by decide +kernel
theorem dX7_readsRest_97 : decode cX7_readsRest 97 = .ok (.iconst 1, 1) := by decide +kernel
theorem dX7_readsRest_98 : decode cX7_readsRest 98 = .ok (.goto 4, 3) := by decide +kernel
theorem dX7_readsRest_101 : decode cX7_readsRest 101 = .ok (.iconst 0, 1) := by decide +kernel
theorem dX7_readsRest_102 : decode cX7_readsRest 102 = .ok (.istore_n 2, 1) := by decide +kernel
theorem dX7_readsRest_103 : decode cX7_readsRest 103 = .ok (.aload_n 0, 1) := by decide +kernel
theorem dX7_readsRest_104 : decode cX7_readsRest 104 = .ok (.getfield 34, 3) := by decide +kernel
theorem dX7_readsRest_107 : decode cX7_readsRest 107 = .ok (.aload_n 0, 1) := by decide +kernel
theorem dX7_readsRest_108 : decode cX7_readsRest 108 = .ok (.getfield 171, 3) := by decide +kernel
theorem dX7_readsRest_111 : decode cX7_readsRest 111 = .ok (.aload_n 0, 1) := by decide +kernel
theorem dX7_readsRest_112 : decode cX7_readsRest 112 = .ok (.getfield 168, 3) := by decide +kernel
theorem dX7_readsRest_115 : decode cX7_readsRest 115 = .ok (.iastore, 1) := by decide +kernel
theorem dX7_readsRest_116 : decode cX7_readsRest 116 = .ok (.iload_n 2, 1) := by decide +kernel
theorem dX7_readsRest_117 : decode cX7_readsRest 117 = .ok (.ireturn, 1) := by decide +kernel
theorem dX7_readsRest_118 : decode cX7_readsRest 118 = .ok (.iload_n 1, 1) := by decide +kernel
theorem dX7_readsRest_119 : decode cX7_readsRest 119 = .ok (.bipush 100, 2) := by decide +kernel
theorem dX7_readsRest_121 : decode cX7_readsRest 121 = .ok (.if_icmp .ne 8, 3) := by decide +kernel
theorem dX7_readsRest_124 : decode cX7_readsRest 124 = .ok (.aload_n 0, 1) := by decide +kernel
theorem dX7_readsRest_125 : decode cX7_readsRest 125 = .ok (.invokevirtual 180, 3) := by decide +kernel
theorem dX7_readsRest_128 : decode cX7_readsRest 128 = .ok (.ireturn, 1) := by decide +kernel
theorem dX7_readsRest_129 : decode cX7_readsRest 129 = .ok (.aload_n 0, 1) := by decide +kernel
theorem dX7_readsRest_130 : decode cX7_readsRest 130 = .ok (.getfield 34, 3) := by decide +kernel
theorem dX7_readsRest_133 : decode cX7_readsRest 133 = .ok (.aload_n 0, 1) := by decide +kernel
theorem dX7_readsRest_134 : decode cX7_readsRest 134 = .ok (.getfield 171, 3) := by decide +kernel
theorem dX7_readsRest_137 : decode cX7_readsRest 137 = .ok (.aload_n 0, 1) := by decide +kernel
theorem dX7_readsRest_138 : decode cX7_readsRest 138 = .ok (.invokevirtual 165, 3) := by decide +kernel
theorem dX7_readsRest_141 : decode cX7_readsRest 141 = .ok (.bipush 43, 2) := by decide +kernel
theorem dX7_readsRest_143 : decode cX7_readsRest 143 = .ok (.if_icmp .ne 7, 3) := by decide +kernel
theorem dX7_readsRest_146 : decode cX7_readsRest 146 = .ok (.iconst 1, 1) := by decide +kernel
theorem dX7_readsRest_147 : decode cX7_readsRest 147 = .ok (.goto 4, 3) := by decide +kernel
theorem dX7_readsRest_150 : decode cX7_readsRest 150 = .ok (.iconst 0, 1) := by decide +kernel
theorem dX7_readsRest_151 : decode cX7_readsRest 151 = .ok (.iastore, 1) := by decide +kernel
theorem dX7_readsRest_152 : decode cX7_readsRest 152 = .ok (.iload_n 1, 1) := by decide +kernel
theorem dX7_readsRest_153 : decode cX7_readsRest 153 = .ok (.bipush 46, 2) := by decide +kernel
theorem dX7_readsRest_155 : decode cX7_readsRest 155 = .ok (.if_icmp .eq 21, 3) := by decide +kernel
theorem dX7_readsRest_158 : decode cX7_readsRest 158 = .ok (.aload_n 0, 1) := by decide +kernel
theorem dX7_readsRest_159 : decode cX7_readsRest 159 = .ok (.bipush 43, 2) := by decide +kernel
theorem dX7_readsRest_161 : decode cX7_readsRest 161 = .ok (.invokevirtual 174, 3) := by decide +kernel
theorem dX7_readsRest_164 : decode cX7_readsRest 164 = .ok (.ifCond .ne 12, 3) := by decide +kernel
theorem dX7_readsRest_167 : decode cX7_readsRest 167 = .ok (.aload_n 0, 1) := by decide +kernel
theorem dX7_readsRest_168 : decode cX7_readsRest 168 = .ok (.bipush 45, 2) := by decide +kernel
theorem dX7_readsRest_170 : decode cX7_readsRest 170 = .ok (.invokevirtual 174, 3) := by decide +kernel
theorem dX7_readsRest_173 : decode cX7_readsRest 173 = .ok (.ifCond .eq 7, 3) := by decide +kernel
theorem dX7_readsRest_176 : decode cX7_readsRest 176 = .ok (.iconst 1, 1) := by decide +kernel
theorem dX7_readsRest_177 : decode cX7_readsRest 177 = .ok (.goto 4, 3) := by decide +kernel
theorem dX7_readsRest_180 : decode cX7_readsRest 180 = .ok (.iconst 0, 1) := by decide +kernel
theorem dX7_readsRest_181 : decode cX7_readsRest 181 = .ok (.ireturn, 1) := by decide +kernel
theorem dX7_readsThing_0 : decode cX7_readsThing 0 = .ok (.aload_n 0, 1) := by decide +kernel
theorem dX7_readsThing_1 : decode cX7_readsThing 1 = .ok (.invokevirtual 165, 3) := by decide +kernel
theorem dX7_readsThing_4 : decode cX7_readsThing 4 = .ok (.istore_n 1, 1) := by decide +kernel
theorem dX7_readsThing_5 : decode cX7_readsThing 5 = .ok (.aload_n 0, 1) := by decide +kernel
theorem dX7_readsThing_6 : decode cX7_readsThing 6 = .ok (.bipush 114, 2) := by decide +kernel
theorem dX7_readsThing_8 : decode cX7_readsThing 8 = .ok (.invokevirtual 174, 3) := by decide +kernel
theorem dX7_readsThing_11 : decode cX7_readsThing 11 = .ok (.ifCond .ne 30, 3) := by decide +kernel
theorem dX7_readsThing_14 : decode cX7_readsThing 14 = .ok (.aload_n 0, 1) := by decide +kernel
theorem dX7_readsThing_15 : decode cX7_readsThing 15 = .ok (.bipush 100, 2) := by decide +kernel
theorem dX7_readsThing_17 : decode cX7_readsThing 17 = .ok (.invokevirtual 174, 3) := by decide +kernel
theorem dX7_readsThing_20 : decode cX7_readsThing 20 = .ok (.ifCond .ne 21, 3) := by decide +kernel
theorem dX7_readsThing_23 : decode cX7_readsThing 23 = .ok (.aload_n 0, 1) := by decide +kernel
theorem dX7_readsThing_24 : decode cX7_readsThing 24 = .ok (.bipush 108, 2) := by decide +kernel
theorem dX7_readsThing_26 : decode cX7_readsThing 26 = .ok (.invokevirtual 174, 3) := by decide +kernel
theorem dX7_readsThing_29 : decode cX7_readsThing 29 = .ok (.ifCond .ne 12, 3) := by decide +kernel
theorem dX7_readsThing_32 : decode cX7_readsThing 32 = .ok (.aload_n 0, 1) := by decide +kernel
theorem dX7_readsThing_33 : decode cX7_readsThing 33 = .ok (.bipush 46, 2) := by decide +kernel
theorem dX7_readsThing_35 : decode cX7_readsThing 35 = .ok (.invokevirtual 174, 3) := by decide +kernel
theorem dX7_readsThing_38 : decode cX7_readsThing 38 = .ok (.ifCond .eq 7, 3) := by decide +kernel
theorem dX7_readsThing_41 : decode cX7_readsThing 41 = .ok (.iconst 1, 1) := by decide +kernel
theorem dX7_readsThing_42 : decode cX7_readsThing 42 = .ok (.goto 4, 3) := by decide +kernel
theorem dX7_readsThing_45 : decode cX7_readsThing 45 = .ok (.iconst 0, 1) := by decide +kernel
theorem dX7_readsThing_46 : decode cX7_readsThing 46 = .ok (.istore_n 2, 1) := by decide +kernel
theorem dX7_readsThing_47 : decode cX7_readsThing 47 = .ok (.iload_n 2, 1) := by decide +kernel
theorem dX7_readsThing_48 : decode cX7_readsThing 48 = .ok (.ifCond .eq 11, 3) := by decide +kernel
theorem dX7_readsThing_51 : decode cX7_readsThing 51 = .ok (.aload_n 0, 1) := by decide +kernel
theorem dX7_readsThing_52 : decode cX7_readsThing 52 = .ok (.iload_n 1, 1) := by decide +kernel
theorem dX7_readsThing_53 : decode cX7_readsThing 53 = .ok (.invokevirtual 183, 3) := by decide +kernel
theorem dX7_readsThing_56 : decode cX7_readsThing 56 = .ok (.ifCond .ne 5, 3) := by decide +kernel
theorem dX7_readsThing_59 : decode cX7_readsThing 59 = .ok (.iconst 0, 1) := by decide +kernel
theorem dX7_readsThing_60 : decode cX7_readsThing 60 = .ok (.ireturn, 1) := by decide +kernel
theorem dX7_readsThing_61 : decode cX7_readsThing 61 = .ok (.aload_n 0, 1) := by decide +kernel
theorem dX7_readsThing_62 : decode cX7_readsThing 62 = .ok (.getfield 28, 3) := by decide +kernel
theorem dX7_readsThing_65 : decode cX7_readsThing 65 = .ok (.aload_n 0, 1) := by decide +kernel
theorem dX7_readsThing_66 : decode cX7_readsThing 66 = .ok (.getfield 171, 3) := by decide +kernel
theorem dX7_readsThing_69 : decode cX7_readsThing 69 = .ok (.iload_n 1, 1) := by decide +kernel
theorem dX7_readsThing_70 : decode cX7_readsThing 70 = .ok (.iastore, 1) := by decide +kernel
theorem dX7_readsThing_71 : decode cX7_readsThing 71 = .ok (.aload_n 0, 1) := by decide +kernel
theorem dX7_readsThing_72 : decode cX7_readsThing 72 = .ok (.dup, 1) := by decide +kernel
theorem dX7_readsThing_73 : decode cX7_readsThing 73 = .ok (.getfield 171, 3) := by decide +kernel
theorem dX7_readsThing_76 : decode cX7_readsThing 76 = .ok (.iconst 1, 1) := by decide +kernel
theorem dX7_readsThing_77 : decode cX7_readsThing 77 = .ok (.iadd, 1) := by decide +kernel
theorem dX7_readsThing_78 : decode cX7_readsThing 78 = .ok (.putfield 171, 3) := by decide +kernel
theorem dX7_readsThing_81 : decode cX7_readsThing 81 = .ok (.iconst 1, 1) := by decide +kernel
theorem dX7_readsThing_82 : decode cX7_readsThing 82 = .ok (.ireturn, 1) := by decide +kernel
theorem dX7_faultNow_0 : decode cX7_faultNow 0 = .ok (.aload_n 0, 1) := by decide +kernel
theorem dX7_faultNow_1 : decode cX7_faultNow 1 = .ok (.iconst 0, 1) := by decide +kernel
theorem dX7_faultNow_2 : decode cX7_faultNow 2 = .ok (.putfield 158, 3) := by decide +kernel
theorem dX7_faultNow_5 : decode cX7_faultNow 5 = .ok (.aload_n 0, 1) := by decide +kernel
theorem dX7_faultNow_6 : decode cX7_faultNow 6 = .ok (.iconst 0, 1) := by decide +kernel
theorem dX7_faultNow_7 : decode cX7_faultNow 7 = .ok (.putfield 171, 3) := by decide +kernel
theorem dX7_faultNow_10 : decode cX7_faultNow 10 = .ok (.aload_n 0, 1) := by decide +kernel
theorem dX7_faultNow_11 : decode cX7_faultNow 11 = .ok (.invokevirtual 186, 3) := by decide +kernel
theorem dX7_faultNow_14 : decode cX7_faultNow 14 = .ok (.istore_n 1, 1) := by decide +kernel
theorem dX7_faultNow_15 : decode cX7_faultNow 15 = .ok (.iload_n 1, 1) := by decide +kernel
theorem dX7_faultNow_16 : decode cX7_faultNow 16 = .ok (.ifCond .eq 20, 3) := by decide +kernel
theorem dX7_faultNow_19 : decode cX7_faultNow 19 = .ok (.aload_n 0, 1) := by decide +kernel
theorem dX7_faultNow_20 : decode cX7_faultNow 20 = .ok (.bipush 59, 2) := by decide +kernel
theorem dX7_faultNow_22 : decode cX7_faultNow 22 = .ok (.invokevirtual 174, 3) := by decide +kernel
theorem dX7_faultNow_25 : decode cX7_faultNow 25 = .ok (.ifCond .eq 11, 3) := by decide +kernel
theorem dX7_faultNow_28 : decode cX7_faultNow 28 = .ok (.aload_n 0, 1) := by decide +kernel
theorem dX7_faultNow_29 : decode cX7_faultNow 29 = .ok (.invokevirtual 186, 3) := by decide +kernel
theorem dX7_faultNow_32 : decode cX7_faultNow 32 = .ok (.istore_n 1, 1) := by decide +kernel
theorem dX7_faultNow_33 : decode cX7_faultNow 33 = .ok (.goto (-18), 3) := by decide +kernel
theorem dX7_faultNow_36 : decode cX7_faultNow 36 = .ok (.iload_n 1, 1) := by decide +kernel
theorem dX7_faultNow_37 : decode cX7_faultNow 37 = .ok (.ifCond .eq 19, 3) := by decide +kernel
theorem dX7_faultNow_40 : decode cX7_faultNow 40 = .ok (.aload_n 0, 1) := by decide +kernel
theorem dX7_faultNow_41 : decode cX7_faultNow 41 = .ok (.getfield 158, 3) := by decide +kernel
theorem dX7_faultNow_44 : decode cX7_faultNow 44 = .ok (.aload_n 0, 1) := by decide +kernel
theorem dX7_faultNow_45 : decode cX7_faultNow 45 = .ok (.getfield 155, 3) := by decide +kernel
theorem dX7_faultNow_48 : decode cX7_faultNow 48 = .ok (.if_icmp .ne 8, 3) := by decide +kernel
theorem dX7_faultNow_51 : decode cX7_faultNow 51 = .ok (.bipush (-5), 2) := by decide +kernel
theorem dX7_faultNow_53 : decode cX7_faultNow 53 = .ok (.goto 7, 3) := by decide +kernel
theorem dX7_faultNow_56 : decode cX7_faultNow 56 = .ok (.aload_n 0, 1) := by decide +kernel
theorem dX7_faultNow_57 : decode cX7_faultNow 57 = .ok (.getfield 158, 3) := by decide +kernel
theorem dX7_faultNow_60 : decode cX7_faultNow 60 = .ok (.ireturn, 1) := by decide +kernel
theorem dX7_doThing_0 : decode cX7_doThing 0 = .ok (.aload_n 0, 1) := by decide +kernel
theorem dX7_doThing_1 : decode cX7_doThing 1 = .ok (.getfield 28, 3) := by decide +kernel
theorem dX7_doThing_4 : decode cX7_doThing 4 = .ok (.iload_n 1, 1) := by decide +kernel
theorem dX7_doThing_5 : decode cX7_doThing 5 = .ok (.iaload, 1) := by decide +kernel
theorem dX7_doThing_6 : decode cX7_doThing 6 = .ok (.lookupswitch 85 #[(100, 51), (108, 68), (114, 34)], 34) := by decide +kernel
theorem dX7_doThing_40 : decode cX7_doThing 40 = .ok (.aload_n 0, 1) := by decide +kernel
theorem dX7_doThing_41 : decode cX7_doThing 41 = .ok (.aload_n 0, 1) := by decide +kernel
theorem dX7_doThing_42 : decode cX7_doThing 42 = .ok (.getfield 31, 3) := by decide +kernel
theorem dX7_doThing_45 : decode cX7_doThing 45 = .ok (.iload_n 1, 1) := by decide +kernel
theorem dX7_doThing_46 : decode cX7_doThing 46 = .ok (.iaload, 1) := by decide +kernel
theorem dX7_doThing_47 : decode cX7_doThing 47 = .ok (.aload_n 0, 1) := by decide +kernel
theorem dX7_doThing_48 : decode cX7_doThing 48 = .ok (.getfield 34, 3) := by decide +kernel
theorem dX7_doThing_51 : decode cX7_doThing 51 = .ok (.iload_n 1, 1) := by decide +kernel
theorem dX7_doThing_52 : decode cX7_doThing 52 = .ok (.iaload, 1) := by decide +kernel
theorem dX7_doThing_53 : decode cX7_doThing 53 = .ok (.invokevirtual 133, 3) := by decide +kernel
theorem dX7_doThing_56 : decode cX7_doThing 56 = .ok (.ireturn, 1) := by decide +kernel
theorem dX7_doThing_57 : decode cX7_doThing 57 = .ok (.aload_n 0, 1) := by decide +kernel
theorem dX7_doThing_58 : decode cX7_doThing 58 = .ok (.aload_n 0, 1) := by decide +kernel
theorem dX7_doThing_59 : decode cX7_doThing 59 = .ok (.getfield 31, 3) := by decide +kernel
theorem dX7_doThing_62 : decode cX7_doThing 62 = .ok (.iload_n 1, 1) := by decide +kernel
theorem dX7_doThing_63 : decode cX7_doThing 63 = .ok (.iaload, 1) := by decide +kernel
theorem dX7_doThing_64 : decode cX7_doThing 64 = .ok (.aload_n 0, 1) := by decide +kernel
theorem dX7_doThing_65 : decode cX7_doThing 65 = .ok (.getfield 34, 3) := by decide +kernel
theorem dX7_doThing_68 : decode cX7_doThing 68 = .ok (.iload_n 1, 1) := by decide +kernel
theorem dX7_doThing_69 : decode cX7_doThing 69 = .ok (.iaload, 1) := by decide +kernel
theorem dX7_doThing_70 : decode cX7_doThing 70 = .ok (.invokevirtual 139, 3) := by decide +kernel
theorem dX7_doThing_73 : decode cX7_doThing 73 = .ok (.ireturn, 1) := by decide +kernel
theorem dX7_doThing_74 : decode cX7_doThing 74 = .ok (.aload_n 0, 1) := by decide +kernel
theorem dX7_doThing_75 : decode cX7_doThing 75 = .ok (.aload_n 0, 1) := by decide +kernel
theorem dX7_doThing_76 : decode cX7_doThing 76 = .ok (.getfield 31, 3) := by decide +kernel
theorem dX7_doThing_79 : decode cX7_doThing 79 = .ok (.iload_n 1, 1) := by decide +kernel
theorem dX7_doThing_80 : decode cX7_doThing 80 = .ok (.iaload, 1) := by decide +kernel
theorem dX7_doThing_81 : decode cX7_doThing 81 = .ok (.aload_n 0, 1) := by decide +kernel
theorem dX7_doThing_82 : decode cX7_doThing 82 = .ok (.getfield 34, 3) := by decide +kernel
theorem dX7_doThing_85 : decode cX7_doThing 85 = .ok (.iload_n 1, 1) := by decide +kernel
theorem dX7_doThing_86 : decode cX7_doThing 86 = .ok (.iaload, 1) := by decide +kernel
theorem dX7_doThing_87 : decode cX7_doThing 87 = .ok (.invokevirtual 142, 3) := by decide +kernel
theorem dX7_doThing_90 : decode cX7_doThing 90 = .ok (.ireturn, 1) := by decide +kernel
theorem dX7_doThing_91 : decode cX7_doThing 91 = .ok (.aload_n 0, 1) := by decide +kernel
theorem dX7_doThing_92 : decode cX7_doThing 92 = .ok (.aload_n 0, 1) := by decide +kernel
theorem dX7_doThing_93 : decode cX7_doThing 93 = .ok (.getfield 31, 3) := by decide +kernel
theorem dX7_doThing_96 : decode cX7_doThing 96 = .ok (.iload_n 1, 1) := by decide +kernel
theorem dX7_doThing_97 : decode cX7_doThing 97 = .ok (.iaload, 1) := by decide +kernel
theorem dX7_doThing_98 : decode cX7_doThing 98 = .ok (.invokevirtual 152, 3) := by decide +kernel
theorem dX7_doThing_101 : decode cX7_doThing 101 = .ok (.ireturn, 1) := by decide +kernel
theorem dX7_perform_0 : decode cX7_perform 0 = .ok (.aload_n 0, 1) := by decide +kernel
theorem dX7_perform_1 : decode cX7_perform 1 = .ok (.invokevirtual 189, 3) := by decide +kernel
theorem dX7_perform_4 : decode cX7_perform 4 = .ok (.istore_n 1, 1) := by decide +kernel
theorem dX7_perform_5 : decode cX7_perform 5 = .ok (.iload_n 1, 1) := by decide +kernel
theorem dX7_perform_6 : decode cX7_perform 6 = .ok (.bipush (-5), 2) := by decide +kernel
theorem dX7_perform_8 : decode cX7_perform 8 = .ok (.if_icmp .eq 8, 3) := by decide +kernel
theorem dX7_perform_11 : decode cX7_perform 11 = .ok (.bipush (-100), 2) := by decide +kernel
theorem dX7_perform_13 : decode cX7_perform 13 = .ok (.iload_n 1, 1) := by decide +kernel
theorem dX7_perform_14 : decode cX7_perform 14 = .ok (.isub, 1) := by decide +kernel
theorem dX7_perform_15 : decode cX7_perform 15 = .ok (.ireturn, 1) := by decide +kernel
theorem dX7_perform_16 : decode cX7_perform 16 = .ok (.aload_n 0, 1) := by decide +kernel
theorem dX7_perform_17 : decode cX7_perform 17 = .ok (.invokevirtual 65, 3) := by decide +kernel
theorem dX7_perform_20 : decode cX7_perform 20 = .ok (.iconst 0, 1) := by decide +kernel
theorem dX7_perform_21 : decode cX7_perform 21 = .ok (.istore_n 2, 1) := by decide +kernel
theorem dX7_perform_22 : decode cX7_perform 22 = .ok (.iload_n 2, 1) := by decide +kernel
theorem dX7_perform_23 : decode cX7_perform 23 = .ok (.aload_n 0, 1) := by decide +kernel
theorem dX7_perform_24 : decode cX7_perform 24 = .ok (.getfield 171, 3) := by decide +kernel
theorem dX7_perform_27 : decode cX7_perform 27 = .ok (.if_icmp .ge 42, 3) := by decide +kernel
theorem dX7_perform_30 : decode cX7_perform 30 = .ok (.aload_n 0, 1) := by decide +kernel
theorem dX7_perform_31 : decode cX7_perform 31 = .ok (.iload_n 2, 1) := by decide +kernel
theorem dX7_perform_32 : decode cX7_perform 32 = .ok (.invokevirtual 192, 3) := by decide +kernel
theorem dX7_perform_35 : decode cX7_perform 35 = .ok (.istore_n 3, 1) := by decide +kernel
theorem dX7_perform_36 : decode cX7_perform 36 = .ok (.iload_n 3, 1) := by decide +kernel
theorem dX7_perform_37 : decode cX7_perform 37 = .ok (.ifCond .ge 26, 3) := by decide +kernel
theorem dX7_perform_40 : decode cX7_perform 40 = .ok (.iload_n 3, 1) := by decide +kernel
theorem dX7_perform_41 : decode cX7_perform 41 = .ok (.bipush (-5), 2) := by decide +kernel
theorem dX7_perform_43 : decode cX7_perform 43 = .ok (.if_icmp .eq 20, 3) := by decide +kernel
theorem dX7_perform_46 : decode cX7_perform 46 = .ok (.aload_n 0, 1) := by decide +kernel
theorem dX7_perform_47 : decode cX7_perform 47 = .ok (.invokevirtual 195, 3) := by decide +kernel
theorem dX7_perform_50 : decode cX7_perform 50 = .ok (.aload_n 0, 1) := by decide +kernel
theorem dX7_perform_51 : decode cX7_perform 51 = .ok (.iload_n 2, 1) := by decide +kernel
theorem dX7_perform_52 : decode cX7_perform 52 = .ok (.putfield 37, 3) := by decide +kernel
theorem dX7_perform_55 : decode cX7_perform 55 = .ok (.aload_n 0, 1) := by decide +kernel
theorem dX7_perform_56 : decode cX7_perform 56 = .ok (.iload_n 3, 1) := by decide +kernel
theorem dX7_perform_57 : decode cX7_perform 57 = .ok (.putfield 41, 3) := by decide +kernel
theorem dX7_perform_60 : decode cX7_perform 60 = .ok (.bipush (-4), 2) := by decide +kernel
theorem dX7_perform_62 : decode cX7_perform 62 = .ok (.ireturn, 1) := by decide +kernel
theorem dX7_perform_63 : decode cX7_perform 63 = .ok (.iinc 2 1, 3) := by decide +kernel
theorem dX7_perform_66 : decode cX7_perform 66 = .ok (.goto (-44), 3) := by decide +kernel
theorem dX7_perform_69 : decode cX7_perform 69 = .ok (.aload_n 0, 1) := by decide +kernel
theorem dX7_perform_70 : decode cX7_perform 70 = .ok (.invokevirtual 58, 3) := by decide +kernel
theorem dX7_perform_73 : decode cX7_perform 73 = .ok (.aload_n 0, 1) := by decide +kernel
theorem dX7_perform_74 : decode cX7_perform 74 = .ok (.getfield 171, 3) := by decide +kernel
theorem dX7_perform_77 : decode cX7_perform 77 = .ok (.ireturn, 1) := by decide +kernel
theorem dX7_stopped_0 : decode cX7_stopped 0 = .ok (.iload_n 1, 1) := by decide +kernel
theorem dX7_stopped_1 : decode cX7_stopped 1 = .ok (.ifCond .ne 10, 3) := by decide +kernel
theorem dX7_stopped_4 : decode cX7_stopped 4 = .ok (.aload_n 0, 1) := by decide +kernel
theorem dX7_stopped_5 : decode cX7_stopped 5 = .ok (.getfield 37, 3) := by decide +kernel
theorem dX7_stopped_8 : decode cX7_stopped 8 = .ok (.goto 17, 3) := by decide +kernel
theorem dX7_stopped_11 : decode cX7_stopped 11 = .ok (.iload_n 1, 1) := by decide +kernel
theorem dX7_stopped_12 : decode cX7_stopped 12 = .ok (.iconst 1, 1) := by decide +kernel
theorem dX7_stopped_13 : decode cX7_stopped 13 = .ok (.if_icmp .ne 10, 3) := by decide +kernel
theorem dX7_stopped_16 : decode cX7_stopped 16 = .ok (.aload_n 0, 1) := by decide +kernel
theorem dX7_stopped_17 : decode cX7_stopped 17 = .ok (.getfield 41, 3) := by decide +kernel
theorem dX7_stopped_20 : decode cX7_stopped 20 = .ok (.goto 5, 3) := by decide +kernel
theorem dX7_stopped_23 : decode cX7_stopped 23 = .ok (.bipush (-2), 2) := by decide +kernel
theorem dX7_stopped_25 : decode cX7_stopped 25 = .ok (.ireturn, 1) := by decide +kernel
theorem dX7_shadowsOn_0 : decode cX7_shadowsOn 0 = .ok (.iconst 0, 1) := by decide +kernel
theorem dX7_shadowsOn_1 : decode cX7_shadowsOn 1 = .ok (.istore 4, 2) := by decide +kernel
theorem dX7_shadowsOn_3 : decode cX7_shadowsOn 3 = .ok (.iconst 0, 1) := by decide +kernel
theorem dX7_shadowsOn_4 : decode cX7_shadowsOn 4 = .ok (.istore 5, 2) := by decide +kernel
theorem dX7_shadowsOn_6 : decode cX7_shadowsOn 6 = .ok (.iload 5, 2) := by decide +kernel
theorem dX7_shadowsOn_8 : decode cX7_shadowsOn 8 = .ok (.aload_n 0, 1) := by decide +kernel
theorem dX7_shadowsOn_9 : decode cX7_shadowsOn 9 = .ok (.getfield 7, 3) := by decide +kernel
theorem dX7_shadowsOn_12 : decode cX7_shadowsOn 12 = .ok (.bipush 20, 2) := by decide +kernel
theorem dX7_shadowsOn_14 : decode cX7_shadowsOn 14 = .ok (.iaload, 1) := by decide +kernel
theorem dX7_shadowsOn_15 : decode cX7_shadowsOn 15 = .ok (.iconst 3, 1) := by decide +kernel
theorem dX7_shadowsOn_16 : decode cX7_shadowsOn 16 = .ok (.imul, 1) := by decide +kernel
theorem dX7_shadowsOn_17 : decode cX7_shadowsOn 17 = .ok (.if_icmp .ge 75, 3) := by decide +kernel
theorem dX7_shadowsOn_20 : decode cX7_shadowsOn 20 = .ok (.iload_n 2, 1) := by decide +kernel
theorem dX7_shadowsOn_21 : decode cX7_shadowsOn 21 = .ok (.bipush (-5), 2) := by decide +kernel
theorem dX7_shadowsOn_23 : decode cX7_shadowsOn 23 = .ok (.if_icmp .eq 11, 3) := by decide +kernel
theorem dX7_shadowsOn_26 : decode cX7_shadowsOn 26 = .ok (.iload_n 2, 1) := by decide +kernel
theorem dX7_shadowsOn_27 : decode cX7_shadowsOn 27 = .ok (.iload 5, 2) := by decide +kernel
theorem dX7_shadowsOn_29 : decode cX7_shadowsOn 29 = .ok (.iconst 3, 1) := by decide +kernel
theorem dX7_shadowsOn_30 : decode cX7_shadowsOn 30 = .ok (.idiv, 1) := by decide +kernel
theorem dX7_shadowsOn_31 : decode cX7_shadowsOn 31 = .ok (.if_icmp .ne 21, 3) := by decide +kernel
theorem dX7_shadowsOn_34 : decode cX7_shadowsOn 34 = .ok (.iload_n 3, 1) := by decide +kernel
theorem dX7_shadowsOn_35 : decode cX7_shadowsOn 35 = .ok (.bipush (-5), 2) := by decide +kernel
theorem dX7_shadowsOn_37 : decode cX7_shadowsOn 37 = .ok (.if_icmp .eq 11, 3) := by decide +kernel
theorem dX7_shadowsOn_40 : decode cX7_shadowsOn 40 = .ok (.iload_n 3, 1) := by decide +kernel
theorem dX7_shadowsOn_41 : decode cX7_shadowsOn 41 = .ok (.iload 5, 2) := by decide +kernel
theorem dX7_shadowsOn_43 : decode cX7_shadowsOn 43 = .ok (.iconst 3, 1) := by decide +kernel
theorem dX7_shadowsOn_44 : decode cX7_shadowsOn 44 = .ok (.irem, 1) := by decide +kernel
theorem dX7_shadowsOn_45 : decode cX7_shadowsOn 45 = .ok (.if_icmp .ne 7, 3) := by decide +kernel
theorem dX7_shadowsOn_48 : decode cX7_shadowsOn 48 = .ok (.iconst 1, 1) := by decide +kernel
theorem dX7_shadowsOn_49 : decode cX7_shadowsOn 49 = .ok (.goto 4, 3) := by decide +kernel
theorem dX7_shadowsOn_52 : decode cX7_shadowsOn 52 = .ok (.iconst 0, 1) := by decide +kernel
theorem dX7_shadowsOn_53 : decode cX7_shadowsOn 53 = .ok (.istore 6, 2) := by decide +kernel
theorem dX7_shadowsOn_55 : decode cX7_shadowsOn 55 = .ok (.iload 4, 2) := by decide +kernel
theorem dX7_shadowsOn_57 : decode cX7_shadowsOn 57 = .ok (.iload 6, 2) := by decide +kernel
theorem dX7_shadowsOn_59 : decode cX7_shadowsOn 59 = .ok (.ifCond .eq 23, 3) := by decide +kernel
theorem dX7_shadowsOn_62 : decode cX7_shadowsOn 62 = .ok (.aload_n 0, 1) := by decide +kernel
theorem dX7_shadowsOn_63 : decode cX7_shadowsOn 63 = .ok (.iload 5, 2) := by decide +kernel
theorem dX7_shadowsOn_65 : decode cX7_shadowsOn 65 = .ok (.iconst 3, 1) := by decide +kernel
theorem dX7_shadowsOn_66 : decode cX7_shadowsOn 66 = .ok (.idiv, 1) := by decide +kernel
theorem dX7_shadowsOn_67 : decode cX7_shadowsOn 67 = .ok (.iload 5, 2) := by decide +kernel
theorem dX7_shadowsOn_69 : decode cX7_shadowsOn 69 = .ok (.iconst 3, 1) := by decide +kernel
theorem dX7_shadowsOn_70 : decode cX7_shadowsOn 70 = .ok (.irem, 1) := by decide +kernel
theorem dX7_shadowsOn_71 : decode cX7_shadowsOn 71 = .ok (.iload_n 1, 1) := by decide +kernel
theorem dX7_shadowsOn_72 : decode cX7_shadowsOn 72 = .ok (.invokevirtual 92, 3) := by decide +kernel
theorem dX7_shadowsOn_75 : decode cX7_shadowsOn 75 = .ok (.ifCond .eq 7, 3) := by decide +kernel
theorem dX7_shadowsOn_78 : decode cX7_shadowsOn 78 = .ok (.iconst 1, 1) := by decide +kernel
theorem dX7_shadowsOn_79 : decode cX7_shadowsOn 79 = .ok (.goto 4, 3) := by decide +kernel
theorem dX7_shadowsOn_82 : decode cX7_shadowsOn 82 = .ok (.iconst 0, 1) := by decide +kernel
theorem dX7_shadowsOn_83 : decode cX7_shadowsOn 83 = .ok (.iadd, 1) := by decide +kernel
theorem dX7_shadowsOn_84 : decode cX7_shadowsOn 84 = .ok (.istore 4, 2) := by decide +kernel
theorem dX7_shadowsOn_86 : decode cX7_shadowsOn 86 = .ok (.iinc 5 1, 3) := by decide +kernel
theorem dX7_shadowsOn_89 : decode cX7_shadowsOn 89 = .ok (.goto (-83), 3) := by decide +kernel
theorem dX7_shadowsOn_92 : decode cX7_shadowsOn 92 = .ok (.iload 4, 2) := by decide +kernel
theorem dX7_shadowsOn_94 : decode cX7_shadowsOn 94 = .ok (.ireturn, 1) := by decide +kernel
theorem dX7_dark_0 : decode cX7_dark 0 = .ok (.iconst 0, 1) := by decide +kernel
theorem dX7_dark_1 : decode cX7_dark 1 = .ok (.istore_n 3, 1) := by decide +kernel
theorem dX7_dark_2 : decode cX7_dark 2 = .ok (.iconst 0, 1) := by decide +kernel
theorem dX7_dark_3 : decode cX7_dark 3 = .ok (.istore 4, 2) := by decide +kernel
theorem dX7_dark_5 : decode cX7_dark 5 = .ok (.iload 4, 2) := by decide +kernel
theorem dX7_dark_7 : decode cX7_dark 7 = .ok (.bipush 100, 2) := by decide +kernel
theorem dX7_dark_9 : decode cX7_dark 9 = .ok (.if_icmp .ge 28, 3) := by decide +kernel
theorem dX7_dark_12 : decode cX7_dark 12 = .ok (.iload_n 3, 1) := by decide +kernel
theorem dX7_dark_13 : decode cX7_dark 13 = .ok (.aload_n 0, 1) := by decide +kernel
theorem dX7_dark_14 : decode cX7_dark 14 = .ok (.iload 4, 2) := by decide +kernel
theorem dX7_dark_16 : decode cX7_dark 16 = .ok (.iload_n 1, 1) := by decide +kernel
theorem dX7_dark_17 : decode cX7_dark 17 = .ok (.iload_n 2, 1) := by decide +kernel
theorem dX7_dark_18 : decode cX7_dark 18 = .ok (.invokevirtual 198, 3) := by decide +kernel
theorem dX7_dark_21 : decode cX7_dark 21 = .ok (.ifCond .le 7, 3) := by decide +kernel
theorem dX7_dark_24 : decode cX7_dark 24 = .ok (.iconst 1, 1) := by decide +kernel
theorem dX7_dark_25 : decode cX7_dark 25 = .ok (.goto 4, 3) := by decide +kernel
theorem dX7_dark_28 : decode cX7_dark 28 = .ok (.iconst 0, 1) := by decide +kernel
theorem dX7_dark_29 : decode cX7_dark 29 = .ok (.iadd, 1) := by decide +kernel
theorem dX7_dark_30 : decode cX7_dark 30 = .ok (.istore_n 3, 1) := by decide +kernel
theorem dX7_dark_31 : decode cX7_dark 31 = .ok (.iinc 4 1, 3) := by decide +kernel
theorem dX7_dark_34 : decode cX7_dark 34 = .ok (.goto (-29), 3) := by decide +kernel
theorem dX7_dark_37 : decode cX7_dark 37 = .ok (.iload_n 3, 1) := by decide +kernel
theorem dX7_dark_38 : decode cX7_dark 38 = .ok (.ireturn, 1) := by decide +kernel
theorem dX7_runner_0 : decode cX7_runner 0 = .ok (.aload_n 0, 1) := by decide +kernel
theorem dX7_runner_1 : decode cX7_runner 1 = .ok (.iload_n 1, 1) := by decide +kernel
theorem dX7_runner_2 : decode cX7_runner 2 = .ok (.invokevirtual 120, 3) := by decide +kernel
theorem dX7_runner_5 : decode cX7_runner 5 = .ok (.ifCond .ne 5, 3) := by decide +kernel
theorem dX7_runner_8 : decode cX7_runner 8 = .ok (.iconst (-1), 1) := by decide +kernel
theorem dX7_runner_9 : decode cX7_runner 9 = .ok (.ireturn, 1) := by decide +kernel
theorem dX7_runner_10 : decode cX7_runner 10 = .ok (.iload_n 2, 1) := by decide +kernel
theorem dX7_runner_11 : decode cX7_runner 11 = .ok (.bipush 7, 2) := by decide +kernel
theorem dX7_runner_13 : decode cX7_runner 13 = .ok (.if_icmp .ne 13, 3) := by decide +kernel
theorem dX7_runner_16 : decode cX7_runner 16 = .ok (.aload_n 0, 1) := by decide +kernel
theorem dX7_runner_17 : decode cX7_runner 17 = .ok (.iload_n 1, 1) := by decide +kernel
theorem dX7_runner_18 : decode cX7_runner 18 = .ok (.bipush (-5), 2) := by decide +kernel
theorem dX7_runner_20 : decode cX7_runner 20 = .ok (.invokevirtual 201, 3) := by decide +kernel
theorem dX7_runner_23 : decode cX7_runner 23 = .ok (.goto 24, 3) := by decide +kernel
theorem dX7_runner_26 : decode cX7_runner 26 = .ok (.iload_n 2, 1) := by decide +kernel
theorem dX7_runner_27 : decode cX7_runner 27 = .ok (.iconst 0, 1) := by decide +kernel
theorem dX7_runner_28 : decode cX7_runner 28 = .ok (.bipush 6, 2) := by decide +kernel
theorem dX7_runner_30 : decode cX7_runner 30 = .ok (.invokestatic 51, 3) := by decide +kernel
theorem dX7_runner_33 : decode cX7_runner 33 = .ok (.ifCond .eq 12, 3) := by decide +kernel
theorem dX7_runner_36 : decode cX7_runner 36 = .ok (.aload_n 0, 1) := by decide +kernel
theorem dX7_runner_37 : decode cX7_runner 37 = .ok (.iload_n 1, 1) := by decide +kernel
theorem dX7_runner_38 : decode cX7_runner 38 = .ok (.iload_n 2, 1) := by decide +kernel
theorem dX7_runner_39 : decode cX7_runner 39 = .ok (.invokevirtual 68, 3) := by decide +kernel
theorem dX7_runner_42 : decode cX7_runner 42 = .ok (.goto 5, 3) := by decide +kernel
theorem dX7_runner_45 : decode cX7_runner 45 = .ok (.bipush (-2), 2) := by decide +kernel
theorem dX7_runner_47 : decode cX7_runner 47 = .ok (.ireturn, 1) := by decide +kernel
theorem dX7_lamp_0 : decode cX7_lamp 0 = .ok (.iload_n 1, 1) := by decide +kernel
theorem dX7_lamp_1 : decode cX7_lamp 1 = .ok (.invokestatic 123, 3) := by decide +kernel
theorem dX7_lamp_4 : decode cX7_lamp 4 = .ok (.ifCond .ne 5, 3) := by decide +kernel
theorem dX7_lamp_7 : decode cX7_lamp 7 = .ok (.iconst (-1), 1) := by decide +kernel
theorem dX7_lamp_8 : decode cX7_lamp 8 = .ok (.ireturn, 1) := by decide +kernel
theorem dX7_lamp_9 : decode cX7_lamp 9 = .ok (.iload_n 2, 1) := by decide +kernel
theorem dX7_lamp_10 : decode cX7_lamp 10 = .ok (.iconst 4, 1) := by decide +kernel
theorem dX7_lamp_11 : decode cX7_lamp 11 = .ok (.if_icmp .ne 13, 3) := by decide +kernel
theorem dX7_lamp_14 : decode cX7_lamp 14 = .ok (.aload_n 0, 1) := by decide +kernel
theorem dX7_lamp_15 : decode cX7_lamp 15 = .ok (.bipush (-5), 2) := by decide +kernel
theorem dX7_lamp_17 : decode cX7_lamp 17 = .ok (.iload_n 1, 1) := by decide +kernel
theorem dX7_lamp_18 : decode cX7_lamp 18 = .ok (.invokevirtual 201, 3) := by decide +kernel
theorem dX7_lamp_21 : decode cX7_lamp 21 = .ok (.goto 23, 3) := by decide +kernel
theorem dX7_lamp_24 : decode cX7_lamp 24 = .ok (.iload_n 2, 1) := by decide +kernel
theorem dX7_lamp_25 : decode cX7_lamp 25 = .ok (.iconst 0, 1) := by decide +kernel
theorem dX7_lamp_26 : decode cX7_lamp 26 = .ok (.iconst 3, 1) := by decide +kernel
theorem dX7_lamp_27 : decode cX7_lamp 27 = .ok (.invokestatic 51, 3) := by decide +kernel
theorem dX7_lamp_30 : decode cX7_lamp 30 = .ok (.ifCond .eq 12, 3) := by decide +kernel
theorem dX7_lamp_33 : decode cX7_lamp 33 = .ok (.aload_n 0, 1) := by decide +kernel
theorem dX7_lamp_34 : decode cX7_lamp 34 = .ok (.iload_n 1, 1) := by decide +kernel
theorem dX7_lamp_35 : decode cX7_lamp 35 = .ok (.iload_n 2, 1) := by decide +kernel
theorem dX7_lamp_36 : decode cX7_lamp 36 = .ok (.invokevirtual 78, 3) := by decide +kernel
theorem dX7_lamp_39 : decode cX7_lamp 39 = .ok (.goto 5, 3) := by decide +kernel
theorem dX7_lamp_42 : decode cX7_lamp 42 = .ok (.bipush (-2), 2) := by decide +kernel
theorem dX7_lamp_44 : decode cX7_lamp 44 = .ok (.ireturn, 1) := by decide +kernel
theorem dX7_shadow_0 : decode cX7_shadow 0 = .ok (.aload_n 0, 1) := by decide +kernel
theorem dX7_shadow_1 : decode cX7_shadow 1 = .ok (.iload_n 1, 1) := by decide +kernel
theorem dX7_shadow_2 : decode cX7_shadow 2 = .ok (.invokevirtual 120, 3) := by decide +kernel
theorem dX7_shadow_5 : decode cX7_shadow 5 = .ok (.ifCond .eq 10, 3) := by decide +kernel
theorem dX7_shadow_8 : decode cX7_shadow 8 = .ok (.iload_n 2, 1) := by decide +kernel
theorem dX7_shadow_9 : decode cX7_shadow 9 = .ok (.invokestatic 123, 3) := by decide +kernel
theorem dX7_shadow_12 : decode cX7_shadow 12 = .ok (.ifCond .ne 5, 3) := by decide +kernel
theorem dX7_shadow_15 : decode cX7_shadow 15 = .ok (.iconst (-1), 1) := by decide +kernel
theorem dX7_shadow_16 : decode cX7_shadow 16 = .ok (.ireturn, 1) := by decide +kernel
theorem dX7_shadow_17 : decode cX7_shadow 17 = .ok (.aload_n 0, 1) := by decide +kernel
theorem dX7_shadow_18 : decode cX7_shadow 18 = .ok (.iload_n 1, 1) := by decide +kernel
theorem dX7_shadow_19 : decode cX7_shadow 19 = .ok (.iload_n 2, 1) := by decide +kernel
theorem dX7_shadow_20 : decode cX7_shadow 20 = .ok (.invokevirtual 88, 3) := by decide +kernel
theorem dX7_shadow_23 : decode cX7_shadow 23 = .ok (.iload_n 3, 1) := by decide +kernel
theorem dX7_shadow_24 : decode cX7_shadow 24 = .ok (.ifCond .ne 10, 3) := by decide +kernel
theorem dX7_shadow_27 : decode cX7_shadow 27 = .ok (.aload_n 0, 1) := by decide +kernel
theorem dX7_shadow_28 : decode cX7_shadow 28 = .ok (.getfield 72, 3) := by decide +kernel
theorem dX7_shadow_31 : decode cX7_shadow 31 = .ok (.goto 48, 3) := by decide +kernel
theorem dX7_shadow_34 : decode cX7_shadow 34 = .ok (.iload_n 3, 1) := by decide +kernel
theorem dX7_shadow_35 : decode cX7_shadow 35 = .ok (.iconst 1, 1) := by decide +kernel
theorem dX7_shadow_36 : decode cX7_shadow 36 = .ok (.if_icmp .ne 29, 3) := by decide +kernel
theorem dX7_shadow_39 : decode cX7_shadow 39 = .ok (.aload_n 0, 1) := by decide +kernel
theorem dX7_shadow_40 : decode cX7_shadow 40 = .ok (.getfield 72, 3) := by decide +kernel
theorem dX7_shadow_43 : decode cX7_shadow 43 = .ok (.ifCond .ne 8, 3) := by decide +kernel
theorem dX7_shadow_46 : decode cX7_shadow 46 = .ok (.bipush (-5), 2) := by decide +kernel
theorem dX7_shadow_48 : decode cX7_shadow 48 = .ok (.goto 31, 3) := by decide +kernel
theorem dX7_shadow_51 : decode cX7_shadow 51 = .ok (.aload_n 0, 1) := by decide +kernel
theorem dX7_shadow_52 : decode cX7_shadow 52 = .ok (.getfield 22, 3) := by decide +kernel
theorem dX7_shadow_55 : decode cX7_shadow 55 = .ok (.aload_n 0, 1) := by decide +kernel
theorem dX7_shadow_56 : decode cX7_shadow 56 = .ok (.getfield 72, 3) := by decide +kernel
theorem dX7_shadow_59 : decode cX7_shadow 59 = .ok (.iconst 1, 1) := by decide +kernel
theorem dX7_shadow_60 : decode cX7_shadow 60 = .ok (.isub, 1) := by decide +kernel
theorem dX7_shadow_61 : decode cX7_shadow 61 = .ok (.iaload, 1) := by decide +kernel
theorem dX7_shadow_62 : decode cX7_shadow 62 = .ok (.goto 17, 3) := by decide +kernel
theorem dX7_shadow_65 : decode cX7_shadow 65 = .ok (.iload_n 3, 1) := by decide +kernel
theorem dX7_shadow_66 : decode cX7_shadow 66 = .ok (.iconst 2, 1) := by decide +kernel
theorem dX7_shadow_67 : decode cX7_shadow 67 = .ok (.if_icmp .ne 10, 3) := by decide +kernel
theorem dX7_shadow_70 : decode cX7_shadow 70 = .ok (.aload_n 0, 1) := by decide +kernel
theorem dX7_shadow_71 : decode cX7_shadow 71 = .ok (.getfield 75, 3) := by decide +kernel
theorem dX7_shadow_74 : decode cX7_shadow 74 = .ok (.goto 5, 3) := by decide +kernel
theorem dX7_shadow_77 : decode cX7_shadow 77 = .ok (.bipush (-2), 2) := by decide +kernel
theorem dX7_shadow_79 : decode cX7_shadow 79 = .ok (.ireturn, 1) := by decide +kernel
theorem dX7_darkness_0 : decode cX7_darkness 0 = .ok (.iload_n 1, 1) := by decide +kernel
theorem dX7_darkness_1 : decode cX7_darkness 1 = .ok (.invokestatic 116, 3) := by decide +kernel
theorem dX7_darkness_4 : decode cX7_darkness 4 = .ok (.ifCond .eq 15, 3) := by decide +kernel
theorem dX7_darkness_7 : decode cX7_darkness 7 = .ok (.aload_n 0, 1) := by decide +kernel
theorem dX7_darkness_8 : decode cX7_darkness 8 = .ok (.iload_n 1, 1) := by decide +kernel
theorem dX7_darkness_9 : decode cX7_darkness 9 = .ok (.bipush (-5), 2) := by decide +kernel
theorem dX7_darkness_11 : decode cX7_darkness 11 = .ok (.bipush (-5), 2) := by decide +kernel
theorem dX7_darkness_13 : decode cX7_darkness 13 = .ok (.invokevirtual 198, 3) := by decide +kernel
theorem dX7_darkness_16 : decode cX7_darkness 16 = .ok (.goto 4, 3) := by decide +kernel
theorem dX7_darkness_19 : decode cX7_darkness 19 = .ok (.iconst (-1), 1) := by decide +kernel
theorem dX7_darkness_20 : decode cX7_darkness 20 = .ok (.ireturn, 1) := by decide +kernel
theorem dX7_looked_0 : decode cX7_looked 0 = .ok (.iload_n 1, 1) := by decide +kernel
theorem dX7_looked_1 : decode cX7_looked 1 = .ok (.invokestatic 116, 3) := by decide +kernel
theorem dX7_looked_4 : decode cX7_looked 4 = .ok (.ifCond .ne 5, 3) := by decide +kernel
theorem dX7_looked_7 : decode cX7_looked 7 = .ok (.iconst (-1), 1) := by decide +kernel
theorem dX7_looked_8 : decode cX7_looked 8 = .ok (.ireturn, 1) := by decide +kernel
theorem dX7_looked_9 : decode cX7_looked 9 = .ok (.iconst 0, 1) := by decide +kernel
theorem dX7_looked_10 : decode cX7_looked 10 = .ok (.istore_n 2, 1) := by decide +kernel
theorem dX7_looked_11 : decode cX7_looked 11 = .ok (.iconst 0, 1) := by decide +kernel
theorem dX7_looked_12 : decode cX7_looked 12 = .ok (.istore_n 3, 1) := by decide +kernel
theorem dX7_looked_13 : decode cX7_looked 13 = .ok (.iload_n 3, 1) := by decide +kernel
theorem dX7_looked_14 : decode cX7_looked 14 = .ok (.iconst 3, 1) := by decide +kernel
theorem dX7_looked_15 : decode cX7_looked 15 = .ok (.if_icmp .ge 121, 3) := by decide +kernel
theorem dX7_looked_18 : decode cX7_looked 18 = .ok (.iload_n 1, 1) := by decide +kernel
theorem dX7_looked_19 : decode cX7_looked 19 = .ok (.aload_n 0, 1) := by decide +kernel
theorem dX7_looked_20 : decode cX7_looked 20 = .ok (.iload_n 3, 1) := by decide +kernel
theorem dX7_looked_21 : decode cX7_looked 21 = .ok (.iconst 0, 1) := by decide +kernel
theorem dX7_looked_22 : decode cX7_looked 22 = .ok (.invokevirtual 78, 3) := by decide +kernel
theorem dX7_looked_25 : decode cX7_looked 25 = .ok (.invokestatic 81, 3) := by decide +kernel
theorem dX7_looked_28 : decode cX7_looked 28 = .ok (.istore 4, 2) := by decide +kernel
theorem dX7_looked_30 : decode cX7_looked 30 = .ok (.iconst 1, 1) := by decide +kernel
theorem dX7_looked_31 : decode cX7_looked 31 = .ok (.istore 5, 2) := by decide +kernel
theorem dX7_looked_33 : decode cX7_looked 33 = .ok (.iload 4, 2) := by decide +kernel
theorem dX7_looked_35 : decode cX7_looked 35 = .ok (.bipush (-5), 2) := by decide +kernel
theorem dX7_looked_37 : decode cX7_looked 37 = .ok (.if_icmp .eq 33, 3) := by decide +kernel
theorem dX7_looked_40 : decode cX7_looked 40 = .ok (.aload_n 0, 1) := by decide +kernel
theorem dX7_looked_41 : decode cX7_looked 41 = .ok (.iload 4, 2) := by decide +kernel
theorem dX7_looked_43 : decode cX7_looked 43 = .ok (.invokevirtual 84, 3) := by decide +kernel
theorem dX7_looked_46 : decode cX7_looked 46 = .ok (.bipush (-5), 2) := by decide +kernel
theorem dX7_looked_48 : decode cX7_looked 48 = .ok (.if_icmp .ne 22, 3) := by decide +kernel
theorem dX7_looked_51 : decode cX7_looked 51 = .ok (.iload 4, 2) := by decide +kernel
theorem dX7_looked_53 : decode cX7_looked 53 = .ok (.aload_n 0, 1) := by decide +kernel
theorem dX7_looked_54 : decode cX7_looked 54 = .ok (.iload_n 3, 1) := by decide +kernel
theorem dX7_looked_55 : decode cX7_looked 55 = .ok (.iconst 0, 1) := by decide +kernel
theorem dX7_looked_56 : decode cX7_looked 56 = .ok (.invokevirtual 78, 3) := by decide +kernel
theorem dX7_looked_59 : decode cX7_looked 59 = .ok (.invokestatic 81, 3) := by decide +kernel
theorem dX7_looked_62 : decode cX7_looked 62 = .ok (.istore 4, 2) := by decide +kernel
theorem dX7_looked_64 : decode cX7_looked 64 = .ok (.iinc 5 1, 3) := by decide +kernel
theorem dX7_looked_67 : decode cX7_looked 67 = .ok (.goto (-34), 3) := by decide +kernel
theorem dX7_looked_70 : decode cX7_looked 70 = .ok (.aload_n 0, 1) := by decide +kernel
theorem dX7_looked_71 : decode cX7_looked 71 = .ok (.iload_n 3, 1) := by decide +kernel
theorem dX7_looked_72 : decode cX7_looked 72 = .ok (.iconst 3, 1) := by decide +kernel
theorem dX7_looked_73 : decode cX7_looked 73 = .ok (.invokevirtual 78, 3) := by decide +kernel
theorem dX7_looked_76 : decode cX7_looked 76 = .ok (.iconst 1, 1) := by decide +kernel
theorem dX7_looked_77 : decode cX7_looked 77 = .ok (.if_icmp .ne 37, 3) := by decide +kernel
theorem dX7_looked_80 : decode cX7_looked 80 = .ok (.iload 4, 2) := by decide +kernel
theorem dX7_looked_82 : decode cX7_looked 82 = .ok (.bipush (-5), 2) := by decide +kernel
theorem dX7_looked_84 : decode cX7_looked 84 = .ok (.if_icmp .eq 30, 3) := by decide +kernel
theorem dX7_looked_87 : decode cX7_looked 87 = .ok (.aload_n 0, 1) := by decide +kernel
theorem dX7_looked_88 : decode cX7_looked 88 = .ok (.aload_n 0, 1) := by decide +kernel
theorem dX7_looked_89 : decode cX7_looked 89 = .ok (.iload 4, 2) := by decide +kernel
theorem dX7_looked_91 : decode cX7_looked 91 = .ok (.invokevirtual 84, 3) := by decide +kernel
theorem dX7_looked_94 : decode cX7_looked 94 = .ok (.iconst 1, 1) := by decide +kernel
theorem dX7_looked_95 : decode cX7_looked 95 = .ok (.invokevirtual 68, 3) := by decide +kernel
theorem dX7_looked_98 : decode cX7_looked 98 = .ok (.aload_n 0, 1) := by decide +kernel
theorem dX7_looked_99 : decode cX7_looked 99 = .ok (.iload_n 3, 1) := by decide +kernel
theorem dX7_looked_100 : decode cX7_looked 100 = .ok (.iconst 1, 1) := by decide +kernel
theorem dX7_looked_101 : decode cX7_looked 101 = .ok (.invokevirtual 78, 3) := by decide +kernel
theorem dX7_looked_104 : decode cX7_looked 104 = .ok (.imul, 1) := by decide +kernel
theorem dX7_looked_105 : decode cX7_looked 105 = .ok (.iload 5, 2) := by decide +kernel
theorem dX7_looked_107 : decode cX7_looked 107 = .ok (.if_icmp .lt 7, 3) := by decide +kernel
theorem dX7_looked_110 : decode cX7_looked 110 = .ok (.iconst 1, 1) := by decide +kernel
theorem dX7_looked_111 : decode cX7_looked 111 = .ok (.goto 4, 3) := by decide +kernel
theorem dX7_looked_114 : decode cX7_looked 114 = .ok (.iconst 0, 1) := by decide +kernel
theorem dX7_looked_115 : decode cX7_looked 115 = .ok (.istore 6, 2) := by decide +kernel
theorem dX7_looked_117 : decode cX7_looked 117 = .ok (.iload_n 2, 1) := by decide +kernel
theorem dX7_looked_118 : decode cX7_looked 118 = .ok (.iload 6, 2) := by decide +kernel
theorem dX7_looked_120 : decode cX7_looked 120 = .ok (.ifCond .eq 7, 3) := by decide +kernel
theorem dX7_looked_123 : decode cX7_looked 123 = .ok (.iconst 1, 1) := by decide +kernel
theorem dX7_looked_124 : decode cX7_looked 124 = .ok (.goto 4, 3) := by decide +kernel
theorem dX7_looked_127 : decode cX7_looked 127 = .ok (.iconst 0, 1) := by decide +kernel
theorem dX7_looked_128 : decode cX7_looked 128 = .ok (.iadd, 1) := by decide +kernel
theorem dX7_looked_129 : decode cX7_looked 129 = .ok (.istore_n 2, 1) := by decide +kernel
theorem dX7_looked_130 : decode cX7_looked 130 = .ok (.iinc 3 1, 3) := by decide +kernel
theorem dX7_looked_133 : decode cX7_looked 133 = .ok (.goto (-120), 3) := by decide +kernel
theorem dX7_looked_136 : decode cX7_looked 136 = .ok (.iload_n 2, 1) := by decide +kernel
theorem dX7_looked_137 : decode cX7_looked 137 = .ok (.ireturn, 1) := by decide +kernel
theorem dX7_at_0 : decode cX7_at 0 = .ok (.iload_n 1, 1) := by decide +kernel
theorem dX7_at_1 : decode cX7_at 1 = .ok (.invokestatic 116, 3) := by decide +kernel
theorem dX7_at_4 : decode cX7_at 4 = .ok (.ifCond .eq 11, 3) := by decide +kernel
theorem dX7_at_7 : decode cX7_at 7 = .ok (.aload_n 0, 1) := by decide +kernel
theorem dX7_at_8 : decode cX7_at 8 = .ok (.iload_n 1, 1) := by decide +kernel
theorem dX7_at_9 : decode cX7_at 9 = .ok (.invokevirtual 84, 3) := by decide +kernel
theorem dX7_at_12 : decode cX7_at 12 = .ok (.goto 4, 3) := by decide +kernel
theorem dX7_at_15 : decode cX7_at 15 = .ok (.iconst (-1), 1) := by decide +kernel
theorem dX7_at_16 : decode cX7_at 16 = .ok (.ireturn, 1) := by decide +kernel
theorem dX7_reason_0 : decode cX7_reason 0 = .ok (.aload_n 0, 1) := by decide +kernel
theorem dX7_reason_1 : decode cX7_reason 1 = .ok (.iload_n 1, 1) := by decide +kernel
theorem dX7_reason_2 : decode cX7_reason 2 = .ok (.invokevirtual 120, 3) := by decide +kernel
theorem dX7_reason_5 : decode cX7_reason 5 = .ok (.ifCond .ne 5, 3) := by decide +kernel
theorem dX7_reason_8 : decode cX7_reason 8 = .ok (.iconst (-1), 1) := by decide +kernel
theorem dX7_reason_9 : decode cX7_reason 9 = .ok (.ireturn, 1) := by decide +kernel
theorem dX7_reason_10 : decode cX7_reason 10 = .ok (.iload_n 1, 1) := by decide +kernel
theorem dX7_reason_11 : decode cX7_reason 11 = .ok (.aload_n 0, 1) := by decide +kernel
theorem dX7_reason_12 : decode cX7_reason 12 = .ok (.getfield 7, 3) := by decide +kernel
theorem dX7_reason_15 : decode cX7_reason 15 = .ok (.iconst 1, 1) := by decide +kernel
theorem dX7_reason_16 : decode cX7_reason 16 = .ok (.iaload, 1) := by decide +kernel
theorem dX7_reason_17 : decode cX7_reason 17 = .ok (.if_icmp .ne 5, 3) := by decide +kernel
theorem dX7_reason_20 : decode cX7_reason 20 = .ok (.iconst 1, 1) := by decide +kernel
theorem dX7_reason_21 : decode cX7_reason 21 = .ok (.ireturn, 1) := by decide +kernel
theorem dX7_reason_22 : decode cX7_reason 22 = .ok (.aload_n 0, 1) := by decide +kernel
theorem dX7_reason_23 : decode cX7_reason 23 = .ok (.iload_n 1, 1) := by decide +kernel
theorem dX7_reason_24 : decode cX7_reason 24 = .ok (.invokevirtual 204, 3) := by decide +kernel
theorem dX7_reason_27 : decode cX7_reason 27 = .ok (.ifCond .ne 5, 3) := by decide +kernel
theorem dX7_reason_30 : decode cX7_reason 30 = .ok (.iconst 2, 1) := by decide +kernel
theorem dX7_reason_31 : decode cX7_reason 31 = .ok (.ireturn, 1) := by decide +kernel
theorem dX7_reason_32 : decode cX7_reason 32 = .ok (.aload_n 0, 1) := by decide +kernel
theorem dX7_reason_33 : decode cX7_reason 33 = .ok (.iload_n 1, 1) := by decide +kernel
theorem dX7_reason_34 : decode cX7_reason 34 = .ok (.iconst 3, 1) := by decide +kernel
theorem dX7_reason_35 : decode cX7_reason 35 = .ok (.invokevirtual 68, 3) := by decide +kernel
theorem dX7_reason_38 : decode cX7_reason 38 = .ok (.ifCond .le 5, 3) := by decide +kernel
theorem dX7_reason_41 : decode cX7_reason 41 = .ok (.iconst 3, 1) := by decide +kernel
theorem dX7_reason_42 : decode cX7_reason 42 = .ok (.ireturn, 1) := by decide +kernel
theorem dX7_reason_43 : decode cX7_reason 43 = .ok (.aload_n 0, 1) := by decide +kernel
theorem dX7_reason_44 : decode cX7_reason 44 = .ok (.iload_n 1, 1) := by decide +kernel
theorem dX7_reason_45 : decode cX7_reason 45 = .ok (.aload_n 0, 1) := by decide +kernel
theorem dX7_reason_46 : decode cX7_reason 46 = .ok (.aload_n 0, 1) := by decide +kernel
theorem dX7_reason_47 : decode cX7_reason 47 = .ok (.getfield 7, 3) := by decide +kernel
theorem dX7_reason_50 : decode cX7_reason 50 = .ok (.iconst 1, 1) := by decide +kernel
theorem dX7_reason_51 : decode cX7_reason 51 = .ok (.iaload, 1) := by decide +kernel
theorem dX7_reason_52 : decode cX7_reason 52 = .ok (.iconst 0, 1) := by decide +kernel
theorem dX7_reason_53 : decode cX7_reason 53 = .ok (.invokevirtual 68, 3) := by decide +kernel
theorem dX7_reason_56 : decode cX7_reason 56 = .ok (.invokevirtual 98, 3) := by decide +kernel
theorem dX7_reason_59 : decode cX7_reason 59 = .ok (.ifCond .ne 7, 3) := by decide +kernel
theorem dX7_reason_62 : decode cX7_reason 62 = .ok (.iconst 4, 1) := by decide +kernel
theorem dX7_reason_63 : decode cX7_reason 63 = .ok (.goto 16, 3) := by decide +kernel
theorem dX7_reason_66 : decode cX7_reason 66 = .ok (.aload_n 0, 1) := by decide +kernel
theorem dX7_reason_67 : decode cX7_reason 67 = .ok (.invokevirtual 106, 3) := by decide +kernel
theorem dX7_reason_70 : decode cX7_reason 70 = .ok (.iload_n 1, 1) := by decide +kernel
theorem dX7_reason_71 : decode cX7_reason 71 = .ok (.if_icmp .ne 7, 3) := by decide +kernel
theorem dX7_reason_74 : decode cX7_reason 74 = .ok (.iconst 0, 1) := by decide +kernel
theorem dX7_reason_75 : decode cX7_reason 75 = .ok (.goto 4, 3) := by decide +kernel
theorem dX7_reason_78 : decode cX7_reason 78 = .ok (.iconst 5, 1) := by decide +kernel
theorem dX7_reason_79 : decode cX7_reason 79 = .ok (.ireturn, 1) := by decide +kernel
theorem dX7_way_0 : decode cX7_way 0 = .ok (.iconst 0, 1) := by decide +kernel
theorem dX7_way_1 : decode cX7_way 1 = .ok (.istore_n 2, 1) := by decide +kernel
theorem dX7_way_2 : decode cX7_way 2 = .ok (.iload_n 2, 1) := by decide +kernel
theorem dX7_way_3 : decode cX7_way 3 = .ok (.bipush 100, 2) := by decide +kernel
theorem dX7_way_5 : decode cX7_way 5 = .ok (.if_icmp .ge 17, 3) := by decide +kernel
theorem dX7_way_8 : decode cX7_way 8 = .ok (.aload_n 0, 1) := by decide +kernel
theorem dX7_way_9 : decode cX7_way 9 = .ok (.getfield 44, 3) := by decide +kernel
theorem dX7_way_12 : decode cX7_way 12 = .ok (.iload_n 2, 1) := by decide +kernel
theorem dX7_way_13 : decode cX7_way 13 = .ok (.bipush (-5), 2) := by decide +kernel
theorem dX7_way_15 : decode cX7_way 15 = .ok (.iastore, 1) := by decide +kernel
theorem dX7_way_16 : decode cX7_way 16 = .ok (.iinc 2 1, 3) := by decide +kernel
theorem dX7_way_19 : decode cX7_way 19 = .ok (.goto (-17), 3) := by decide +kernel
theorem dX7_way_22 : decode cX7_way 22 = .ok (.aload_n 0, 1) := by decide +kernel
theorem dX7_way_23 : decode cX7_way 23 = .ok (.getfield 44, 3) := by decide +kernel
theorem dX7_way_26 : decode cX7_way 26 = .ok (.aload_n 0, 1) := by decide +kernel
theorem dX7_way_27 : decode cX7_way 27 = .ok (.aload_n 0, 1) := by decide +kernel
theorem dX7_way_28 : decode cX7_way 28 = .ok (.getfield 7, 3) := by decide +kernel
theorem dX7_way_31 : decode cX7_way 31 = .ok (.iconst 1, 1) := by decide +kernel
theorem dX7_way_32 : decode cX7_way 32 = .ok (.iaload, 1) := by decide +kernel
theorem dX7_way_33 : decode cX7_way 33 = .ok (.iconst 0, 1) := by decide +kernel
theorem dX7_way_34 : decode cX7_way 34 = .ok (.invokevirtual 68, 3) := by decide +kernel
theorem dX7_way_37 : decode cX7_way 37 = .ok (.iconst 0, 1) := by decide +kernel
theorem dX7_way_38 : decode cX7_way 38 = .ok (.iastore, 1) := by decide +kernel
theorem dX7_way_39 : decode cX7_way 39 = .ok (.iconst 1, 1) := by decide +kernel
theorem dX7_way_40 : decode cX7_way 40 = .ok (.istore_n 2, 1) := by decide +kernel
theorem dX7_way_41 : decode cX7_way 41 = .ok (.iconst 0, 1) := by decide +kernel
theorem dX7_way_42 : decode cX7_way 42 = .ok (.istore_n 3, 1) := by decide +kernel
theorem dX7_way_43 : decode cX7_way 43 = .ok (.iload_n 2, 1) := by decide +kernel
theorem dX7_way_44 : decode cX7_way 44 = .ok (.ifCond .eq 125, 3) := by decide +kernel
theorem dX7_way_47 : decode cX7_way 47 = .ok (.iconst 0, 1) := by decide +kernel
theorem dX7_way_48 : decode cX7_way 48 = .ok (.istore_n 2, 1) := by decide +kernel
theorem dX7_way_49 : decode cX7_way 49 = .ok (.iconst 0, 1) := by decide +kernel
theorem dX7_way_50 : decode cX7_way 50 = .ok (.istore 4, 2) := by decide +kernel
theorem dX7_way_52 : decode cX7_way 52 = .ok (.iload 4, 2) := by decide +kernel
theorem dX7_way_54 : decode cX7_way 54 = .ok (.bipush 100, 2) := by decide +kernel
theorem dX7_way_56 : decode cX7_way 56 = .ok (.if_icmp .ge 107, 3) := by decide +kernel
theorem dX7_way_59 : decode cX7_way 59 = .ok (.iconst 0, 1) := by decide +kernel
theorem dX7_way_60 : decode cX7_way 60 = .ok (.istore 5, 2) := by decide +kernel
theorem dX7_way_62 : decode cX7_way 62 = .ok (.iload 5, 2) := by decide +kernel
theorem dX7_way_64 : decode cX7_way 64 = .ok (.iconst 4, 1) := by decide +kernel
theorem dX7_way_65 : decode cX7_way 65 = .ok (.if_icmp .ge 92, 3) := by decide +kernel
theorem dX7_way_68 : decode cX7_way 68 = .ok (.aload_n 0, 1) := by decide +kernel
theorem dX7_way_69 : decode cX7_way 69 = .ok (.getfield 44, 3) := by decide +kernel
theorem dX7_way_72 : decode cX7_way 72 = .ok (.iload 4, 2) := by decide +kernel
theorem dX7_way_74 : decode cX7_way 74 = .ok (.iaload, 1) := by decide +kernel
theorem dX7_way_75 : decode cX7_way 75 = .ok (.iload_n 3, 1) := by decide +kernel
theorem dX7_way_76 : decode cX7_way 76 = .ok (.if_icmp .ne 81, 3) := by decide +kernel
theorem dX7_way_79 : decode cX7_way 79 = .ok (.iload 4, 2) := by decide +kernel
theorem dX7_way_81 : decode cX7_way 81 = .ok (.iload 5, 2) := by decide +kernel
theorem dX7_way_83 : decode cX7_way 83 = .ok (.invokestatic 81, 3) := by decide +kernel
theorem dX7_way_86 : decode cX7_way 86 = .ok (.istore 6, 2) := by decide +kernel
theorem dX7_way_88 : decode cX7_way 88 = .ok (.iload 6, 2) := by decide +kernel
theorem dX7_way_90 : decode cX7_way 90 = .ok (.bipush (-5), 2) := by decide +kernel
theorem dX7_way_92 : decode cX7_way 92 = .ok (.if_icmp .eq 39, 3) := by decide +kernel
theorem dX7_way_95 : decode cX7_way 95 = .ok (.aload_n 0, 1) := by decide +kernel
theorem dX7_way_96 : decode cX7_way 96 = .ok (.getfield 44, 3) := by decide +kernel
theorem dX7_way_99 : decode cX7_way 99 = .ok (.iload 6, 2) := by decide +kernel
theorem dX7_way_101 : decode cX7_way 101 = .ok (.ifCond .ge 7, 3) := by decide +kernel
theorem dX7_way_104 : decode cX7_way 104 = .ok (.iconst 0, 1) := by decide +kernel
theorem dX7_way_105 : decode cX7_way 105 = .ok (.goto 5, 3) := by decide +kernel
theorem dX7_way_108 : decode cX7_way 108 = .ok (.iload 6, 2) := by decide +kernel
theorem dX7_way_110 : decode cX7_way 110 = .ok (.iaload, 1) := by decide +kernel
theorem dX7_way_111 : decode cX7_way 111 = .ok (.bipush (-5), 2) := by decide +kernel
theorem dX7_way_113 : decode cX7_way 113 = .ok (.if_icmp .ne 18, 3) := by decide +kernel
theorem dX7_way_116 : decode cX7_way 116 = .ok (.aload_n 0, 1) := by decide +kernel
theorem dX7_way_117 : decode cX7_way 117 = .ok (.iload 6, 2) := by decide +kernel
theorem dX7_way_119 : decode cX7_way 119 = .ok (.invokevirtual 84, 3) := by decide +kernel
theorem dX7_way_122 : decode cX7_way 122 = .ok (.bipush (-5), 2) := by decide +kernel
theorem dX7_way_124 : decode cX7_way 124 = .ok (.if_icmp .ne 7, 3) := by decide +kernel
theorem dX7_way_127 : decode cX7_way 127 = .ok (.iconst 1, 1) := by decide +kernel
theorem dX7_way_128 : decode cX7_way 128 = .ok (.goto 4, 3) := by decide +kernel
theorem dX7_way_131 : decode cX7_way 131 = .ok (.iconst 0, 1) := by decide +kernel
theorem dX7_way_132 : decode cX7_way 132 = .ok (.istore 7, 2) := by decide +kernel
theorem dX7_way_134 : decode cX7_way 134 = .ok (.iload 7, 2) := by decide +kernel
theorem dX7_way_136 : decode cX7_way 136 = .ok (.ifCond .eq 15, 3) := by decide +kernel
theorem dX7_way_139 : decode cX7_way 139 = .ok (.aload_n 0, 1) := by decide +kernel
theorem dX7_way_140 : decode cX7_way 140 = .ok (.getfield 44, 3) := by decide +kernel
theorem dX7_way_143 : decode cX7_way 143 = .ok (.iload 6, 2) := by decide +kernel
theorem dX7_way_145 : decode cX7_way 145 = .ok (.iload_n 3, 1) := by decide +kernel
theorem dX7_way_146 : decode cX7_way 146 = .ok (.iconst 1, 1) := by decide +kernel
theorem dX7_way_147 : decode cX7_way 147 = .ok (.iadd, 1) := by decide +kernel
theorem dX7_way_148 : decode cX7_way 148 = .ok (.iastore, 1) := by decide +kernel
theorem dX7_way_149 : decode cX7_way 149 = .ok (.iconst 1, 1) := by decide +kernel
theorem dX7_way_150 : decode cX7_way 150 = .ok (.istore_n 2, 1) := by decide +kernel
theorem dX7_way_151 : decode cX7_way 151 = .ok (.iinc 5 1, 3) := by decide +kernel
theorem dX7_way_154 : decode cX7_way 154 = .ok (.goto (-92), 3) := by decide +kernel
theorem dX7_way_157 : decode cX7_way 157 = .ok (.iinc 4 1, 3) := by decide +kernel
theorem dX7_way_160 : decode cX7_way 160 = .ok (.goto (-108), 3) := by decide +kernel
theorem dX7_way_163 : decode cX7_way 163 = .ok (.iinc 3 1, 3) := by decide +kernel
theorem dX7_way_166 : decode cX7_way 166 = .ok (.goto (-123), 3) := by decide +kernel
theorem dX7_way_169 : decode cX7_way 169 = .ok (.bipush (-5), 2) := by decide +kernel
theorem dX7_way_171 : decode cX7_way 171 = .ok (.istore_n 3, 1) := by decide +kernel
theorem dX7_way_172 : decode cX7_way 172 = .ok (.iconst 0, 1) := by decide +kernel
theorem dX7_way_173 : decode cX7_way 173 = .ok (.istore 4, 2) := by decide +kernel
theorem dX7_way_175 : decode cX7_way 175 = .ok (.iload 4, 2) := by decide +kernel
theorem dX7_way_177 : decode cX7_way 177 = .ok (.bipush 100, 2) := by decide +kernel
theorem dX7_way_179 : decode cX7_way 179 = .ok (.if_icmp .ge 72, 3) := by decide +kernel
theorem dX7_way_182 : decode cX7_way 182 = .ok (.aload_n 0, 1) := by decide +kernel
theorem dX7_way_183 : decode cX7_way 183 = .ok (.getfield 44, 3) := by decide +kernel
theorem dX7_way_186 : decode cX7_way 186 = .ok (.iload 4, 2) := by decide +kernel
theorem dX7_way_188 : decode cX7_way 188 = .ok (.iaload, 1) := by decide +kernel
theorem dX7_way_189 : decode cX7_way 189 = .ok (.bipush (-5), 2) := by decide +kernel
theorem dX7_way_191 : decode cX7_way 191 = .ok (.if_icmp .eq 17, 3) := by decide +kernel
theorem dX7_way_194 : decode cX7_way 194 = .ok (.aload_n 0, 1) := by decide +kernel
theorem dX7_way_195 : decode cX7_way 195 = .ok (.iload_n 1, 1) := by decide +kernel
theorem dX7_way_196 : decode cX7_way 196 = .ok (.iload 4, 2) := by decide +kernel
theorem dX7_way_198 : decode cX7_way 198 = .ok (.invokevirtual 98, 3) := by decide +kernel
theorem dX7_way_201 : decode cX7_way 201 = .ok (.ifCond .eq 7, 3) := by decide +kernel
theorem dX7_way_204 : decode cX7_way 204 = .ok (.iconst 1, 1) := by decide +kernel
theorem dX7_way_205 : decode cX7_way 205 = .ok (.goto 4, 3) := by decide +kernel
theorem dX7_way_208 : decode cX7_way 208 = .ok (.iconst 0, 1) := by decide +kernel
theorem dX7_way_209 : decode cX7_way 209 = .ok (.istore 5, 2) := by decide +kernel
theorem dX7_way_211 : decode cX7_way 211 = .ok (.iload 5, 2) := by decide +kernel
theorem dX7_way_213 : decode cX7_way 213 = .ok (.ifCond .eq 30, 3) := by decide +kernel
theorem dX7_way_216 : decode cX7_way 216 = .ok (.iload_n 3, 1) := by decide +kernel
theorem dX7_way_217 : decode cX7_way 217 = .ok (.bipush (-5), 2) := by decide +kernel
theorem dX7_way_219 : decode cX7_way 219 = .ok (.if_icmp .eq 14, 3) := by decide +kernel
theorem dX7_way_222 : decode cX7_way 222 = .ok (.aload_n 0, 1) := by decide +kernel
theorem dX7_way_223 : decode cX7_way 223 = .ok (.getfield 44, 3) := by decide +kernel
theorem dX7_way_226 : decode cX7_way 226 = .ok (.iload 4, 2) := by decide +kernel
theorem dX7_way_228 : decode cX7_way 228 = .ok (.iaload, 1) := by decide +kernel
theorem dX7_way_229 : decode cX7_way 229 = .ok (.iload_n 3, 1) := by decide +kernel
theorem dX7_way_230 : decode cX7_way 230 = .ok (.if_icmp .ge 13, 3) := by decide +kernel
theorem dX7_way_233 : decode cX7_way 233 = .ok (.aload_n 0, 1) := by decide +kernel
theorem dX7_way_234 : decode cX7_way 234 = .ok (.getfield 44, 3) := by decide +kernel
theorem dX7_way_237 : decode cX7_way 237 = .ok (.iload 4, 2) := by decide +kernel
theorem dX7_way_239 : decode cX7_way 239 = .ok (.iaload, 1) := by decide +kernel
theorem dX7_way_240 : decode cX7_way 240 = .ok (.goto 4, 3) := by decide +kernel
theorem dX7_way_243 : decode cX7_way 243 = .ok (.iload_n 3, 1) := by decide +kernel
theorem dX7_way_244 : decode cX7_way 244 = .ok (.istore_n 3, 1) := by decide +kernel
theorem dX7_way_245 : decode cX7_way 245 = .ok (.iinc 4 1, 3) := by decide +kernel
theorem dX7_way_248 : decode cX7_way 248 = .ok (.goto (-73), 3) := by decide +kernel
theorem dX7_way_251 : decode cX7_way 251 = .ok (.iload_n 3, 1) := by decide +kernel
theorem dX7_way_252 : decode cX7_way 252 = .ok (.ireturn, 1) := by decide +kernel
theorem dX7_isSought_0 : decode cX7_isSought 0 = .ok (.iload_n 1, 1) := by decide +kernel
theorem dX7_isSought_1 : decode cX7_isSought 1 = .ok (.aload_n 0, 1) := by decide +kernel
theorem dX7_isSought_2 : decode cX7_isSought 2 = .ok (.getfield 7, 3) := by decide +kernel
theorem dX7_isSought_5 : decode cX7_isSought 5 = .ok (.iconst 1, 1) := by decide +kernel
theorem dX7_isSought_6 : decode cX7_isSought 6 = .ok (.iaload, 1) := by decide +kernel
theorem dX7_isSought_7 : decode cX7_isSought 7 = .ok (.if_icmp .eq 24, 3) := by decide +kernel
theorem dX7_isSought_10 : decode cX7_isSought 10 = .ok (.aload_n 0, 1) := by decide +kernel
theorem dX7_isSought_11 : decode cX7_isSought 11 = .ok (.iload_n 1, 1) := by decide +kernel
theorem dX7_isSought_12 : decode cX7_isSought 12 = .ok (.iconst 3, 1) := by decide +kernel
theorem dX7_isSought_13 : decode cX7_isSought 13 = .ok (.invokevirtual 68, 3) := by decide +kernel
theorem dX7_isSought_16 : decode cX7_isSought 16 = .ok (.ifCond .ne 15, 3) := by decide +kernel
theorem dX7_isSought_19 : decode cX7_isSought 19 = .ok (.aload_n 0, 1) := by decide +kernel
theorem dX7_isSought_20 : decode cX7_isSought 20 = .ok (.iload_n 1, 1) := by decide +kernel
theorem dX7_isSought_21 : decode cX7_isSought 21 = .ok (.invokevirtual 204, 3) := by decide +kernel
theorem dX7_isSought_24 : decode cX7_isSought 24 = .ok (.ifCond .eq 7, 3) := by decide +kernel
theorem dX7_isSought_27 : decode cX7_isSought 27 = .ok (.iconst 1, 1) := by decide +kernel
theorem dX7_isSought_28 : decode cX7_isSought 28 = .ok (.goto 4, 3) := by decide +kernel
theorem dX7_isSought_31 : decode cX7_isSought 31 = .ok (.iconst 0, 1) := by decide +kernel
theorem dX7_isSought_32 : decode cX7_isSought 32 = .ok (.ireturn, 1) := by decide +kernel
theorem dX7_stepsTo_0 : decode cX7_stepsTo 0 = .ok (.aload_n 0, 1) := by decide +kernel
theorem dX7_stepsTo_1 : decode cX7_stepsTo 1 = .ok (.iload_n 1, 1) := by decide +kernel
theorem dX7_stepsTo_2 : decode cX7_stepsTo 2 = .ok (.invokevirtual 120, 3) := by decide +kernel
theorem dX7_stepsTo_5 : decode cX7_stepsTo 5 = .ok (.ifCond .ne 5, 3) := by decide +kernel
theorem dX7_stepsTo_8 : decode cX7_stepsTo 8 = .ok (.iconst (-1), 1) := by decide +kernel
theorem dX7_stepsTo_9 : decode cX7_stepsTo 9 = .ok (.ireturn, 1) := by decide +kernel
theorem dX7_stepsTo_10 : decode cX7_stepsTo 10 = .ok (.aload_n 0, 1) := by decide +kernel
theorem dX7_stepsTo_11 : decode cX7_stepsTo 11 = .ok (.iload_n 1, 1) := by decide +kernel
theorem dX7_stepsTo_12 : decode cX7_stepsTo 12 = .ok (.invokevirtual 207, 3) := by decide +kernel
theorem dX7_stepsTo_15 : decode cX7_stepsTo 15 = .ok (.ifCond .eq 11, 3) := by decide +kernel
theorem dX7_stepsTo_18 : decode cX7_stepsTo 18 = .ok (.aload_n 0, 1) := by decide +kernel
theorem dX7_stepsTo_19 : decode cX7_stepsTo 19 = .ok (.iload_n 1, 1) := by decide +kernel
theorem dX7_stepsTo_20 : decode cX7_stepsTo 20 = .ok (.invokevirtual 210, 3) := by decide +kernel
theorem dX7_stepsTo_23 : decode cX7_stepsTo 23 = .ok (.goto 5, 3) := by decide +kernel
theorem dX7_stepsTo_26 : decode cX7_stepsTo 26 = .ok (.bipush (-4), 2) := by decide +kernel
theorem dX7_stepsTo_28 : decode cX7_stepsTo 28 = .ok (.ireturn, 1) := by decide +kernel
theorem dX7_safest_0 : decode cX7_safest 0 = .ok (.bipush (-5), 2) := by decide +kernel
theorem dX7_safest_2 : decode cX7_safest 2 = .ok (.istore_n 1, 1) := by decide +kernel
theorem dX7_safest_3 : decode cX7_safest 3 = .ok (.iconst 0, 1) := by decide +kernel
theorem dX7_safest_4 : decode cX7_safest 4 = .ok (.istore_n 2, 1) := by decide +kernel
theorem dX7_safest_5 : decode cX7_safest 5 = .ok (.iconst 0, 1) := by decide +kernel
theorem dX7_safest_6 : decode cX7_safest 6 = .ok (.istore_n 3, 1) := by decide +kernel
theorem dX7_safest_7 : decode cX7_safest 7 = .ok (.iload_n 3, 1) := by decide +kernel
theorem dX7_safest_8 : decode cX7_safest 8 = .ok (.aload_n 0, 1) := by decide +kernel
theorem dX7_safest_9 : decode cX7_safest 9 = .ok (.getfield 7, 3) := by decide +kernel
theorem dX7_safest_12 : decode cX7_safest 12 = .ok (.bipush 20, 2) := by decide +kernel
theorem dX7_safest_14 : decode cX7_safest 14 = .ok (.iaload, 1) := by decide +kernel
theorem dX7_safest_15 : decode cX7_safest 15 = .ok (.if_icmp .ge 98, 3) := by decide +kernel
theorem dX7_safest_18 : decode cX7_safest 18 = .ok (.aload_n 0, 1) := by decide +kernel
theorem dX7_safest_19 : decode cX7_safest 19 = .ok (.iload_n 3, 1) := by decide +kernel
theorem dX7_safest_20 : decode cX7_safest 20 = .ok (.invokevirtual 207, 3) := by decide +kernel
theorem dX7_safest_23 : decode cX7_safest 23 = .ok (.ifCond .eq 11, 3) := by decide +kernel
theorem dX7_safest_26 : decode cX7_safest 26 = .ok (.aload_n 0, 1) := by decide +kernel
theorem dX7_safest_27 : decode cX7_safest 27 = .ok (.iload_n 3, 1) := by decide +kernel
theorem dX7_safest_28 : decode cX7_safest 28 = .ok (.invokevirtual 210, 3) := by decide +kernel
theorem dX7_safest_31 : decode cX7_safest 31 = .ok (.goto 5, 3) := by decide +kernel
theorem dX7_safest_34 : decode cX7_safest 34 = .ok (.bipush (-5), 2) := by decide +kernel
theorem dX7_safest_36 : decode cX7_safest 36 = .ok (.istore 4, 2) := by decide +kernel
theorem dX7_safest_38 : decode cX7_safest 38 = .ok (.iload 4, 2) := by decide +kernel
theorem dX7_safest_40 : decode cX7_safest 40 = .ok (.bipush (-5), 2) := by decide +kernel
theorem dX7_safest_42 : decode cX7_safest 42 = .ok (.if_icmp .ne 9, 3) := by decide +kernel
theorem dX7_safest_45 : decode cX7_safest 45 = .ok (.sipush 1000, 3) := by decide +kernel
theorem dX7_safest_48 : decode cX7_safest 48 = .ok (.goto 5, 3) := by decide +kernel
theorem dX7_safest_51 : decode cX7_safest 51 = .ok (.iload 4, 2) := by decide +kernel
theorem dX7_safest_53 : decode cX7_safest 53 = .ok (.istore 5, 2) := by decide +kernel
theorem dX7_safest_55 : decode cX7_safest 55 = .ok (.iload_n 3, 1) := by decide +kernel
theorem dX7_safest_56 : decode cX7_safest 56 = .ok (.aload_n 0, 1) := by decide +kernel
theorem dX7_safest_57 : decode cX7_safest 57 = .ok (.getfield 7, 3) := by decide +kernel
theorem dX7_safest_60 : decode cX7_safest 60 = .ok (.iconst 1, 1) := by decide +kernel
theorem dX7_safest_61 : decode cX7_safest 61 = .ok (.iaload, 1) := by decide +kernel
theorem dX7_safest_62 : decode cX7_safest 62 = .ok (.if_icmp .eq 19, 3) := by decide +kernel
theorem dX7_safest_65 : decode cX7_safest 65 = .ok (.iload_n 1, 1) := by decide +kernel
theorem dX7_safest_66 : decode cX7_safest 66 = .ok (.bipush (-5), 2) := by decide +kernel
theorem dX7_safest_68 : decode cX7_safest 68 = .ok (.if_icmp .eq 9, 3) := by decide +kernel
theorem dX7_safest_71 : decode cX7_safest 71 = .ok (.iload 5, 2) := by decide +kernel
theorem dX7_safest_73 : decode cX7_safest 73 = .ok (.iload_n 2, 1) := by decide +kernel
theorem dX7_safest_74 : decode cX7_safest 74 = .ok (.if_icmp .le 7, 3) := by decide +kernel
theorem dX7_safest_77 : decode cX7_safest 77 = .ok (.iconst 1, 1) := by decide +kernel
theorem dX7_safest_78 : decode cX7_safest 78 = .ok (.goto 4, 3) := by decide +kernel
theorem dX7_safest_81 : decode cX7_safest 81 = .ok (.iconst 0, 1) := by decide +kernel
theorem dX7_safest_82 : decode cX7_safest 82 = .ok (.istore 6, 2) := by decide +kernel
theorem dX7_safest_84 : decode cX7_safest 84 = .ok (.iload 6, 2) := by decide +kernel
theorem dX7_safest_86 : decode cX7_safest 86 = .ok (.ifCond .eq 7, 3) := by decide +kernel
theorem dX7_safest_89 : decode cX7_safest 89 = .ok (.iload_n 3, 1) := by decide +kernel
theorem dX7_safest_90 : decode cX7_safest 90 = .ok (.goto 4, 3) := by decide +kernel
theorem dX7_safest_93 : decode cX7_safest 93 = .ok (.iload_n 1, 1) := by decide +kernel
theorem dX7_safest_94 : decode cX7_safest 94 = .ok (.istore_n 1, 1) := by decide +kernel
theorem dX7_safest_95 : decode cX7_safest 95 = .ok (.iload 6, 2) := by decide +kernel
theorem dX7_safest_97 : decode cX7_safest 97 = .ok (.ifCond .eq 8, 3) := by decide +kernel
theorem dX7_safest_100 : decode cX7_safest 100 = .ok (.iload 5, 2) := by decide +kernel
theorem dX7_safest_102 : decode cX7_safest 102 = .ok (.goto 4, 3) := by decide +kernel
theorem dX7_safest_105 : decode cX7_safest 105 = .ok (.iload_n 2, 1) := by decide +kernel
theorem dX7_safest_106 : decode cX7_safest 106 = .ok (.istore_n 2, 1) := by decide +kernel
theorem dX7_safest_107 : decode cX7_safest 107 = .ok (.iinc 3 1, 3) := by decide +kernel
theorem dX7_safest_110 : decode cX7_safest 110 = .ok (.goto (-103), 3) := by decide +kernel
theorem dX7_safest_113 : decode cX7_safest 113 = .ok (.iload_n 1, 1) := by decide +kernel
theorem dX7_safest_114 : decode cX7_safest 114 = .ok (.ireturn, 1) := by decide +kernel
theorem dX7_ifTurns_0 : decode cX7_ifTurns 0 = .ok (.iload_n 1, 1) := by decide +kernel
theorem dX7_ifTurns_1 : decode cX7_ifTurns 1 = .ok (.iconst 1, 1) := by decide +kernel
theorem dX7_ifTurns_2 : decode cX7_ifTurns 2 = .ok (.bipush 99, 2) := by decide +kernel
theorem dX7_ifTurns_4 : decode cX7_ifTurns 4 = .ok (.invokestatic 51, 3) := by decide +kernel
theorem dX7_ifTurns_7 : decode cX7_ifTurns 7 = .ok (.ifCond .eq 12, 3) := by decide +kernel
theorem dX7_ifTurns_10 : decode cX7_ifTurns 10 = .ok (.iload_n 2, 1) := by decide +kernel
theorem dX7_ifTurns_11 : decode cX7_ifTurns 11 = .ok (.iconst 0, 1) := by decide +kernel
theorem dX7_ifTurns_12 : decode cX7_ifTurns 12 = .ok (.iconst 2, 1) := by decide +kernel
theorem dX7_ifTurns_13 : decode cX7_ifTurns 13 = .ok (.invokestatic 51, 3) := by decide +kernel
theorem dX7_ifTurns_16 : decode cX7_ifTurns 16 = .ok (.ifCond .ne 6, 3) := by decide +kernel
theorem dX7_ifTurns_19 : decode cX7_ifTurns 19 = .ok (.bipush (-2), 2) := by decide +kernel
theorem dX7_ifTurns_21 : decode cX7_ifTurns 21 = .ok (.ireturn, 1) := by decide +kernel
theorem dX7_ifTurns_22 : decode cX7_ifTurns 22 = .ok (.aload_n 0, 1) := by decide +kernel
theorem dX7_ifTurns_23 : decode cX7_ifTurns 23 = .ok (.invokevirtual 65, 3) := by decide +kernel
theorem dX7_ifTurns_26 : decode cX7_ifTurns 26 = .ok (.bipush (-5), 2) := by decide +kernel
theorem dX7_ifTurns_28 : decode cX7_ifTurns 28 = .ok (.istore_n 3, 1) := by decide +kernel
theorem dX7_ifTurns_29 : decode cX7_ifTurns 29 = .ok (.iconst 1, 1) := by decide +kernel
theorem dX7_ifTurns_30 : decode cX7_ifTurns 30 = .ok (.istore 4, 2) := by decide +kernel
theorem dX7_ifTurns_32 : decode cX7_ifTurns 32 = .ok (.iload 4, 2) := by decide +kernel
theorem dX7_ifTurns_34 : decode cX7_ifTurns 34 = .ok (.iload_n 1, 1) := by decide +kernel
theorem dX7_ifTurns_35 : decode cX7_ifTurns 35 = .ok (.if_icmp .gt 41, 3) := by decide +kernel
theorem dX7_ifTurns_38 : decode cX7_ifTurns 38 = .ok (.aload_n 0, 1) := by decide +kernel
theorem dX7_ifTurns_39 : decode cX7_ifTurns 39 = .ok (.invokevirtual 130, 3) := by decide +kernel
theorem dX7_ifTurns_42 : decode cX7_ifTurns 42 = .ok (.iload_n 3, 1) := by decide +kernel
theorem dX7_ifTurns_43 : decode cX7_ifTurns 43 = .ok (.bipush (-5), 2) := by decide +kernel
theorem dX7_ifTurns_45 : decode cX7_ifTurns 45 = .ok (.if_icmp .ne 23, 3) := by decide +kernel
theorem dX7_ifTurns_48 : decode cX7_ifTurns 48 = .ok (.aload_n 0, 1) := by decide +kernel
theorem dX7_ifTurns_49 : decode cX7_ifTurns 49 = .ok (.getfield 7, 3) := by decide +kernel
theorem dX7_ifTurns_52 : decode cX7_ifTurns 52 = .ok (.iconst 2, 1) := by decide +kernel
theorem dX7_ifTurns_53 : decode cX7_ifTurns 53 = .ok (.iaload, 1) := by decide +kernel
theorem dX7_ifTurns_54 : decode cX7_ifTurns 54 = .ok (.aload_n 0, 1) := by decide +kernel
theorem dX7_ifTurns_55 : decode cX7_ifTurns 55 = .ok (.getfield 19, 3) := by decide +kernel
theorem dX7_ifTurns_58 : decode cX7_ifTurns 58 = .ok (.iconst 2, 1) := by decide +kernel
theorem dX7_ifTurns_59 : decode cX7_ifTurns 59 = .ok (.iaload, 1) := by decide +kernel
theorem dX7_ifTurns_60 : decode cX7_ifTurns 60 = .ok (.if_icmp .le 8, 3) := by decide +kernel
theorem dX7_ifTurns_63 : decode cX7_ifTurns 63 = .ok (.iload 4, 2) := by decide +kernel
theorem dX7_ifTurns_65 : decode cX7_ifTurns 65 = .ok (.goto 4, 3) := by decide +kernel
theorem dX7_ifTurns_68 : decode cX7_ifTurns 68 = .ok (.iload_n 3, 1) := by decide +kernel
theorem dX7_ifTurns_69 : decode cX7_ifTurns 69 = .ok (.istore_n 3, 1) := by decide +kernel
theorem dX7_ifTurns_70 : decode cX7_ifTurns 70 = .ok (.iinc 4 1, 3) := by decide +kernel
theorem dX7_ifTurns_73 : decode cX7_ifTurns 73 = .ok (.goto (-41), 3) := by decide +kernel
theorem dX7_ifTurns_76 : decode cX7_ifTurns 76 = .ok (.iload_n 2, 1) := by decide +kernel
theorem dX7_ifTurns_77 : decode cX7_ifTurns 77 = .ok (.ifCond .ne 19, 3) := by decide +kernel
theorem dX7_ifTurns_80 : decode cX7_ifTurns 80 = .ok (.aload_n 0, 1) := by decide +kernel
theorem dX7_ifTurns_81 : decode cX7_ifTurns 81 = .ok (.getfield 7, 3) := by decide +kernel
theorem dX7_ifTurns_84 : decode cX7_ifTurns 84 = .ok (.iconst 2, 1) := by decide +kernel
theorem dX7_ifTurns_85 : decode cX7_ifTurns 85 = .ok (.iaload, 1) := by decide +kernel
theorem dX7_ifTurns_86 : decode cX7_ifTurns 86 = .ok (.aload_n 0, 1) := by decide +kernel
theorem dX7_ifTurns_87 : decode cX7_ifTurns 87 = .ok (.getfield 19, 3) := by decide +kernel
theorem dX7_ifTurns_90 : decode cX7_ifTurns 90 = .ok (.iconst 2, 1) := by decide +kernel
theorem dX7_ifTurns_91 : decode cX7_ifTurns 91 = .ok (.iaload, 1) := by decide +kernel
theorem dX7_ifTurns_92 : decode cX7_ifTurns 92 = .ok (.isub, 1) := by decide +kernel
theorem dX7_ifTurns_93 : decode cX7_ifTurns 93 = .ok (.goto 18, 3) := by decide +kernel
theorem dX7_ifTurns_96 : decode cX7_ifTurns 96 = .ok (.iload_n 2, 1) := by decide +kernel
theorem dX7_ifTurns_97 : decode cX7_ifTurns 97 = .ok (.iconst 1, 1) := by decide +kernel
theorem dX7_ifTurns_98 : decode cX7_ifTurns 98 = .ok (.if_icmp .ne 12, 3) := by decide +kernel
theorem dX7_ifTurns_101 : decode cX7_ifTurns 101 = .ok (.aload_n 0, 1) := by decide +kernel
theorem dX7_ifTurns_102 : decode cX7_ifTurns 102 = .ok (.getfield 7, 3) := by decide +kernel
theorem dX7_ifTurns_105 : decode cX7_ifTurns 105 = .ok (.iconst 1, 1) := by decide +kernel
theorem dX7_ifTurns_106 : decode cX7_ifTurns 106 = .ok (.iaload, 1) := by decide +kernel
theorem dX7_ifTurns_107 : decode cX7_ifTurns 107 = .ok (.goto 4, 3) := by decide +kernel
theorem dX7_ifTurns_110 : decode cX7_ifTurns 110 = .ok (.iload_n 3, 1) := by decide +kernel
theorem dX7_ifTurns_111 : decode cX7_ifTurns 111 = .ok (.istore 4, 2) := by decide +kernel
theorem dX7_ifTurns_113 : decode cX7_ifTurns 113 = .ok (.aload_n 0, 1) := by decide +kernel
theorem dX7_ifTurns_114 : decode cX7_ifTurns 114 = .ok (.invokevirtual 195, 3) := by decide +kernel
theorem dX7_ifTurns_117 : decode cX7_ifTurns 117 = .ok (.iload 4, 2) := by decide +kernel
theorem dX7_ifTurns_119 : decode cX7_ifTurns 119 = .ok (.ireturn, 1) := by decide +kernel
theorem dX7_withoutShadow_0 : decode cX7_withoutShadow 0 = .ok (.iconst 0, 1) := by decide +kernel
theorem dX7_withoutShadow_1 : decode cX7_withoutShadow 1 = .ok (.istore_n 1, 1) := by decide +kernel
theorem dX7_withoutShadow_2 : decode cX7_withoutShadow 2 = .ok (.iconst 0, 1) := by decide +kernel
theorem dX7_withoutShadow_3 : decode cX7_withoutShadow 3 = .ok (.istore_n 2, 1) := by decide +kernel
theorem dX7_withoutShadow_4 : decode cX7_withoutShadow 4 = .ok (.iload_n 2, 1) := by decide +kernel
theorem dX7_withoutShadow_5 : decode cX7_withoutShadow 5 = .ok (.aload_n 0, 1) := by decide +kernel
theorem dX7_withoutShadow_6 : decode cX7_withoutShadow 6 = .ok (.getfield 7, 3) := by decide +kernel
theorem dX7_withoutShadow_9 : decode cX7_withoutShadow 9 = .ok (.bipush 20, 2) := by decide +kernel
theorem dX7_withoutShadow_11 : decode cX7_withoutShadow 11 = .ok (.iaload, 1) := by decide +kernel
theorem dX7_withoutShadow_12 : decode cX7_withoutShadow 12 = .ok (.if_icmp .ge 25, 3) := by decide +kernel
theorem dX7_withoutShadow_15 : decode cX7_withoutShadow 15 = .ok (.iload_n 1, 1) := by decide +kernel
theorem dX7_withoutShadow_16 : decode cX7_withoutShadow 16 = .ok (.aload_n 0, 1) := by decide +kernel
theorem dX7_withoutShadow_17 : decode cX7_withoutShadow 17 = .ok (.iload_n 2, 1) := by decide +kernel
theorem dX7_withoutShadow_18 : decode cX7_withoutShadow 18 = .ok (.invokevirtual 204, 3) := by decide +kernel
theorem dX7_withoutShadow_21 : decode cX7_withoutShadow 21 = .ok (.ifCond .eq 7, 3) := by decide +kernel
theorem dX7_withoutShadow_24 : decode cX7_withoutShadow 24 = .ok (.iconst 0, 1) := by decide +kernel
theorem dX7_withoutShadow_25 : decode cX7_withoutShadow 25 = .ok (.goto 4, 3) := by decide +kernel
theorem dX7_withoutShadow_28 : decode cX7_withoutShadow 28 = .ok (.iconst 1, 1) := by decide +kernel
theorem dX7_withoutShadow_29 : decode cX7_withoutShadow 29 = .ok (.iadd, 1) := by decide +kernel
theorem dX7_withoutShadow_30 : decode cX7_withoutShadow 30 = .ok (.istore_n 1, 1) := by decide +kernel
theorem dX7_withoutShadow_31 : decode cX7_withoutShadow 31 = .ok (.iinc 2 1, 3) := by decide +kernel
theorem dX7_withoutShadow_34 : decode cX7_withoutShadow 34 = .ok (.goto (-30), 3) := by decide +kernel
theorem dX7_withoutShadow_37 : decode cX7_withoutShadow 37 = .ok (.iload_n 1, 1) := by decide +kernel
theorem dX7_withoutShadow_38 : decode cX7_withoutShadow 38 = .ok (.ireturn, 1) := by decide +kernel
theorem dX7_count_0 : decode cX7_count 0 = .ok (.iload_n 1, 1) := by decide +kernel
theorem dX7_count_1 : decode cX7_count 1 = .ok (.tableswitch 163 0 13 #[71, 78, 86, 93, 98, 107, 112, 119, 126, 133, 140, 140, 153, 158], 71) := by decide +kernel
theorem dX7_count_72 : decode cX7_count 72 = .ok (.aload_n 0, 1) := by decide +kernel
theorem dX7_count_73 : decode cX7_count 73 = .ok (.getfield 7, 3) := by decide +kernel
theorem dX7_count_76 : decode cX7_count 76 = .ok (.iconst 0, 1) := by decide +kernel
theorem dX7_count_77 : decode cX7_count 77 = .ok (.iaload, 1) := by decide +kernel
theorem dX7_count_78 : decode cX7_count 78 = .ok (.ireturn, 1) := by decide +kernel
theorem dX7_count_79 : decode cX7_count 79 = .ok (.aload_n 0, 1) := by decide +kernel
theorem dX7_count_80 : decode cX7_count 80 = .ok (.getfield 7, 3) := by decide +kernel
theorem dX7_count_83 : decode cX7_count 83 = .ok (.bipush 20, 2) := by decide +kernel
theorem dX7_count_85 : decode cX7_count 85 = .ok (.iaload, 1) := by decide +kernel
theorem dX7_count_86 : decode cX7_count 86 = .ok (.ireturn, 1) := by decide +kernel
theorem dX7_count_87 : decode cX7_count 87 = .ok (.aload_n 0, 1) := by decide +kernel
theorem dX7_count_88 : decode cX7_count 88 = .ok (.getfield 7, 3) := by decide +kernel
theorem dX7_count_91 : decode cX7_count 91 = .ok (.iconst 1, 1) := by decide +kernel
theorem dX7_count_92 : decode cX7_count 92 = .ok (.iaload, 1) := by decide +kernel
theorem dX7_count_93 : decode cX7_count 93 = .ok (.ireturn, 1) := by decide +kernel
theorem dX7_count_94 : decode cX7_count 94 = .ok (.aload_n 0, 1) := by decide +kernel
theorem dX7_count_95 : decode cX7_count 95 = .ok (.invokevirtual 126, 3) := by decide +kernel
theorem dX7_count_98 : decode cX7_count 98 = .ok (.ireturn, 1) := by decide +kernel
theorem dX7_count_99 : decode cX7_count 99 = .ok (.aload_n 0, 1) := by decide +kernel
theorem dX7_count_100 : decode cX7_count 100 = .ok (.bipush (-5), 2) := by decide +kernel
theorem dX7_count_102 : decode cX7_count 102 = .ok (.bipush (-5), 2) := by decide +kernel
theorem dX7_count_104 : decode cX7_count 104 = .ok (.invokevirtual 201, 3) := by decide +kernel
theorem dX7_count_107 : decode cX7_count 107 = .ok (.ireturn, 1) := by decide +kernel
theorem dX7_count_108 : decode cX7_count 108 = .ok (.aload_n 0, 1) := by decide +kernel
theorem dX7_count_109 : decode cX7_count 109 = .ok (.invokevirtual 213, 3) := by decide +kernel
theorem dX7_count_112 : decode cX7_count 112 = .ok (.ireturn, 1) := by decide +kernel
theorem dX7_count_113 : decode cX7_count 113 = .ok (.aload_n 0, 1) := by decide +kernel
theorem dX7_count_114 : decode cX7_count 114 = .ok (.getfield 7, 3) := by decide +kernel
theorem dX7_count_117 : decode cX7_count 117 = .ok (.iconst 2, 1) := by decide +kernel
theorem dX7_count_118 : decode cX7_count 118 = .ok (.iaload, 1) := by decide +kernel
theorem dX7_count_119 : decode cX7_count 119 = .ok (.ireturn, 1) := by decide +kernel
theorem dX7_count_120 : decode cX7_count 120 = .ok (.aload_n 0, 1) := by decide +kernel
theorem dX7_count_121 : decode cX7_count 121 = .ok (.getfield 7, 3) := by decide +kernel
theorem dX7_count_124 : decode cX7_count 124 = .ok (.iconst 3, 1) := by decide +kernel
theorem dX7_count_125 : decode cX7_count 125 = .ok (.iaload, 1) := by decide +kernel
theorem dX7_count_126 : decode cX7_count 126 = .ok (.ireturn, 1) := by decide +kernel
theorem dX7_count_127 : decode cX7_count 127 = .ok (.aload_n 0, 1) := by decide +kernel
theorem dX7_count_128 : decode cX7_count 128 = .ok (.getfield 7, 3) := by decide +kernel
theorem dX7_count_131 : decode cX7_count 131 = .ok (.iconst 4, 1) := by decide +kernel
theorem dX7_count_132 : decode cX7_count 132 = .ok (.iaload, 1) := by decide +kernel
theorem dX7_count_133 : decode cX7_count 133 = .ok (.ireturn, 1) := by decide +kernel
theorem dX7_count_134 : decode cX7_count 134 = .ok (.aload_n 0, 1) := by decide +kernel
theorem dX7_count_135 : decode cX7_count 135 = .ok (.getfield 7, 3) := by decide +kernel
theorem dX7_count_138 : decode cX7_count 138 = .ok (.iconst 5, 1) := by decide +kernel
theorem dX7_count_139 : decode cX7_count 139 = .ok (.iaload, 1) := by decide +kernel
theorem dX7_count_140 : decode cX7_count 140 = .ok (.ireturn, 1) := by decide +kernel
theorem dX7_count_141 : decode cX7_count 141 = .ok (.aload_n 0, 1) := by decide +kernel
theorem dX7_count_142 : decode cX7_count 142 = .ok (.getfield 7, 3) := by decide +kernel
theorem dX7_count_145 : decode cX7_count 145 = .ok (.bipush 6, 2) := by decide +kernel
theorem dX7_count_147 : decode cX7_count 147 = .ok (.iload_n 1, 1) := by decide +kernel
theorem dX7_count_148 : decode cX7_count 148 = .ok (.iadd, 1) := by decide +kernel
theorem dX7_count_149 : decode cX7_count 149 = .ok (.bipush 10, 2) := by decide +kernel
theorem dX7_count_151 : decode cX7_count 151 = .ok (.isub, 1) := by decide +kernel
theorem dX7_count_152 : decode cX7_count 152 = .ok (.iaload, 1) := by decide +kernel
theorem dX7_count_153 : decode cX7_count 153 = .ok (.ireturn, 1) := by decide +kernel
theorem dX7_count_154 : decode cX7_count 154 = .ok (.aload_n 0, 1) := by decide +kernel
theorem dX7_count_155 : decode cX7_count 155 = .ok (.getfield 55, 3) := by decide +kernel
theorem dX7_count_158 : decode cX7_count 158 = .ok (.ireturn, 1) := by decide +kernel
theorem dX7_count_159 : decode cX7_count 159 = .ok (.aload_n 0, 1) := by decide +kernel
theorem dX7_count_160 : decode cX7_count 160 = .ok (.getfield 155, 3) := by decide +kernel
theorem dX7_count_163 : decode cX7_count 163 = .ok (.ireturn, 1) := by decide +kernel
theorem dX7_count_164 : decode cX7_count 164 = .ok (.bipush (-2), 2) := by decide +kernel
theorem dX7_count_166 : decode cX7_count 166 = .ok (.ireturn, 1) := by decide +kernel
theorem dJ9_min_7cf53_0 : decode cJ9_min_7cf53 0 = .ok (.iload_n 0, 1) := by decide +kernel
theorem dJ9_min_7cf53_1 : decode cJ9_min_7cf53 1 = .ok (.iload_n 1, 1) := by decide +kernel
theorem dJ9_min_7cf53_2 : decode cJ9_min_7cf53 2 = .ok (.if_icmp .gt 7, 3) := by decide +kernel
theorem dJ9_min_7cf53_5 : decode cJ9_min_7cf53 5 = .ok (.iload_n 0, 1) := by decide +kernel
theorem dJ9_min_7cf53_6 : decode cJ9_min_7cf53 6 = .ok (.goto 4, 3) := by decide +kernel
theorem dJ9_min_7cf53_9 : decode cJ9_min_7cf53 9 = .ok (.iload_n 1, 1) := by decide +kernel
theorem dJ9_min_7cf53_10 : decode cJ9_min_7cf53 10 = .ok (.ireturn, 1) := by decide +kernel
theorem dL_law_0 : decode cL_law 0 = .ok (.new 7, 3) := by decide +kernel
theorem dL_law_3 : decode cL_law 3 = .ok (.dup, 1) := by decide +kernel
theorem dL_law_4 : decode cL_law 4 = .ok (.invokespecial 9, 3) := by decide +kernel
theorem dL_law_7 : decode cL_law 7 = .ok (.astore_n 1, 1) := by decide +kernel
theorem dL_law_8 : decode cL_law 8 = .ok (.new 10, 3) := by decide +kernel
theorem dL_law_11 : decode cL_law 11 = .ok (.dup, 1) := by decide +kernel
theorem dL_law_12 : decode cL_law 12 = .ok (.invokespecial 12, 3) := by decide +kernel
theorem dL_law_15 : decode cL_law 15 = .ok (.astore_n 2, 1) := by decide +kernel
theorem dL_law_16 : decode cL_law 16 = .ok (.iconst 0, 1) := by decide +kernel
theorem dL_law_17 : decode cL_law 17 = .ok (.istore_n 3, 1) := by decide +kernel
theorem dL_law_18 : decode cL_law 18 = .ok (.iload_n 3, 1) := by decide +kernel
theorem dL_law_19 : decode cL_law 19 = .ok (.aload_n 0, 1) := by decide +kernel
theorem dL_law_20 : decode cL_law 20 = .ok (.arraylength, 1) := by decide +kernel
theorem dL_law_21 : decode cL_law 21 = .ok (.iconst 4, 1) := by decide +kernel
theorem dL_law_22 : decode cL_law 22 = .ok (.isub, 1) := by decide +kernel
theorem dL_law_23 : decode cL_law 23 = .ok (.if_icmp .gt 747, 3) := by decide +kernel
theorem dL_law_26 : decode cL_law 26 = .ok (.aload_n 0, 1) := by decide +kernel
theorem dL_law_27 : decode cL_law 27 = .ok (.iload_n 3, 1) := by decide +kernel
theorem dL_law_28 : decode cL_law 28 = .ok (.iaload, 1) := by decide +kernel
theorem dL_law_29 : decode cL_law 29 = .ok (.bipush 31, 2) := by decide +kernel
theorem dL_law_31 : decode cL_law 31 = .ok (.iand, 1) := by decide +kernel
theorem dL_law_32 : decode cL_law 32 = .ok (.tableswitch 732 0 23 #[112, 145, 178, 227, 270, 303, 326, 351, 364, 377, 400, 413, 426, 439, 472, 505, 548, 571, 594, 617, 640, 663, 676, 709], 112) := by decide +kernel
theorem dL_law_144 : decode cL_law 144 = .ok (.aload_n 1, 1) := by decide +kernel
theorem dL_law_145 : decode cL_law 145 = .ok (.aload_n 0, 1) := by decide +kernel
theorem dL_law_146 : decode cL_law 146 = .ok (.iload_n 3, 1) := by decide +kernel
theorem dL_law_147 : decode cL_law 147 = .ok (.iconst 1, 1) := by decide +kernel
theorem dL_law_148 : decode cL_law 148 = .ok (.iadd, 1) := by decide +kernel
theorem dL_law_149 : decode cL_law 149 = .ok (.iaload, 1) := by decide +kernel
theorem dL_law_150 : decode cL_law 150 = .ok (.aload_n 0, 1) := by decide +kernel
theorem dL_law_151 : decode cL_law 151 = .ok (.iload_n 3, 1) := by decide +kernel
theorem dL_law_152 : decode cL_law 152 = .ok (.iconst 2, 1) := by decide +kernel
theorem dL_law_153 : decode cL_law 153 = .ok (.iadd, 1) := by decide +kernel
theorem dL_law_154 : decode cL_law 154 = .ok (.iaload, 1) := by decide +kernel
theorem dL_law_155 : decode cL_law 155 = .ok (.invokevirtual 13, 3) := by decide +kernel
theorem dL_law_158 : decode cL_law 158 = .ok (.aload_n 2, 1) := by decide +kernel
theorem dL_law_159 : decode cL_law 159 = .ok (.aload_n 0, 1) := by decide +kernel
theorem dL_law_160 : decode cL_law 160 = .ok (.iload_n 3, 1) := by decide +kernel
theorem dL_law_161 : decode cL_law 161 = .ok (.iconst 1, 1) := by decide +kernel
theorem dL_law_162 : decode cL_law 162 = .ok (.iadd, 1) := by decide +kernel
theorem dL_law_163 : decode cL_law 163 = .ok (.iaload, 1) := by decide +kernel
theorem dL_law_164 : decode cL_law 164 = .ok (.aload_n 0, 1) := by decide +kernel
theorem dL_law_165 : decode cL_law 165 = .ok (.iload_n 3, 1) := by decide +kernel
theorem dL_law_166 : decode cL_law 166 = .ok (.iconst 2, 1) := by decide +kernel
theorem dL_law_167 : decode cL_law 167 = .ok (.iadd, 1) := by decide +kernel
theorem dL_law_168 : decode cL_law 168 = .ok (.iaload, 1) := by decide +kernel
theorem dL_law_169 : decode cL_law 169 = .ok (.invokevirtual 17, 3) := by decide +kernel
theorem dL_law_172 : decode cL_law 172 = .ok (.if_icmp .eq 592, 3) := by decide +kernel
theorem dL_law_175 : decode cL_law 175 = .ok (.iconst 0, 1) := by decide +kernel
theorem dL_law_176 : decode cL_law 176 = .ok (.ireturn, 1) := by decide +kernel
theorem dL_law_177 : decode cL_law 177 = .ok (.aload_n 1, 1) := by decide +kernel
theorem dL_law_178 : decode cL_law 178 = .ok (.aload_n 0, 1) := by decide +kernel
theorem dL_law_179 : decode cL_law 179 = .ok (.iload_n 3, 1) := by decide +kernel
theorem dL_law_180 : decode cL_law 180 = .ok (.iconst 1, 1) := by decide +kernel
theorem dL_law_181 : decode cL_law 181 = .ok (.iadd, 1) := by decide +kernel
theorem dL_law_182 : decode cL_law 182 = .ok (.iaload, 1) := by decide +kernel
theorem dL_law_183 : decode cL_law 183 = .ok (.aload_n 0, 1) := by decide +kernel
theorem dL_law_184 : decode cL_law 184 = .ok (.iload_n 3, 1) := by decide +kernel
theorem dL_law_185 : decode cL_law 185 = .ok (.iconst 2, 1) := by decide +kernel
theorem dL_law_186 : decode cL_law 186 = .ok (.iadd, 1) := by decide +kernel
theorem dL_law_187 : decode cL_law 187 = .ok (.iaload, 1) := by decide +kernel
theorem dL_law_188 : decode cL_law 188 = .ok (.invokevirtual 18, 3) := by decide +kernel
theorem dL_law_191 : decode cL_law 191 = .ok (.aload_n 2, 1) := by decide +kernel
theorem dL_law_192 : decode cL_law 192 = .ok (.aload_n 0, 1) := by decide +kernel
theorem dL_law_193 : decode cL_law 193 = .ok (.iload_n 3, 1) := by decide +kernel
theorem dL_law_194 : decode cL_law 194 = .ok (.iconst 1, 1) := by decide +kernel
theorem dL_law_195 : decode cL_law 195 = .ok (.iadd, 1) := by decide +kernel
theorem dL_law_196 : decode cL_law 196 = .ok (.iaload, 1) := by decide +kernel
theorem dL_law_197 : decode cL_law 197 = .ok (.aload_n 0, 1) := by decide +kernel
theorem dL_law_198 : decode cL_law 198 = .ok (.iload_n 3, 1) := by decide +kernel
theorem dL_law_199 : decode cL_law 199 = .ok (.iconst 2, 1) := by decide +kernel
theorem dL_law_200 : decode cL_law 200 = .ok (.iadd, 1) := by decide +kernel
theorem dL_law_201 : decode cL_law 201 = .ok (.iaload, 1) := by decide +kernel
theorem dL_law_202 : decode cL_law 202 = .ok (.invokevirtual 21, 3) := by decide +kernel
theorem dL_law_205 : decode cL_law 205 = .ok (.if_icmp .eq 559, 3) := by decide +kernel
theorem dL_law_208 : decode cL_law 208 = .ok (.iconst 0, 1) := by decide +kernel
theorem dL_law_209 : decode cL_law 209 = .ok (.ireturn, 1) := by decide +kernel
theorem dL_law_210 : decode cL_law 210 = .ok (.aload_n 1, 1) := by decide +kernel
theorem dL_law_211 : decode cL_law 211 = .ok (.aload_n 0, 1) := by decide +kernel
theorem dL_law_212 : decode cL_law 212 = .ok (.iload_n 3, 1) := by decide +kernel
theorem dL_law_213 : decode cL_law 213 = .ok (.iconst 1, 1) := by decide +kernel
theorem dL_law_214 : decode cL_law 214 = .ok (.iadd, 1) := by decide +kernel
theorem dL_law_215 : decode cL_law 215 = .ok (.iaload, 1) := by decide +kernel
theorem dL_law_216 : decode cL_law 216 = .ok (.aload_n 0, 1) := by decide +kernel
theorem dL_law_217 : decode cL_law 217 = .ok (.iload_n 3, 1) := by decide +kernel
theorem dL_law_218 : decode cL_law 218 = .ok (.iconst 2, 1) := by decide +kernel
theorem dL_law_219 : decode cL_law 219 = .ok (.iadd, 1) := by decide +kernel
theorem dL_law_220 : decode cL_law 220 = .ok (.iaload, 1) := by decide +kernel
theorem dL_law_221 : decode cL_law 221 = .ok (.ifCond .eq 7, 3) := by decide +kernel
theorem dL_law_224 : decode cL_law 224 = .ok (.iconst 1, 1) := by decide +kernel
theorem dL_law_225 : decode cL_law 225 = .ok (.goto 4, 3) := by decide +kernel
theorem dL_law_228 : decode cL_law 228 = .ok (.iconst 0, 1) := by decide +kernel
theorem dL_law_229 : decode cL_law 229 = .ok (.invokevirtual 22, 3) := by decide +kernel
theorem dL_law_232 : decode cL_law 232 = .ok (.aload_n 2, 1) := by decide +kernel
theorem dL_law_233 : decode cL_law 233 = .ok (.aload_n 0, 1) := by decide +kernel
theorem dL_law_234 : decode cL_law 234 = .ok (.iload_n 3, 1) := by decide +kernel
theorem dL_law_235 : decode cL_law 235 = .ok (.iconst 1, 1) := by decide +kernel
theorem dL_law_236 : decode cL_law 236 = .ok (.iadd, 1) := by decide +kernel
theorem dL_law_237 : decode cL_law 237 = .ok (.iaload, 1) := by decide +kernel
theorem dL_law_238 : decode cL_law 238 = .ok (.aload_n 0, 1) := by decide +kernel
theorem dL_law_239 : decode cL_law 239 = .ok (.iload_n 3, 1) := by decide +kernel
theorem dL_law_240 : decode cL_law 240 = .ok (.iconst 2, 1) := by decide +kernel
theorem dL_law_241 : decode cL_law 241 = .ok (.iadd, 1) := by decide +kernel
theorem dL_law_242 : decode cL_law 242 = .ok (.iaload, 1) := by decide +kernel
theorem dL_law_243 : decode cL_law 243 = .ok (.ifCond .eq 7, 3) := by decide +kernel
theorem dL_law_246 : decode cL_law 246 = .ok (.iconst 1, 1) := by decide +kernel
theorem dL_law_247 : decode cL_law 247 = .ok (.goto 4, 3) := by decide +kernel
theorem dL_law_250 : decode cL_law 250 = .ok (.iconst 0, 1) := by decide +kernel
theorem dL_law_251 : decode cL_law 251 = .ok (.invokevirtual 26, 3) := by decide +kernel
theorem dL_law_254 : decode cL_law 254 = .ok (.if_icmp .eq 510, 3) := by decide +kernel
theorem dL_law_257 : decode cL_law 257 = .ok (.iconst 0, 1) := by decide +kernel
theorem dL_law_258 : decode cL_law 258 = .ok (.ireturn, 1) := by decide +kernel
theorem dL_law_259 : decode cL_law 259 = .ok (.aload_n 1, 1) := by decide +kernel
theorem dL_law_260 : decode cL_law 260 = .ok (.aload_n 0, 1) := by decide +kernel
theorem dL_law_261 : decode cL_law 261 = .ok (.iload_n 3, 1) := by decide +kernel
theorem dL_law_262 : decode cL_law 262 = .ok (.iconst 1, 1) := by decide +kernel
theorem dL_law_263 : decode cL_law 263 = .ok (.iadd, 1) := by decide +kernel
theorem dL_law_264 : decode cL_law 264 = .ok (.iaload, 1) := by decide +kernel
theorem dL_law_265 : decode cL_law 265 = .ok (.aload_n 0, 1) := by decide +kernel
theorem dL_law_266 : decode cL_law 266 = .ok (.iload_n 3, 1) := by decide +kernel
theorem dL_law_267 : decode cL_law 267 = .ok (.iconst 2, 1) := by decide +kernel
theorem dL_law_268 : decode cL_law 268 = .ok (.iadd, 1) := by decide +kernel
theorem dL_law_269 : decode cL_law 269 = .ok (.iaload, 1) := by decide +kernel
theorem dL_law_270 : decode cL_law 270 = .ok (.aload_n 0, 1) := by decide +kernel
theorem dL_law_271 : decode cL_law 271 = .ok (.iload_n 3, 1) := by decide +kernel
theorem dL_law_272 : decode cL_law 272 = .ok (.iconst 3, 1) := by decide +kernel
theorem dL_law_273 : decode cL_law 273 = .ok (.iadd, 1) := by decide +kernel
theorem dL_law_274 : decode cL_law 274 = .ok (.iaload, 1) := by decide +kernel
theorem dL_law_275 : decode cL_law 275 = .ok (.invokevirtual 27, 3) := by decide +kernel
theorem dL_law_278 : decode cL_law 278 = .ok (.aload_n 2, 1) := by decide +kernel
theorem dL_law_279 : decode cL_law 279 = .ok (.aload_n 0, 1) := by decide +kernel
theorem dL_law_280 : decode cL_law 280 = .ok (.iload_n 3, 1) := by decide +kernel
theorem dL_law_281 : decode cL_law 281 = .ok (.iconst 1, 1) := by decide +kernel
theorem dL_law_282 : decode cL_law 282 = .ok (.iadd, 1) := by decide +kernel
theorem dL_law_283 : decode cL_law 283 = .ok (.iaload, 1) := by decide +kernel
theorem dL_law_284 : decode cL_law 284 = .ok (.aload_n 0, 1) := by decide +kernel
theorem dL_law_285 : decode cL_law 285 = .ok (.iload_n 3, 1) := by decide +kernel
theorem dL_law_286 : decode cL_law 286 = .ok (.iconst 2, 1) := by decide +kernel
theorem dL_law_287 : decode cL_law 287 = .ok (.iadd, 1) := by decide +kernel
theorem dL_law_288 : decode cL_law 288 = .ok (.iaload, 1) := by decide +kernel
theorem dL_law_289 : decode cL_law 289 = .ok (.aload_n 0, 1) := by decide +kernel
theorem dL_law_290 : decode cL_law 290 = .ok (.iload_n 3, 1) := by decide +kernel
theorem dL_law_291 : decode cL_law 291 = .ok (.iconst 3, 1) := by decide +kernel
theorem dL_law_292 : decode cL_law 292 = .ok (.iadd, 1) := by decide +kernel
theorem dL_law_293 : decode cL_law 293 = .ok (.iaload, 1) := by decide +kernel
theorem dL_law_294 : decode cL_law 294 = .ok (.invokevirtual 31, 3) := by decide +kernel
theorem dL_law_297 : decode cL_law 297 = .ok (.if_icmp .eq 467, 3) := by decide +kernel
theorem dL_law_300 : decode cL_law 300 = .ok (.iconst 0, 1) := by decide +kernel
theorem dL_law_301 : decode cL_law 301 = .ok (.ireturn, 1) := by decide +kernel
theorem dL_law_302 : decode cL_law 302 = .ok (.aload_n 1, 1) := by decide +kernel
theorem dL_law_303 : decode cL_law 303 = .ok (.aload_n 0, 1) := by decide +kernel
theorem dL_law_304 : decode cL_law 304 = .ok (.iload_n 3, 1) := by decide +kernel
theorem dL_law_305 : decode cL_law 305 = .ok (.iconst 1, 1) := by decide +kernel
theorem dL_law_306 : decode cL_law 306 = .ok (.iadd, 1) := by decide +kernel
theorem dL_law_307 : decode cL_law 307 = .ok (.iaload, 1) := by decide +kernel
theorem dL_law_308 : decode cL_law 308 = .ok (.aload_n 0, 1) := by decide +kernel
theorem dL_law_309 : decode cL_law 309 = .ok (.iload_n 3, 1) := by decide +kernel
theorem dL_law_310 : decode cL_law 310 = .ok (.iconst 2, 1) := by decide +kernel
theorem dL_law_311 : decode cL_law 311 = .ok (.iadd, 1) := by decide +kernel
theorem dL_law_312 : decode cL_law 312 = .ok (.iaload, 1) := by decide +kernel
theorem dL_law_313 : decode cL_law 313 = .ok (.invokevirtual 32, 3) := by decide +kernel
theorem dL_law_316 : decode cL_law 316 = .ok (.aload_n 2, 1) := by decide +kernel
theorem dL_law_317 : decode cL_law 317 = .ok (.aload_n 0, 1) := by decide +kernel
theorem dL_law_318 : decode cL_law 318 = .ok (.iload_n 3, 1) := by decide +kernel
theorem dL_law_319 : decode cL_law 319 = .ok (.iconst 1, 1) := by decide +kernel
theorem dL_law_320 : decode cL_law 320 = .ok (.iadd, 1) := by decide +kernel
theorem dL_law_321 : decode cL_law 321 = .ok (.iaload, 1) := by decide +kernel
theorem dL_law_322 : decode cL_law 322 = .ok (.aload_n 0, 1) := by decide +kernel
theorem dL_law_323 : decode cL_law 323 = .ok (.iload_n 3, 1) := by decide +kernel
theorem dL_law_324 : decode cL_law 324 = .ok (.iconst 2, 1) := by decide +kernel
theorem dL_law_325 : decode cL_law 325 = .ok (.iadd, 1) := by decide +kernel
theorem dL_law_326 : decode cL_law 326 = .ok (.iaload, 1) := by decide +kernel
theorem dL_law_327 : decode cL_law 327 = .ok (.invokevirtual 35, 3) := by decide +kernel
theorem dL_law_330 : decode cL_law 330 = .ok (.if_icmp .eq 434, 3) := by decide +kernel
theorem dL_law_333 : decode cL_law 333 = .ok (.iconst 0, 1) := by decide +kernel
theorem dL_law_334 : decode cL_law 334 = .ok (.ireturn, 1) := by decide +kernel
theorem dL_law_335 : decode cL_law 335 = .ok (.aload_n 1, 1) := by decide +kernel
theorem dL_law_336 : decode cL_law 336 = .ok (.aload_n 0, 1) := by decide +kernel
theorem dL_law_337 : decode cL_law 337 = .ok (.iload_n 3, 1) := by decide +kernel
theorem dL_law_338 : decode cL_law 338 = .ok (.iconst 1, 1) := by decide +kernel
theorem dL_law_339 : decode cL_law 339 = .ok (.iadd, 1) := by decide +kernel
theorem dL_law_340 : decode cL_law 340 = .ok (.iaload, 1) := by decide +kernel
theorem dL_law_341 : decode cL_law 341 = .ok (.invokevirtual 36, 3) := by decide +kernel
theorem dL_law_344 : decode cL_law 344 = .ok (.aload_n 2, 1) := by decide +kernel
theorem dL_law_345 : decode cL_law 345 = .ok (.aload_n 0, 1) := by decide +kernel
theorem dL_law_346 : decode cL_law 346 = .ok (.iload_n 3, 1) := by decide +kernel
theorem dL_law_347 : decode cL_law 347 = .ok (.iconst 1, 1) := by decide +kernel
theorem dL_law_348 : decode cL_law 348 = .ok (.iadd, 1) := by decide +kernel
theorem dL_law_349 : decode cL_law 349 = .ok (.iaload, 1) := by decide +kernel
theorem dL_law_350 : decode cL_law 350 = .ok (.invokevirtual 40, 3) := by decide +kernel
theorem dL_law_353 : decode cL_law 353 = .ok (.if_icmp .eq 411, 3) := by decide +kernel
theorem dL_law_356 : decode cL_law 356 = .ok (.iconst 0, 1) := by decide +kernel
theorem dL_law_357 : decode cL_law 357 = .ok (.ireturn, 1) := by decide +kernel
theorem dL_law_358 : decode cL_law 358 = .ok (.aload_n 1, 1) := by decide +kernel
theorem dL_law_359 : decode cL_law 359 = .ok (.aload_n 0, 1) := by decide +kernel
theorem dL_law_360 : decode cL_law 360 = .ok (.iload_n 3, 1) := by decide +kernel
theorem dL_law_361 : decode cL_law 361 = .ok (.iconst 1, 1) := by decide +kernel
theorem dL_law_362 : decode cL_law 362 = .ok (.iadd, 1) := by decide +kernel
theorem dL_law_363 : decode cL_law 363 = .ok (.iaload, 1) := by decide +kernel
theorem dL_law_364 : decode cL_law 364 = .ok (.i2c, 1) := by decide +kernel
theorem dL_law_365 : decode cL_law 365 = .ok (.invokevirtual 41, 3) := by decide +kernel
theorem dL_law_368 : decode cL_law 368 = .ok (.aload_n 2, 1) := by decide +kernel
theorem dL_law_369 : decode cL_law 369 = .ok (.aload_n 0, 1) := by decide +kernel
theorem dL_law_370 : decode cL_law 370 = .ok (.iload_n 3, 1) := by decide +kernel
theorem dL_law_371 : decode cL_law 371 = .ok (.iconst 1, 1) := by decide +kernel
theorem dL_law_372 : decode cL_law 372 = .ok (.iadd, 1) := by decide +kernel
theorem dL_law_373 : decode cL_law 373 = .ok (.iaload, 1) := by decide +kernel
theorem dL_law_374 : decode cL_law 374 = .ok (.i2c, 1) := by decide +kernel
theorem dL_law_375 : decode cL_law 375 = .ok (.invokevirtual 45, 3) := by decide +kernel
theorem dL_law_378 : decode cL_law 378 = .ok (.if_icmp .eq 386, 3) := by decide +kernel
theorem dL_law_381 : decode cL_law 381 = .ok (.iconst 0, 1) := by decide +kernel
theorem dL_law_382 : decode cL_law 382 = .ok (.ireturn, 1) := by decide +kernel
theorem dL_law_383 : decode cL_law 383 = .ok (.aload_n 1, 1) := by decide +kernel
theorem dL_law_384 : decode cL_law 384 = .ok (.invokevirtual 46, 3) := by decide +kernel
theorem dL_law_387 : decode cL_law 387 = .ok (.aload_n 2, 1) := by decide +kernel
theorem dL_law_388 : decode cL_law 388 = .ok (.invokevirtual 50, 3) := by decide +kernel
theorem dL_law_391 : decode cL_law 391 = .ok (.if_icmp .eq 373, 3) := by decide +kernel
theorem dL_law_394 : decode cL_law 394 = .ok (.iconst 0, 1) := by decide +kernel
theorem dL_law_395 : decode cL_law 395 = .ok (.ireturn, 1) := by decide +kernel
theorem dL_law_396 : decode cL_law 396 = .ok (.aload_n 1, 1) := by decide +kernel
theorem dL_law_397 : decode cL_law 397 = .ok (.invokevirtual 51, 3) := by decide +kernel
theorem dL_law_400 : decode cL_law 400 = .ok (.aload_n 2, 1) := by decide +kernel
theorem dL_law_401 : decode cL_law 401 = .ok (.invokevirtual 54, 3) := by decide +kernel
theorem dL_law_404 : decode cL_law 404 = .ok (.if_icmp .eq 360, 3) := by decide +kernel
theorem dL_law_407 : decode cL_law 407 = .ok (.iconst 0, 1) := by decide +kernel
theorem dL_law_408 : decode cL_law 408 = .ok (.ireturn, 1) := by decide +kernel
theorem dL_law_409 : decode cL_law 409 = .ok (.aload_n 1, 1) := by decide +kernel
theorem dL_law_410 : decode cL_law 410 = .ok (.aload_n 0, 1) := by decide +kernel
theorem dL_law_411 : decode cL_law 411 = .ok (.iload_n 3, 1) := by decide +kernel
theorem dL_law_412 : decode cL_law 412 = .ok (.iconst 1, 1) := by decide +kernel
theorem dL_law_413 : decode cL_law 413 = .ok (.iadd, 1) := by decide +kernel
theorem dL_law_414 : decode cL_law 414 = .ok (.iaload, 1) := by decide +kernel
theorem dL_law_415 : decode cL_law 415 = .ok (.invokevirtual 55, 3) := by decide +kernel
theorem dL_law_418 : decode cL_law 418 = .ok (.aload_n 2, 1) := by decide +kernel
theorem dL_law_419 : decode cL_law 419 = .ok (.aload_n 0, 1) := by decide +kernel
theorem dL_law_420 : decode cL_law 420 = .ok (.iload_n 3, 1) := by decide +kernel
theorem dL_law_421 : decode cL_law 421 = .ok (.iconst 1, 1) := by decide +kernel
theorem dL_law_422 : decode cL_law 422 = .ok (.iadd, 1) := by decide +kernel
theorem dL_law_423 : decode cL_law 423 = .ok (.iaload, 1) := by decide +kernel
theorem dL_law_424 : decode cL_law 424 = .ok (.invokevirtual 58, 3) := by decide +kernel
theorem dL_law_427 : decode cL_law 427 = .ok (.if_icmp .eq 337, 3) := by decide +kernel
theorem dL_law_430 : decode cL_law 430 = .ok (.iconst 0, 1) := by decide +kernel
theorem dL_law_431 : decode cL_law 431 = .ok (.ireturn, 1) := by decide +kernel
theorem dL_law_432 : decode cL_law 432 = .ok (.aload_n 1, 1) := by decide +kernel
theorem dL_law_433 : decode cL_law 433 = .ok (.invokevirtual 59, 3) := by decide +kernel
theorem dL_law_436 : decode cL_law 436 = .ok (.aload_n 2, 1) := by decide +kernel
theorem dL_law_437 : decode cL_law 437 = .ok (.invokevirtual 62, 3) := by decide +kernel
theorem dL_law_440 : decode cL_law 440 = .ok (.if_icmp .eq 324, 3) := by decide +kernel
theorem dL_law_443 : decode cL_law 443 = .ok (.iconst 0, 1) := by decide +kernel
theorem dL_law_444 : decode cL_law 444 = .ok (.ireturn, 1) := by decide +kernel
theorem dL_law_445 : decode cL_law 445 = .ok (.aload_n 1, 1) := by decide +kernel
theorem dL_law_446 : decode cL_law 446 = .ok (.invokevirtual 63, 3) := by decide +kernel
theorem dL_law_449 : decode cL_law 449 = .ok (.aload_n 2, 1) := by decide +kernel
theorem dL_law_450 : decode cL_law 450 = .ok (.invokevirtual 66, 3) := by decide +kernel
theorem dL_law_453 : decode cL_law 453 = .ok (.if_icmp .eq 311, 3) := by decide +kernel
theorem dL_law_456 : decode cL_law 456 = .ok (.iconst 0, 1) := by decide +kernel
theorem dL_law_457 : decode cL_law 457 = .ok (.ireturn, 1) := by decide +kernel
theorem dL_law_458 : decode cL_law 458 = .ok (.aload_n 1, 1) := by decide +kernel
theorem dL_law_459 : decode cL_law 459 = .ok (.invokevirtual 67, 3) := by decide +kernel
theorem dL_law_462 : decode cL_law 462 = .ok (.aload_n 2, 1) := by decide +kernel
theorem dL_law_463 : decode cL_law 463 = .ok (.invokevirtual 70, 3) := by decide +kernel
theorem dL_law_466 : decode cL_law 466 = .ok (.if_icmp .eq 298, 3) := by decide +kernel
theorem dL_law_469 : decode cL_law 469 = .ok (.iconst 0, 1) := by decide +kernel
theorem dL_law_470 : decode cL_law 470 = .ok (.ireturn, 1) := by decide +kernel
theorem dL_law_471 : decode cL_law 471 = .ok (.aload_n 1, 1) := by decide +kernel
theorem dL_law_472 : decode cL_law 472 = .ok (.aload_n 0, 1) := by decide +kernel
theorem dL_law_473 : decode cL_law 473 = .ok (.iload_n 3, 1) := by decide +kernel
theorem dL_law_474 : decode cL_law 474 = .ok (.iconst 1, 1) := by decide +kernel
theorem dL_law_475 : decode cL_law 475 = .ok (.iadd, 1) := by decide +kernel
theorem dL_law_476 : decode cL_law 476 = .ok (.iaload, 1) := by decide +kernel
theorem dL_law_477 : decode cL_law 477 = .ok (.aload_n 0, 1) := by decide +kernel
theorem dL_law_478 : decode cL_law 478 = .ok (.iload_n 3, 1) := by decide +kernel
theorem dL_law_479 : decode cL_law 479 = .ok (.iconst 2, 1) := by decide +kernel
theorem dL_law_480 : decode cL_law 480 = .ok (.iadd, 1) := by decide +kernel
theorem dL_law_481 : decode cL_law 481 = .ok (.iaload, 1) := by decide +kernel
theorem dL_law_482 : decode cL_law 482 = .ok (.invokevirtual 71, 3) := by decide +kernel
theorem dL_law_485 : decode cL_law 485 = .ok (.aload_n 2, 1) := by decide +kernel
theorem dL_law_486 : decode cL_law 486 = .ok (.aload_n 0, 1) := by decide +kernel
theorem dL_law_487 : decode cL_law 487 = .ok (.iload_n 3, 1) := by decide +kernel
theorem dL_law_488 : decode cL_law 488 = .ok (.iconst 1, 1) := by decide +kernel
theorem dL_law_489 : decode cL_law 489 = .ok (.iadd, 1) := by decide +kernel
theorem dL_law_490 : decode cL_law 490 = .ok (.iaload, 1) := by decide +kernel
theorem dL_law_491 : decode cL_law 491 = .ok (.aload_n 0, 1) := by decide +kernel
theorem dL_law_492 : decode cL_law 492 = .ok (.iload_n 3, 1) := by decide +kernel
theorem dL_law_493 : decode cL_law 493 = .ok (.iconst 2, 1) := by decide +kernel
theorem dL_law_494 : decode cL_law 494 = .ok (.iadd, 1) := by decide +kernel
theorem dL_law_495 : decode cL_law 495 = .ok (.iaload, 1) := by decide +kernel
theorem dL_law_496 : decode cL_law 496 = .ok (.invokevirtual 74, 3) := by decide +kernel
theorem dL_law_499 : decode cL_law 499 = .ok (.if_icmp .eq 265, 3) := by decide +kernel
theorem dL_law_502 : decode cL_law 502 = .ok (.iconst 0, 1) := by decide +kernel
theorem dL_law_503 : decode cL_law 503 = .ok (.ireturn, 1) := by decide +kernel
theorem dL_law_504 : decode cL_law 504 = .ok (.aload_n 1, 1) := by decide +kernel
theorem dL_law_505 : decode cL_law 505 = .ok (.aload_n 0, 1) := by decide +kernel
theorem dL_law_506 : decode cL_law 506 = .ok (.iload_n 3, 1) := by decide +kernel
theorem dL_law_507 : decode cL_law 507 = .ok (.iconst 1, 1) := by decide +kernel
theorem dL_law_508 : decode cL_law 508 = .ok (.iadd, 1) := by decide +kernel
theorem dL_law_509 : decode cL_law 509 = .ok (.iaload, 1) := by decide +kernel
theorem dL_law_510 : decode cL_law 510 = .ok (.aload_n 0, 1) := by decide +kernel
theorem dL_law_511 : decode cL_law 511 = .ok (.iload_n 3, 1) := by decide +kernel
theorem dL_law_512 : decode cL_law 512 = .ok (.iconst 2, 1) := by decide +kernel
theorem dL_law_513 : decode cL_law 513 = .ok (.iadd, 1) := by decide +kernel
theorem dL_law_514 : decode cL_law 514 = .ok (.iaload, 1) := by decide +kernel
theorem dL_law_515 : decode cL_law 515 = .ok (.invokevirtual 75, 3) := by decide +kernel
theorem dL_law_518 : decode cL_law 518 = .ok (.aload_n 2, 1) := by decide +kernel
theorem dL_law_519 : decode cL_law 519 = .ok (.aload_n 0, 1) := by decide +kernel
theorem dL_law_520 : decode cL_law 520 = .ok (.iload_n 3, 1) := by decide +kernel
theorem dL_law_521 : decode cL_law 521 = .ok (.iconst 1, 1) := by decide +kernel
theorem dL_law_522 : decode cL_law 522 = .ok (.iadd, 1) := by decide +kernel
theorem dL_law_523 : decode cL_law 523 = .ok (.iaload, 1) := by decide +kernel
theorem dL_law_524 : decode cL_law 524 = .ok (.aload_n 0, 1) := by decide +kernel
theorem dL_law_525 : decode cL_law 525 = .ok (.iload_n 3, 1) := by decide +kernel
theorem dL_law_526 : decode cL_law 526 = .ok (.iconst 2, 1) := by decide +kernel
theorem dL_law_527 : decode cL_law 527 = .ok (.iadd, 1) := by decide +kernel
theorem dL_law_528 : decode cL_law 528 = .ok (.iaload, 1) := by decide +kernel
theorem dL_law_529 : decode cL_law 529 = .ok (.invokevirtual 78, 3) := by decide +kernel
theorem dL_law_532 : decode cL_law 532 = .ok (.if_icmp .eq 232, 3) := by decide +kernel
theorem dL_law_535 : decode cL_law 535 = .ok (.iconst 0, 1) := by decide +kernel
theorem dL_law_536 : decode cL_law 536 = .ok (.ireturn, 1) := by decide +kernel
theorem dL_law_537 : decode cL_law 537 = .ok (.aload_n 1, 1) := by decide +kernel
theorem dL_law_538 : decode cL_law 538 = .ok (.aload_n 0, 1) := by decide +kernel
theorem dL_law_539 : decode cL_law 539 = .ok (.iload_n 3, 1) := by decide +kernel
theorem dL_law_540 : decode cL_law 540 = .ok (.iconst 1, 1) := by decide +kernel
theorem dL_law_541 : decode cL_law 541 = .ok (.iadd, 1) := by decide +kernel
theorem dL_law_542 : decode cL_law 542 = .ok (.iaload, 1) := by decide +kernel
theorem dL_law_543 : decode cL_law 543 = .ok (.aload_n 0, 1) := by decide +kernel
theorem dL_law_544 : decode cL_law 544 = .ok (.iload_n 3, 1) := by decide +kernel
theorem dL_law_545 : decode cL_law 545 = .ok (.iconst 2, 1) := by decide +kernel
theorem dL_law_546 : decode cL_law 546 = .ok (.iadd, 1) := by decide +kernel
theorem dL_law_547 : decode cL_law 547 = .ok (.iaload, 1) := by decide +kernel
theorem dL_law_548 : decode cL_law 548 = .ok (.aload_n 0, 1) := by decide +kernel
theorem dL_law_549 : decode cL_law 549 = .ok (.iload_n 3, 1) := by decide +kernel
theorem dL_law_550 : decode cL_law 550 = .ok (.iconst 3, 1) := by decide +kernel
theorem dL_law_551 : decode cL_law 551 = .ok (.iadd, 1) := by decide +kernel
theorem dL_law_552 : decode cL_law 552 = .ok (.iaload, 1) := by decide +kernel
theorem dL_law_553 : decode cL_law 553 = .ok (.invokevirtual 79, 3) := by decide +kernel
theorem dL_law_556 : decode cL_law 556 = .ok (.aload_n 2, 1) := by decide +kernel
theorem dL_law_557 : decode cL_law 557 = .ok (.aload_n 0, 1) := by decide +kernel
theorem dL_law_558 : decode cL_law 558 = .ok (.iload_n 3, 1) := by decide +kernel
theorem dL_law_559 : decode cL_law 559 = .ok (.iconst 1, 1) := by decide +kernel
theorem dL_law_560 : decode cL_law 560 = .ok (.iadd, 1) := by decide +kernel
theorem dL_law_561 : decode cL_law 561 = .ok (.iaload, 1) := by decide +kernel
theorem dL_law_562 : decode cL_law 562 = .ok (.aload_n 0, 1) := by decide +kernel
theorem dL_law_563 : decode cL_law 563 = .ok (.iload_n 3, 1) := by decide +kernel
theorem dL_law_564 : decode cL_law 564 = .ok (.iconst 2, 1) := by decide +kernel
theorem dL_law_565 : decode cL_law 565 = .ok (.iadd, 1) := by decide +kernel
theorem dL_law_566 : decode cL_law 566 = .ok (.iaload, 1) := by decide +kernel
theorem dL_law_567 : decode cL_law 567 = .ok (.aload_n 0, 1) := by decide +kernel
theorem dL_law_568 : decode cL_law 568 = .ok (.iload_n 3, 1) := by decide +kernel
theorem dL_law_569 : decode cL_law 569 = .ok (.iconst 3, 1) := by decide +kernel
theorem dL_law_570 : decode cL_law 570 = .ok (.iadd, 1) := by decide +kernel
theorem dL_law_571 : decode cL_law 571 = .ok (.iaload, 1) := by decide +kernel
theorem dL_law_572 : decode cL_law 572 = .ok (.invokevirtual 82, 3) := by decide +kernel
theorem dL_law_575 : decode cL_law 575 = .ok (.if_icmp .eq 189, 3) := by decide +kernel
theorem dL_law_578 : decode cL_law 578 = .ok (.iconst 0, 1) := by decide +kernel
theorem dL_law_579 : decode cL_law 579 = .ok (.ireturn, 1) := by decide +kernel
theorem dL_law_580 : decode cL_law 580 = .ok (.aload_n 1, 1) := by decide +kernel
theorem dL_law_581 : decode cL_law 581 = .ok (.aload_n 0, 1) := by decide +kernel
theorem dL_law_582 : decode cL_law 582 = .ok (.iload_n 3, 1) := by decide +kernel
theorem dL_law_583 : decode cL_law 583 = .ok (.iconst 1, 1) := by decide +kernel
theorem dL_law_584 : decode cL_law 584 = .ok (.iadd, 1) := by decide +kernel
theorem dL_law_585 : decode cL_law 585 = .ok (.iaload, 1) := by decide +kernel
theorem dL_law_586 : decode cL_law 586 = .ok (.invokevirtual 83, 3) := by decide +kernel
theorem dL_law_589 : decode cL_law 589 = .ok (.aload_n 2, 1) := by decide +kernel
theorem dL_law_590 : decode cL_law 590 = .ok (.aload_n 0, 1) := by decide +kernel
theorem dL_law_591 : decode cL_law 591 = .ok (.iload_n 3, 1) := by decide +kernel
theorem dL_law_592 : decode cL_law 592 = .ok (.iconst 1, 1) := by decide +kernel
theorem dL_law_593 : decode cL_law 593 = .ok (.iadd, 1) := by decide +kernel
theorem dL_law_594 : decode cL_law 594 = .ok (.iaload, 1) := by decide +kernel
theorem dL_law_595 : decode cL_law 595 = .ok (.invokevirtual 86, 3) := by decide +kernel
theorem dL_law_598 : decode cL_law 598 = .ok (.if_icmp .eq 166, 3) := by decide +kernel
theorem dL_law_601 : decode cL_law 601 = .ok (.iconst 0, 1) := by decide +kernel
theorem dL_law_602 : decode cL_law 602 = .ok (.ireturn, 1) := by decide +kernel
theorem dL_law_603 : decode cL_law 603 = .ok (.aload_n 1, 1) := by decide +kernel
theorem dL_law_604 : decode cL_law 604 = .ok (.aload_n 0, 1) := by decide +kernel
theorem dL_law_605 : decode cL_law 605 = .ok (.iload_n 3, 1) := by decide +kernel
theorem dL_law_606 : decode cL_law 606 = .ok (.iconst 1, 1) := by decide +kernel
theorem dL_law_607 : decode cL_law 607 = .ok (.iadd, 1) := by decide +kernel
theorem dL_law_608 : decode cL_law 608 = .ok (.iaload, 1) := by decide +kernel
theorem dL_law_609 : decode cL_law 609 = .ok (.invokevirtual 87, 3) := by decide +kernel
theorem dL_law_612 : decode cL_law 612 = .ok (.aload_n 2, 1) := by decide +kernel
theorem dL_law_613 : decode cL_law 613 = .ok (.aload_n 0, 1) := by decide +kernel
theorem dL_law_614 : decode cL_law 614 = .ok (.iload_n 3, 1) := by decide +kernel
theorem dL_law_615 : decode cL_law 615 = .ok (.iconst 1, 1) := by decide +kernel
theorem dL_law_616 : decode cL_law 616 = .ok (.iadd, 1) := by decide +kernel
theorem dL_law_617 : decode cL_law 617 = .ok (.iaload, 1) := by decide +kernel
theorem dL_law_618 : decode cL_law 618 = .ok (.invokevirtual 90, 3) := by decide +kernel
theorem dL_law_621 : decode cL_law 621 = .ok (.if_icmp .eq 143, 3) := by decide +kernel
theorem dL_law_624 : decode cL_law 624 = .ok (.iconst 0, 1) := by decide +kernel
theorem dL_law_625 : decode cL_law 625 = .ok (.ireturn, 1) := by decide +kernel
theorem dL_law_626 : decode cL_law 626 = .ok (.aload_n 1, 1) := by decide +kernel
theorem dL_law_627 : decode cL_law 627 = .ok (.aload_n 0, 1) := by decide +kernel
theorem dL_law_628 : decode cL_law 628 = .ok (.iload_n 3, 1) := by decide +kernel
theorem dL_law_629 : decode cL_law 629 = .ok (.iconst 1, 1) := by decide +kernel
theorem dL_law_630 : decode cL_law 630 = .ok (.iadd, 1) := by decide +kernel
theorem dL_law_631 : decode cL_law 631 = .ok (.iaload, 1) := by decide +kernel
theorem dL_law_632 : decode cL_law 632 = .ok (.invokevirtual 91, 3) := by decide +kernel
theorem dL_law_635 : decode cL_law 635 = .ok (.aload_n 2, 1) := by decide +kernel
theorem dL_law_636 : decode cL_law 636 = .ok (.aload_n 0, 1) := by decide +kernel
theorem dL_law_637 : decode cL_law 637 = .ok (.iload_n 3, 1) := by decide +kernel
theorem dL_law_638 : decode cL_law 638 = .ok (.iconst 1, 1) := by decide +kernel
theorem dL_law_639 : decode cL_law 639 = .ok (.iadd, 1) := by decide +kernel
theorem dL_law_640 : decode cL_law 640 = .ok (.iaload, 1) := by decide +kernel
theorem dL_law_641 : decode cL_law 641 = .ok (.invokevirtual 94, 3) := by decide +kernel
theorem dL_law_644 : decode cL_law 644 = .ok (.if_icmp .eq 120, 3) := by decide +kernel
theorem dL_law_647 : decode cL_law 647 = .ok (.iconst 0, 1) := by decide +kernel
theorem dL_law_648 : decode cL_law 648 = .ok (.ireturn, 1) := by decide +kernel
theorem dL_law_649 : decode cL_law 649 = .ok (.aload_n 1, 1) := by decide +kernel
theorem dL_law_650 : decode cL_law 650 = .ok (.aload_n 0, 1) := by decide +kernel
theorem dL_law_651 : decode cL_law 651 = .ok (.iload_n 3, 1) := by decide +kernel
theorem dL_law_652 : decode cL_law 652 = .ok (.iconst 1, 1) := by decide +kernel
theorem dL_law_653 : decode cL_law 653 = .ok (.iadd, 1) := by decide +kernel
theorem dL_law_654 : decode cL_law 654 = .ok (.iaload, 1) := by decide +kernel
theorem dL_law_655 : decode cL_law 655 = .ok (.invokevirtual 95, 3) := by decide +kernel
theorem dL_law_658 : decode cL_law 658 = .ok (.aload_n 2, 1) := by decide +kernel
theorem dL_law_659 : decode cL_law 659 = .ok (.aload_n 0, 1) := by decide +kernel
theorem dL_law_660 : decode cL_law 660 = .ok (.iload_n 3, 1) := by decide +kernel
theorem dL_law_661 : decode cL_law 661 = .ok (.iconst 1, 1) := by decide +kernel
theorem dL_law_662 : decode cL_law 662 = .ok (.iadd, 1) := by decide +kernel
theorem dL_law_663 : decode cL_law 663 = .ok (.iaload, 1) := by decide +kernel
theorem dL_law_664 : decode cL_law 664 = .ok (.invokevirtual 98, 3) := by decide +kernel
theorem dL_law_667 : decode cL_law 667 = .ok (.if_icmp .eq 97, 3) := by decide +kernel
theorem dL_law_670 : decode cL_law 670 = .ok (.iconst 0, 1) := by decide +kernel
theorem dL_law_671 : decode cL_law 671 = .ok (.ireturn, 1) := by decide +kernel
theorem dL_law_672 : decode cL_law 672 = .ok (.aload_n 1, 1) := by decide +kernel
theorem dL_law_673 : decode cL_law 673 = .ok (.aload_n 0, 1) := by decide +kernel
theorem dL_law_674 : decode cL_law 674 = .ok (.iload_n 3, 1) := by decide +kernel
theorem dL_law_675 : decode cL_law 675 = .ok (.iconst 1, 1) := by decide +kernel
theorem dL_law_676 : decode cL_law 676 = .ok (.iadd, 1) := by decide +kernel
theorem dL_law_677 : decode cL_law 677 = .ok (.iaload, 1) := by decide +kernel
theorem dL_law_678 : decode cL_law 678 = .ok (.invokevirtual 99, 3) := by decide +kernel
theorem dL_law_681 : decode cL_law 681 = .ok (.aload_n 2, 1) := by decide +kernel
theorem dL_law_682 : decode cL_law 682 = .ok (.aload_n 0, 1) := by decide +kernel
theorem dL_law_683 : decode cL_law 683 = .ok (.iload_n 3, 1) := by decide +kernel
theorem dL_law_684 : decode cL_law 684 = .ok (.iconst 1, 1) := by decide +kernel
theorem dL_law_685 : decode cL_law 685 = .ok (.iadd, 1) := by decide +kernel
theorem dL_law_686 : decode cL_law 686 = .ok (.iaload, 1) := by decide +kernel
theorem dL_law_687 : decode cL_law 687 = .ok (.invokevirtual 102, 3) := by decide +kernel
theorem dL_law_690 : decode cL_law 690 = .ok (.if_icmp .eq 74, 3) := by decide +kernel
theorem dL_law_693 : decode cL_law 693 = .ok (.iconst 0, 1) := by decide +kernel
theorem dL_law_694 : decode cL_law 694 = .ok (.ireturn, 1) := by decide +kernel
theorem dL_law_695 : decode cL_law 695 = .ok (.aload_n 1, 1) := by decide +kernel
theorem dL_law_696 : decode cL_law 696 = .ok (.invokevirtual 103, 3) := by decide +kernel
theorem dL_law_699 : decode cL_law 699 = .ok (.aload_n 2, 1) := by decide +kernel
theorem dL_law_700 : decode cL_law 700 = .ok (.invokevirtual 106, 3) := by decide +kernel
theorem dL_law_703 : decode cL_law 703 = .ok (.if_icmp .eq 61, 3) := by decide +kernel
theorem dL_law_706 : decode cL_law 706 = .ok (.iconst 0, 1) := by decide +kernel
theorem dL_law_707 : decode cL_law 707 = .ok (.ireturn, 1) := by decide +kernel
theorem dL_law_708 : decode cL_law 708 = .ok (.aload_n 1, 1) := by decide +kernel
theorem dL_law_709 : decode cL_law 709 = .ok (.aload_n 0, 1) := by decide +kernel
theorem dL_law_710 : decode cL_law 710 = .ok (.iload_n 3, 1) := by decide +kernel
theorem dL_law_711 : decode cL_law 711 = .ok (.iconst 1, 1) := by decide +kernel
theorem dL_law_712 : decode cL_law 712 = .ok (.iadd, 1) := by decide +kernel
theorem dL_law_713 : decode cL_law 713 = .ok (.iaload, 1) := by decide +kernel
theorem dL_law_714 : decode cL_law 714 = .ok (.aload_n 0, 1) := by decide +kernel
theorem dL_law_715 : decode cL_law 715 = .ok (.iload_n 3, 1) := by decide +kernel
theorem dL_law_716 : decode cL_law 716 = .ok (.iconst 2, 1) := by decide +kernel
theorem dL_law_717 : decode cL_law 717 = .ok (.iadd, 1) := by decide +kernel
theorem dL_law_718 : decode cL_law 718 = .ok (.iaload, 1) := by decide +kernel
theorem dL_law_719 : decode cL_law 719 = .ok (.invokevirtual 107, 3) := by decide +kernel
theorem dL_law_722 : decode cL_law 722 = .ok (.aload_n 2, 1) := by decide +kernel
theorem dL_law_723 : decode cL_law 723 = .ok (.aload_n 0, 1) := by decide +kernel
theorem dL_law_724 : decode cL_law 724 = .ok (.iload_n 3, 1) := by decide +kernel
theorem dL_law_725 : decode cL_law 725 = .ok (.iconst 1, 1) := by decide +kernel
theorem dL_law_726 : decode cL_law 726 = .ok (.iadd, 1) := by decide +kernel
theorem dL_law_727 : decode cL_law 727 = .ok (.iaload, 1) := by decide +kernel
theorem dL_law_728 : decode cL_law 728 = .ok (.aload_n 0, 1) := by decide +kernel
theorem dL_law_729 : decode cL_law 729 = .ok (.iload_n 3, 1) := by decide +kernel
theorem dL_law_730 : decode cL_law 730 = .ok (.iconst 2, 1) := by decide +kernel
theorem dL_law_731 : decode cL_law 731 = .ok (.iadd, 1) := by decide +kernel
theorem dL_law_732 : decode cL_law 732 = .ok (.iaload, 1) := by decide +kernel
theorem dL_law_733 : decode cL_law 733 = .ok (.invokevirtual 110, 3) := by decide +kernel
theorem dL_law_736 : decode cL_law 736 = .ok (.if_icmp .eq 28, 3) := by decide +kernel
theorem dL_law_739 : decode cL_law 739 = .ok (.iconst 0, 1) := by decide +kernel
theorem dL_law_740 : decode cL_law 740 = .ok (.ireturn, 1) := by decide +kernel
theorem dL_law_741 : decode cL_law 741 = .ok (.aload_n 1, 1) := by decide +kernel
theorem dL_law_742 : decode cL_law 742 = .ok (.aload_n 0, 1) := by decide +kernel
theorem dL_law_743 : decode cL_law 743 = .ok (.iload_n 3, 1) := by decide +kernel
theorem dL_law_744 : decode cL_law 744 = .ok (.iconst 1, 1) := by decide +kernel
theorem dL_law_745 : decode cL_law 745 = .ok (.iadd, 1) := by decide +kernel
theorem dL_law_746 : decode cL_law 746 = .ok (.iaload, 1) := by decide +kernel
theorem dL_law_747 : decode cL_law 747 = .ok (.invokevirtual 111, 3) := by decide +kernel
theorem dL_law_750 : decode cL_law 750 = .ok (.aload_n 2, 1) := by decide +kernel
theorem dL_law_751 : decode cL_law 751 = .ok (.aload_n 0, 1) := by decide +kernel
theorem dL_law_752 : decode cL_law 752 = .ok (.iload_n 3, 1) := by decide +kernel
theorem dL_law_753 : decode cL_law 753 = .ok (.iconst 1, 1) := by decide +kernel
theorem dL_law_754 : decode cL_law 754 = .ok (.iadd, 1) := by decide +kernel
theorem dL_law_755 : decode cL_law 755 = .ok (.iaload, 1) := by decide +kernel
theorem dL_law_756 : decode cL_law 756 = .ok (.invokevirtual 114, 3) := by decide +kernel
theorem dL_law_759 : decode cL_law 759 = .ok (.if_icmp .eq 5, 3) := by decide +kernel
theorem dL_law_762 : decode cL_law 762 = .ok (.iconst 0, 1) := by decide +kernel
theorem dL_law_763 : decode cL_law 763 = .ok (.ireturn, 1) := by decide +kernel
theorem dL_law_764 : decode cL_law 764 = .ok (.iinc 3 4, 3) := by decide +kernel
theorem dL_law_767 : decode cL_law 767 = .ok (.goto (-749), 3) := by decide +kernel
theorem dL_law_770 : decode cL_law 770 = .ok (.iconst 1, 1) := by decide +kernel
theorem dL_law_771 : decode cL_law 771 = .ok (.ireturn, 1) := by decide +kernel
end
section
/-! ===== 03: the plan of the objects, in the order of their making (object 0 is the script) ===== -/
def sh_ty (c f : Nat) : FieldType := match c with
  | 0 => tyX0 f
  | 1 => tyX1 f
  | 2 => tyX2 f
  | 3 => tyX3 f
  | 4 => tyX4 f
  | 5 => tyX5 f
  | 6 => tyX6 f
  | _ => tyX7 f
def sh_KDl : List (Nat × Nat) := [(12, 0), (6, 9), (4, 5), (5, 12), (8, 6), (8, 6), (8, 6), (8, 6), (8, 6), (8, 6), (8, 6), (3, 4), (8, 3), (8, 3), (8, 3), (8, 3), (8, 2), (4, 5), (5, 12), (8, 6), (8, 6), (8, 6), (8, 6), (8, 6), (8, 6), (8, 6), (3, 4), (8, 3), (8, 3), (8, 3), (8, 3), (8, 2), (4, 5), (5, 12), (8, 6), (8, 6), (8, 6), (8, 6), (8, 6), (8, 6), (8, 6), (3, 4), (8, 3), (8, 3), (8, 3), (8, 3), (8, 2), (2, 3), (11, 4), (4, 5), (5, 12), (8, 6), (8, 6), (8, 6), (8, 6), (8, 6), (8, 6), (8, 6), (3, 4), (8, 3), (8, 3), (8, 3), (8, 3), (8, 2), (4, 5), (5, 12), (8, 6), (8, 6), (8, 6), (8, 6), (8, 6), (8, 6), (8, 6), (3, 4), (8, 3), (8, 3), (8, 3), (8, 3), (8, 2), (4, 5), (5, 12), (8, 6), (8, 6), (8, 6), (8, 6), (8, 6), (8, 6), (8, 6), (3, 4), (8, 3), (8, 3), (8, 3), (8, 3), (8, 2), (4, 5), (5, 12), (8, 6), (8, 6), (8, 6), (8, 6), (8, 6), (8, 6), (8, 6), (3, 4), (8, 3), (8, 3), (8, 3), (8, 3), (8, 2), (1, 7), (10, 60), (8, 20), (8, 20), (8, 20), (0, 5), (9, 100), (9, 100), (8, 100), (8, 100), (7, 20), (8, 63), (8, 252), (8, 63), (8, 63), (8, 24), (8, 60), (8, 32), (8, 32), (8, 32), (8, 100)]
def sh_KD (o : Nat) : Nat × Nat := sh_KDl.getD o (12, 0)
def sh_nest : List (String × Nat × MethodName × String) := [(RX6, 11, yX4_init, RX6), (RX4, 11, yX5_init, RX6), (RX4, 20, yX3_init, RX6), (RX2, 24, yX4_init, RX6), (RX6, 31, yX1_init, RX6), (RX6, 38, yX0_init, RX6), (RX5, 49, yX6_copyRow, RX6), (RX3, 24, yX6_copyRow, RX6), (RX4, 43, yX6_copyRow, RX6), (RX5, 53, yX6_isCell, RX6), (RX5, 64, yX6_replace, RX6), (RX3, 28, yX6_replace, RX6), (RX3, 36, yX6_isLamp, RX6), (RX5, 72, yX6_cellAlong, RX6), (RX5, 76, yX6_cellsToEdge, RX6), (RX4, 143, yX6_isCell, RX6), (RX4, 100, yX6_isLamp, RX6), (RX4, 126, yX6_cellsToEdge, RX6), (RX4, 137, yX6_cellAlong, RX6), (RX4, 106, yX6_opposite, RX6), (RX4, 110, yX6_distanceAlong, RX6), (RX0, 29, yX6_isCell, RX6), (RX0, 37, yX6_cellsToEdge, RX6), (RX0, 41, yX6_cellAlong, RX6)]
end
section
/-! ===== 03: the frame of this proof: whole numbers for ints, objects by their order of making, one memory for the whole system ===== -/
abbrev sh_V : Type := Int ⊕ Nat
abbrev sh_Mem : Type := Nat → Int → Int
abbrev sh_Ptr : Type := Nat → Nat → Option Nat
abbrev sh_St : Type := Nat × sh_Mem × sh_Ptr
abbrev sh_M : Type := MethodName × ByteArray × Nat × Option FieldType × (Nat × Nat) × (Nat × Nat)
def sh_rm (y : sh_M) : Room := { frames := y.2.2.2.2.1.1, cells := y.2.2.2.2.2.1, slots := y.2.2.2.2.2.2, locals := y.2.2.2.2.1.2 }
def sh_tr (ad : Nat → Nat) (v : sh_V) : Value := match v with
  | .inl z => .int (Int32.ofInt z)
  | .inr o => .ref (ad o)
def sh_ws : List Cond := lw_tbl.filter goodWord
def sh_wsy (y : sh_M) : List Cond := Cond.code y.1 y.2.1 y.2.2.1 y.2.2.2.1 :: sh_ws
def sh_isr (t : FieldType) : Bool := match t with
  | .object _ => true
  | .array _ => true
  | _ => false
def sh_et (k : Nat) : FieldType := match k with
  | 8 => .int
  | 9 => .boolean
  | 10 => .char
  | _ => .object RX4
def sh_fs (ad : Nat → Nat) (I : sh_Mem) (P : sh_Ptr) (k ci N : Nat) : List Value := (List.range N).map (fun f => if sh_isr (sh_ty ci f) then va_rf ((P k f).map ad) else Value.int (Int32.ofInt (I k (f : Int))))
def sh_ia (I : sh_Mem) (k : Nat) : Nat → Int32 := fun j => Int32.ofInt (I k (j : Int))
def sh_E (ad : Nat → Nat) (ac : Nat → ClassId) (I : sh_Mem) (P : sh_Ptr) (k : Nat) (kd : Nat × Nat) : va_E :=
  if kd.1 < 8 then .inr (kd.1, sh_fs ad I P k kd.1 kd.2)
  else .inl (ac k, kd.2, if kd.1 = 11 then .inr (.inr (.inr (.inr (fun j => (P k j).map ad)))) else .inl (sh_ia I k))
def sh_W (ad : Nat → Nat) (ac : Nat → ClassId) (σ : sh_St) : va_W := (List.range (σ.1 - 1)).map (fun k => (ad (k + 1), sh_E ad ac σ.2.1 σ.2.2 (k + 1) (sh_KD (k + 1))))
def sh_is (n o ci N : Nat) : Prop := o < n ∧ sh_KD o = (ci, N) ∧ 0 < o
def sh_u (I : sh_Mem) (o : Nat) (f v : Int) : sh_Mem := fun a b => if a = o ∧ b = f then v else I a b
def sh_uP (P : sh_Ptr) (o f q : Nat) : sh_Ptr := fun a b => if a = o ∧ b = f then some q else P a b
theorem sh_W_len {ad : Nat → Nat} {ac : Nat → ClassId} {σ : sh_St} : (sh_W ad ac σ).length = σ.1 - 1 := by simp [sh_W]
theorem sh_W_get {ad : Nat → Nat} {ac : Nat → ClassId} {σ : sh_St} {o ci N : Nat} (h : sh_is σ.1 o ci N) : (sh_W ad ac σ)[o - 1]? = some (ad o, sh_E ad ac σ.2.1 σ.2.2 o (ci, N)) := by
  obtain ⟨h1, h2, h3⟩ := h
  have e : o - 1 + 1 = o := by omega
  have hlt : o - 1 < σ.1 - 1 := by omega
  rw [sh_W, List.getElem?_map, List.getElem?_range hlt]
  simp only [Option.map_some, e, h2]
theorem sh_W_idx {ad : Nat → Nat} {ac : Nat → ClassId} {σ : sh_St} {k : Nat} {q : Nat × va_E} (h : (sh_W ad ac σ)[k]? = some q) : k + 1 < σ.1 ∧ q = (ad (k + 1), sh_E ad ac σ.2.1 σ.2.2 (k + 1) (sh_KD (k + 1))) := by
  have hk : k < (sh_W ad ac σ).length := (List.getElem?_eq_some_iff.mp h).1
  rw [sh_W_len] at hk
  rw [sh_W, List.getElem?_map, List.getElem?_range hk] at h
  exact ⟨by omega, (Option.some.inj h).symm⟩
theorem sh_mapset {β : Type} {n o : Nat} {g g' : Nat → β} {x : β} (h1 : ∀ j, j < n → j ≠ o → g' j = g j) (h2 : g' o = x) : ((List.range n).map g).set o x = (List.range n).map g' := by
  apply List.ext_getElem?
  intro j
  rw [List.getElem?_set]
  by_cases hj : j < n
  · by_cases hjo : o = j
    · subst hjo
      simp [hj, h2]
    · rw [if_neg hjo]
      simp [List.getElem?_map, List.getElem?_range hj, h1 j hj (fun e => hjo e.symm)]
  · by_cases hjo : o = j
    · subst hjo
      simp [hj]
    · rw [if_neg hjo]
      simp [hj]
theorem sh_E_obj {ad : Nat → Nat} {ac : Nat → ClassId} {I : sh_Mem} {P : sh_Ptr} {o ci N : Nat} (h : ci < 8) : sh_E ad ac I P o (ci, N) = .inr (ci, sh_fs ad I P o ci N) := by simp [sh_E, h]
theorem sh_E_arr {ad : Nat → Nat} {ac : Nat → ClassId} {I : sh_Mem} {P : sh_Ptr} {o ci N : Nat} (h : 8 ≤ ci) (h2 : ci ≠ 11) : sh_E ad ac I P o (ci, N) = .inl (ac o, N, .inl (sh_ia I o)) := by
  have h3 : ¬ ci < 8 := by omega
  simp [sh_E, h2, h3]
theorem sh_E_ref {ad : Nat → Nat} {ac : Nat → ClassId} {I : sh_Mem} {P : sh_Ptr} {o N : Nat} : sh_E ad ac I P o (11, N) = .inl (ac o, N, .inr (.inr (.inr (.inr (fun j => (P o j).map ad))))) := by simp [sh_E]
/-- another object's cell doesn't feel a change -/
theorem sh_E_congr {ad : Nat → Nat} {ac : Nat → ClassId} {I I' : sh_Mem} {P P' : sh_Ptr} {k : Nat} {kd : Nat × Nat} (h1 : I' k = I k) (h2 : P' k = P k) : sh_E ad ac I' P' k kd = sh_E ad ac I P k kd := by
  have h3 : sh_ia I' k = sh_ia I k := by
    funext j
    simp only [sh_ia, h1]
  simp only [sh_E, sh_fs, h1, h2, h3]
theorem sh_W_set {ad : Nat → Nat} {ac : Nat → ClassId} {n o : Nat} {I I' : sh_Mem} {P P' : sh_Ptr} {ci N : Nat} {x : va_E} (h : sh_is n o ci N) (h1 : ∀ k, k ≠ o → I' k = I k) (h2 : ∀ k, k ≠ o → P' k = P k) (h3 : sh_E ad ac I' P' o (ci, N) = x) : (sh_W ad ac (n, I, P)).set (o - 1) (ad o, x) = sh_W ad ac (n, I', P') := by
  obtain ⟨ha, hb, hc⟩ := h
  have e : o - 1 + 1 = o := by omega
  refine sh_mapset (fun j hj hjo => ?_) ?_
  · have hne : j + 1 ≠ o := by omega
    show (ad (j + 1), sh_E ad ac I' P' (j + 1) (sh_KD (j + 1))) = (ad (j + 1), sh_E ad ac I P (j + 1) (sh_KD (j + 1)))
    rw [sh_E_congr (h1 _ hne) (h2 _ hne)]
  · show (ad (o - 1 + 1), sh_E ad ac I' P' (o - 1 + 1) (sh_KD (o - 1 + 1))) = (ad o, x)
    rw [e, hb, h3]
theorem sh_fs_get {ad : Nat → Nat} {I : sh_Mem} {P : sh_Ptr} {k ci N f : Nat} (hf : f < N) : (sh_fs ad I P k ci N)[f]? = some (if sh_isr (sh_ty ci f) then va_rf ((P k f).map ad) else Value.int (Int32.ofInt (I k (f : Int)))) := by
  rw [sh_fs, List.getElem?_map, List.getElem?_range hf]
  rfl
theorem sh_fs_len {ad : Nat → Nat} {I : sh_Mem} {P : sh_Ptr} {k ci N : Nat} : (sh_fs ad I P k ci N).length = N := by simp [sh_fs]
theorem sh_fs_setI {ad : Nat → Nat} {I : sh_Mem} {P : sh_Ptr} {k ci N f : Nat} {v : Int} (hi : sh_isr (sh_ty ci f) = false) : (sh_fs ad I P k ci N).set f (.int (Int32.ofInt v)) = sh_fs ad (sh_u I k (f : Int) v) P k ci N := by
  refine sh_mapset (fun j hj hjo => ?_) ?_
  · have hne : ¬ (j : Int) = (f : Int) := by omega
    simp [sh_u, hne]
  · simp [sh_u, hi]
theorem sh_fs_setP {ad : Nat → Nat} {I : sh_Mem} {P : sh_Ptr} {k ci N f q : Nat} (hi : sh_isr (sh_ty ci f) = true) : (sh_fs ad I P k ci N).set f (.ref (ad q)) = sh_fs ad I (sh_uP P k f q) k ci N := by
  refine sh_mapset (fun j hj hjo => ?_) ?_
  · simp [sh_uP, hjo]
  · simp [sh_uP, hi, va_rf]
theorem sh_u_ne {I : sh_Mem} {o : Nat} {f v : Int} {k : Nat} (h : k ≠ o) : sh_u I o f v k = I k := by
  funext b
  simp [sh_u, h]
theorem sh_uP_ne {P : sh_Ptr} {o f q k : Nat} (h : k ≠ o) : sh_uP P o f q k = P k := by
  funext b
  simp [sh_uP, h]
theorem sh_ia_set {I : sh_Mem} {o : Nat} {i v : Int} {w : Int32} (h0 : 0 ≤ i) (hw : w = Int32.ofInt v) : upd (sh_ia I o) i.toNat w = sh_ia (sh_u I o i v) o := by
  funext j
  simp only [upd, sh_ia, sh_u]
  by_cases h : j = i.toNat
  · subst h
    rw [if_pos rfl, if_pos ⟨trivial, by omega⟩, hw]
  · rw [if_neg h, if_neg]
    intro q
    exact h (by omega)
/-! what is known of classes, arrays, links through nest mates -/
def sh_K (D : va_G) (ac : Nat → ClassId) (n : Nat) (U : State) : Prop :=
  (∀ (c : Nat) (q : vw_C), vwCl[c]? = some q → u_Kn U q.1 q.2.1 q.2.2 (D.1 c) (D.2 c)) ∧
  (∀ o ci N, sh_is n o ci N → 8 ≤ ci → ci < 12 → ArrOfT U (ac o) (sh_et ci) ∧ va_RA U (ac o) (sh_et ci)) ∧
  (∀ q ∈ sh_nest, va_Nw (.methodLinkNest q.1 q.2.1 q.2.2.1 q.2.2.2) U) ∧ va_AO RX4 U
theorem sh_K.moved {D : va_G} {ac : Nat → ClassId} {n : Nat} {s U : State} (hW : s.WarmedH U.vm) (h : sh_K D ac n s) : sh_K D ac n U :=
  ⟨fun c q hq => u_Kn_moved hW.alike (h.1 c q hq), fun o ci N a b c => ⟨arrOfT_moved hW.alike (h.2.1 o ci N a b c).1, (h.2.1 o ci N a b c).2.moved hW.alike⟩, fun q hq => va_Nw.warmM hW (h.2.2.1 q hq), h.2.2.2.moved hW.alike⟩
theorem sh_K.one {D : va_G} {ac : Nat → ClassId} {n o ci N : Nat} {U : State} (h : sh_K D ac n U) (ho : sh_is n o ci N) (h8 : 8 ≤ ci) (h12 : ci < 12) : va_K D vwCl [(ac o, sh_et ci)] U := by
  refine ⟨h.1, fun k q hk => ?_⟩
  have hz : k < 1 := (List.getElem?_eq_some_iff.mp hk).1
  rw [show k = 0 by omega] at hk
  cases hk
  exact h.2.1 o ci N ho h8 h12
theorem sh_K.none {D : va_G} {ac : Nat → ClassId} {n : Nat} {U : State} (h : sh_K D ac n U) : va_K D vwCl [] U := ⟨h.1, fun k q hk => by simp at hk⟩
def sh_X (y : sh_M) (p : Program) (R : Room) (s : State) (m : MethodId) (args : Array Value) (meth : Method) (c : Code) : Prop :=
  p.tables.exec = Jvm.exec ∧ c.code = y.2.1 ∧ c.maxLocals = y.2.2.1 ∧ s.vm.findClass y.1.cls = some m.cls ∧ (∀ w ∈ sh_ws, w.before args s = true) ∧ (y.1.name = "<init>" → meth.name = "<init>") ∧ R = sh_rm y
def sh_R (D : va_G) (ad : Nat → Nat) (ac : Nat → ClassId) (σ : sh_St) (A : Nat → Prop) (s : State) (H0 H : Heap) (locs : List Loc) : Prop :=
  sh_K D ac σ.1 s ∧ va_P D vwCl (sh_W ad ac σ) H ∧ va_D A (sh_W ad ac σ) ∧ va_S A H0 H locs ∧ va_X (ad 0) (σ.2.1 0 0).toNat (fun j => Int32.ofInt (σ.2.1 0 ((j : Int) + 1))) s H0 ∧ ad 0 < H0.size ∧ ¬ A (ad 0) ∧ (∀ o f q, σ.2.2 o f = some q → q < σ.1) ∧ 0 < σ.1
def sh_L (ad : Nat → Nat) (la : Array Slot) (n : Nat) (ls : List (Option sh_V)) : Prop := la.size = n ∧ lv_wf la ∧ ∀ (i : Nat) (v : sh_V), ls[i]? = some (some v) → la[i]? = some (.val (sh_tr ad v))
theorem sh_tr_cat (ad : Nat → Nat) (v : sh_V) : (sh_tr ad v).category = 1 := by cases v <;> rfl
/-- how a method ends -/
def sh_ret (y : sh_M) (pc : Nat) (r : Option Int) : Prop := match r with
  | none => decode y.2.1 pc = .ok (.return_, 1) ∧ y.2.2.2.1 = none
  | some z => decode y.2.1 pc = .ok (.ireturn, 1) ∧ ∃ ty, y.2.2.2.1 = some ty ∧ narrow ty (.int (Int32.ofInt z)) = .int (Int32.ofInt z)
/-- from this place the method comes to its end with an answer and a memory of which Q holds -/
def sh_O (y : sh_M) (pc : Nat) (ls : List (Option sh_V)) (st : List sh_V) (cn : Nat × Nat) (σ : sh_St) (Q : Option Int → sh_St → Prop) : Prop :=
  ∀ (p : Program) (l : Launch) (e : Env) (R : Room) (s : State) (m : MethodId) (args : Array Value) (below : List Frame) (meth : Method) (c : Code) (Z : State → Prop)
    (D : va_G) (A : Nat → Prop) (H0 : Heap) (ad : Nat → Nat) (ac : Nat → ClassId) (H : Heap) (locs : List Loc) (la : Array Slot),
    sh_X y p R s m args meth c → (∀ q, H0.size ≤ q → A q) → sh_R D ad ac σ A s H0 H locs → sh_L ad la y.2.2.1 ls → (cn.1 ≤ y.2.2.2.2.2.1 ∧ cn.2 ≤ y.2.2.2.2.2.2) →
    (∀ (r : Option Int) (σ' : sh_St) (ad' : Nat → Nat) (ac' : Nat → ClassId) (H' : Heap) (locs' : List Loc) (la' : Array Slot) (pc' : Nat), Q r σ' → sh_R D ad' ac' σ' A s H0 H' locs' →
      (y.2.2.2.2.2.1 = 0 → ad' = ad ∧ ac' = ac) → (∀ k, k < σ.1 → ad' k = ad k ∧ ac' k = ac k) → σ.1 ≤ σ'.1 → sh_ret y pc' r →
      W p l e R s m args below meth c H' locs' y.2.2.2.2.2.1 y.2.2.2.2.2.2 Z (F0 m pc' la' (r.map (fun z => Value.int (Int32.ofInt z))).toList)) →
    W p l e R s m args below meth c H locs cn.1 cn.2 Z (F0 m pc la (st.map (sh_tr ad)))
theorem sh_O.mono {y : sh_M} {pc : Nat} {ls : List (Option sh_V)} {st : List sh_V} {cn : Nat × Nat} {σ : sh_St} {Q Q' : Option Int → sh_St → Prop} (h : sh_O y pc ls st cn σ Q) (hq : ∀ r σ', Q r σ' → Q' r σ') : sh_O y pc ls st cn σ Q' := by
  intro p l e R s m args below meth c Z D A H0 ad ac H locs la hX hA hR hL hc hret
  exact h p l e R s m args below meth c Z D A H0 ad ac H locs la hX hA hR hL hc (fun r σ' ad' ac' H' locs' la' pc' hQ => hret r σ' ad' ac' H' locs' la' pc' (hq r σ' hQ))
theorem sh_O.locals {y : sh_M} {pc : Nat} {ls ls' : List (Option sh_V)} {st : List sh_V} {cn : Nat × Nat} {σ : sh_St} {Q : Option Int → sh_St → Prop} (h : sh_O y pc ls' st cn σ Q) (hl : ∀ (i : Nat) (v : sh_V), ls'[i]? = some (some v) → ls[i]? = some (some v)) : sh_O y pc ls st cn σ Q := by
  intro p l e R s m args below meth c Z D A H0 ad ac H locs la hX hA hR hL hc hret
  exact h p l e R s m args below meth c Z D A H0 ad ac H locs la hX hA hR ⟨hL.1, hL.2.1, fun i v hi => hL.2.2 i v (hl i v hi)⟩ hc hret
/-! instructions that touch neither heap nor locals -/
def sh_Bd (a : Int) : Prop := -2147483648 ≤ a ∧ a < 2147483648
theorem sh_ti {a : Int} (h : sh_Bd a) : (Int32.ofInt a).toInt = a := Int32.toInt_ofInt_of_le h.1 h.2
theorem sh_Bd0 : sh_Bd 0 := ⟨by decide, by decide⟩
theorem sh_eqI {a b : Int} (ha : sh_Bd a) (hb : sh_Bd b) : Int32.ofInt a = Int32.ofInt b ↔ a = b := by
  rw [← Int32.toInt_inj, sh_ti ha, sh_ti hb]
theorem sh_ltI {a b : Int} (ha : sh_Bd a) (hb : sh_Bd b) : Int32.ofInt a < Int32.ofInt b ↔ a < b := by
  rw [Int32.lt_iff_toInt_lt, sh_ti ha, sh_ti hb]
theorem sh_leI {a b : Int} (ha : sh_Bd a) (hb : sh_Bd b) : Int32.ofInt a ≤ Int32.ofInt b ↔ a ≤ b := by
  rw [Int32.le_iff_toInt_le, sh_ti ha, sh_ti hb]
theorem sh_nz {b : Int} (h1 : 0 < b) (h2 : b < 2147483648) : ¬ Int32.ofInt b = 0 := by
  intro h
  have := (sh_eqI (a := b) (b := 0) ⟨by omega, h2⟩ sh_Bd0).mp h
  omega
theorem sh_div {a b : Int} (ha : 0 ≤ a) (ha2 : a < 2147483648) (hb : 0 < b) (hb2 : b < 2147483648) : Int32.ofInt a / Int32.ofInt b = Int32.ofInt (a / b) := by
  have h1 : (Int32.ofInt a).toInt = a := sh_ti ⟨by omega, ha2⟩
  have h2 : (Int32.ofInt b).toInt = b := sh_ti ⟨by omega, hb2⟩
  have h3 : 0 ≤ a / b := Int.ediv_nonneg ha (by omega)
  have h4 : a / b ≤ a := Int.ediv_le_self b ha
  apply Int32.toInt_inj.mp
  have hne : Int32.ofInt b ≠ -1 := by
    intro h
    have h9 : (Int32.ofInt b).toInt = -1 := by rw [h]; decide
    omega
  rw [Int32.toInt_div_of_ne_right _ _ hne, h1, h2, sh_ti ⟨by omega, by omega⟩, Int.tdiv_eq_ediv_of_nonneg ha]
theorem sh_mod {a b : Int} (ha : 0 ≤ a) (ha2 : a < 2147483648) (hb : 0 < b) (hb2 : b < 2147483648) : Int32.ofInt a - Int32.ofInt a / Int32.ofInt b * Int32.ofInt b = Int32.ofInt (a % b) := by
  rw [sh_div ha ha2 hb hb2, ← Int32.ofInt_mul, ← Int32.ofInt_sub]
  congr 1
  have := Int.emod_add_mul_ediv a b
  rw [Int.mul_comm] 
  omega
theorem sh_emod31 (x : BitVec 32) : ((x &&& 31#32).toNat : Int) = x.toInt % 32 := by
  have h : (x &&& 31#32).toNat = x.toNat % 32 := by
    rw [BitVec.toNat_and]
    exact Nat.and_two_pow_sub_one_eq_mod x.toNat 5
  rw [h, BitVec.toInt_eq_toNat_bmod, Int.bmod_def]
  split <;> omega
theorem sh_and31 {a : Int} : Int32.ofInt a &&& Int32.ofInt 31 = Int32.ofInt (a % 32) := by
  apply Int32.toInt_inj.mp
  rw [sh_ti ⟨by omega, by omega⟩]
  have e1 : (Int32.ofInt a &&& Int32.ofInt 31).toBitVec = BitVec.ofInt 32 a &&& 31#32 := by
    rw [Int32.toBitVec_and, Int32.toBitVec_ofInt]
    rfl
  have e2 := sh_emod31 (BitVec.ofInt 32 a)
  show (Int32.ofInt a &&& Int32.ofInt 31).toBitVec.toInt = a % 32
  rw [e1, BitVec.toInt_eq_toNat_of_lt, e2, BitVec.toInt_ofInt, Int.bmod_def]
  · split <;> omega
  · have : (BitVec.ofInt 32 a &&& 31#32).toNat ≤ 31 := by
      rw [BitVec.toNat_and]
      exact Nat.and_le_right
    omega
theorem sh_i2cV (a : Int) : ((Int32.ofInt a).toUInt32 % 65536).toInt32 = Int32.ofInt (a % 65536) := by
  apply Int32.toInt_inj.mp
  rw [sh_ti ⟨by omega, by omega⟩]
  have e1 : (((Int32.ofInt a).toUInt32 % 65536).toInt32).toBitVec = BitVec.ofInt 32 a % 65536#32 := by
    rfl
  show (((Int32.ofInt a).toUInt32 % 65536).toInt32).toBitVec.toInt = a % 65536
  have e2 : (BitVec.ofInt 32 a % 65536#32).toNat = (a % 4294967296).toNat % 65536 := by
    rw [BitVec.toNat_umod, BitVec.toNat_ofInt]
    rfl
  rw [e1, BitVec.toInt_eq_toNat_of_lt, e2]
  · omega
  · rw [e2]
    omega
theorem sh_z : (0 : Int32) = Int32.ofInt 0 := by decide
theorem sh_eq {a b : Int} (ha : sh_Bd a) (hb : sh_Bd b) : (Int32.ofInt a = Int32.ofInt b → a = b) ∧ (¬ Int32.ofInt a = Int32.ofInt b → ¬ a = b) := by
  simp only [sh_eqI ha hb]
  exact ⟨id, id⟩
theorem sh_eq0 {a : Int} (ha : sh_Bd a) : (Int32.ofInt a = (0 : Int32) → a = 0) ∧ (¬ Int32.ofInt a = (0 : Int32) → ¬ a = 0) := by
  rw [sh_z]
  exact sh_eq ha sh_Bd0
theorem sh_ne {a b : Int} (ha : sh_Bd a) (hb : sh_Bd b) : (¬ Int32.ofInt a = Int32.ofInt b → ¬ a = b) ∧ (Int32.ofInt a = Int32.ofInt b → a = b) := by
  simp only [sh_eqI ha hb]
  exact ⟨id, id⟩
theorem sh_ne0 {a : Int} (ha : sh_Bd a) : (¬ Int32.ofInt a = (0 : Int32) → ¬ a = 0) ∧ (Int32.ofInt a = (0 : Int32) → a = 0) := by
  rw [sh_z]
  exact sh_ne ha sh_Bd0
theorem sh_lt {a b : Int} (ha : sh_Bd a) (hb : sh_Bd b) : (Int32.ofInt a < Int32.ofInt b → a < b) ∧ (¬ Int32.ofInt a < Int32.ofInt b → b ≤ a) := by
  simp only [sh_ltI ha hb]
  exact ⟨id, fun q => Int.not_lt.mp q⟩
theorem sh_lt0 {a : Int} (ha : sh_Bd a) : (Int32.ofInt a < (0 : Int32) → a < 0) ∧ (¬ Int32.ofInt a < (0 : Int32) → 0 ≤ a) := by
  rw [sh_z]
  exact sh_lt ha sh_Bd0
theorem sh_ge {a b : Int} (ha : sh_Bd a) (hb : sh_Bd b) : (Int32.ofInt b ≤ Int32.ofInt a → b ≤ a) ∧ (¬ Int32.ofInt b ≤ Int32.ofInt a → a < b) := by
  simp only [sh_leI hb ha]
  exact ⟨id, fun q => Int.not_le.mp q⟩
theorem sh_ge0 {a : Int} (ha : sh_Bd a) : ((0 : Int32) ≤ Int32.ofInt a → 0 ≤ a) ∧ (¬ (0 : Int32) ≤ Int32.ofInt a → a < 0) := by
  rw [sh_z]
  exact sh_ge ha sh_Bd0
theorem sh_gt {a b : Int} (ha : sh_Bd a) (hb : sh_Bd b) : (Int32.ofInt b < Int32.ofInt a → b < a) ∧ (¬ Int32.ofInt b < Int32.ofInt a → a ≤ b) := by
  simp only [sh_ltI hb ha]
  exact ⟨id, fun q => Int.not_lt.mp q⟩
theorem sh_gt0 {a : Int} (ha : sh_Bd a) : ((0 : Int32) < Int32.ofInt a → 0 < a) ∧ (¬ (0 : Int32) < Int32.ofInt a → a ≤ 0) := by
  rw [sh_z]
  exact sh_gt ha sh_Bd0
theorem sh_le {a b : Int} (ha : sh_Bd a) (hb : sh_Bd b) : (Int32.ofInt a ≤ Int32.ofInt b → a ≤ b) ∧ (¬ Int32.ofInt a ≤ Int32.ofInt b → b < a) := by
  simp only [sh_leI ha hb]
  exact ⟨id, fun q => Int.not_le.mp q⟩
theorem sh_le0 {a : Int} (ha : sh_Bd a) : (Int32.ofInt a ≤ (0 : Int32) → a ≤ 0) ∧ (¬ Int32.ofInt a ≤ (0 : Int32) → 0 < a) := by
  rw [sh_z]
  exact sh_le ha sh_Bd0
theorem sh_iconst {y : sh_M} {pc : Nat} {ls : List (Option sh_V)} {st : List sh_V} {cn : Nat × Nat} {σ : sh_St} {Q : Option Int → sh_St → Prop} {n v : Int} (hd : decode y.2.1 pc = .ok (.iconst n, 1)) (hv : n = v) (h : sh_O y (pc + 1) ls (.inl v :: st) cn σ Q) : sh_O y pc ls st cn σ Q := by
  intro p l e R s m args below meth c Z D A H0 ad ac H locs la hX hA hR hL hc hret
  subst hv
  exact lv_iconst hX.1 hX.2.1 hd rfl (h p l e R s m args below meth c Z D A H0 ad ac H locs la hX hA hR hL hc hret)
theorem sh_bipush {y : sh_M} {pc : Nat} {ls : List (Option sh_V)} {st : List sh_V} {cn : Nat × Nat} {σ : sh_St} {Q : Option Int → sh_St → Prop} {n v : Int} (hd : decode y.2.1 pc = .ok (.bipush n, 2)) (hv : (Int8.ofInt n).toInt32 = Int32.ofInt v) (h : sh_O y (pc + 2) ls (.inl v :: st) cn σ Q) : sh_O y pc ls st cn σ Q := by
  intro p l e R s m args below meth c Z D A H0 ad ac H locs la hX hA hR hL hc hret
  exact lv_bipush hX.1 hX.2.1 hd hv (h p l e R s m args below meth c Z D A H0 ad ac H locs la hX hA hR hL hc hret)
theorem sh_sipush {y : sh_M} {pc : Nat} {ls : List (Option sh_V)} {st : List sh_V} {cn : Nat × Nat} {σ : sh_St} {Q : Option Int → sh_St → Prop} {n v : Int} (hd : decode y.2.1 pc = .ok (.sipush n, 3)) (hv : (Int16.ofInt n).toInt32 = Int32.ofInt v) (h : sh_O y (pc + 3) ls (.inl v :: st) cn σ Q) : sh_O y pc ls st cn σ Q := by
  intro p l e R s m args below meth c Z D A H0 ad ac H locs la hX hA hR hL hc hret
  exact lv_sipush hX.1 hX.2.1 hd hv (h p l e R s m args below meth c Z D A H0 ad ac H locs la hX hA hR hL hc hret)
theorem sh_ldc {y : sh_M} {pc : Nat} {ls : List (Option sh_V)} {st : List sh_V} {cn : Nat × Nat} {σ : sh_St} {Q : Option Int → sh_St → Prop} {i : Nat} {v : Int} (hd : decode y.2.1 pc = .ok (.ldc i, 2)) (hw : Cond.constant y.1.cls i (Int32.ofInt v) ∈ sh_ws) (h : sh_O y (pc + 2) ls (.inl v :: st) cn σ Q) : sh_O y pc ls st cn σ Q := by
  intro p l e R s m args below meth c Z D A H0 ad ac H locs la hX hA hR hL hc hret
  exact lv_ldc hX.1 hX.2.1 hX.2.2.2.1 (hX.2.2.2.2.1 _ hw) hd (h p l e R s m args below meth c Z D A H0 ad ac H locs la hX hA hR hL hc hret)
theorem sh_iload_n {y : sh_M} {pc : Nat} {ls : List (Option sh_V)} {st : List sh_V} {cn : Nat × Nat} {σ : sh_St} {Q : Option Int → sh_St → Prop} {k : Fin 4} {i : Nat} {x : Int} (hd : decode y.2.1 pc = .ok (.iload_n k, 1)) (hi : (k : Nat) = i) (hl : ls[i]? = some (some (.inl x))) (h : sh_O y (pc + 1) ls (.inl x :: st) cn σ Q) : sh_O y pc ls st cn σ Q := by
  intro p l e R s m args below meth c Z D A H0 ad ac H locs la hX hA hR hL hc hret
  exact lv_iload_n hX.1 hX.2.1 hd hi (hL.2.2 i _ hl) (h p l e R s m args below meth c Z D A H0 ad ac H locs la hX hA hR hL hc hret)
theorem sh_iload {y : sh_M} {pc : Nat} {ls : List (Option sh_V)} {st : List sh_V} {cn : Nat × Nat} {σ : sh_St} {Q : Option Int → sh_St → Prop} {i : Nat} {x : Int} (hd : decode y.2.1 pc = .ok (.iload i, 2)) (hl : ls[i]? = some (some (.inl x))) (h : sh_O y (pc + 2) ls (.inl x :: st) cn σ Q) : sh_O y pc ls st cn σ Q := by
  intro p l e R s m args below meth c Z D A H0 ad ac H locs la hX hA hR hL hc hret
  exact lv_iload hX.1 hX.2.1 hd (hL.2.2 i _ hl) (h p l e R s m args below meth c Z D A H0 ad ac H locs la hX hA hR hL hc hret)
theorem sh_aload_n {y : sh_M} {pc : Nat} {ls : List (Option sh_V)} {st : List sh_V} {cn : Nat × Nat} {σ : sh_St} {Q : Option Int → sh_St → Prop} {k : Fin 4} {i x : Nat} (hd : decode y.2.1 pc = .ok (.aload_n k, 1)) (hi : (k : Nat) = i) (hl : ls[i]? = some (some (.inr x))) (h : sh_O y (pc + 1) ls (.inr x :: st) cn σ Q) : sh_O y pc ls st cn σ Q := by
  intro p l e R s m args below meth c Z D A H0 ad ac H locs la hX hA hR hL hc hret
  exact lv_aload_n hX.1 hX.2.1 hd hi (hL.2.2 i _ hl) (h p l e R s m args below meth c Z D A H0 ad ac H locs la hX hA hR hL hc hret)
theorem sh_aload {y : sh_M} {pc : Nat} {ls : List (Option sh_V)} {st : List sh_V} {cn : Nat × Nat} {σ : sh_St} {Q : Option Int → sh_St → Prop} {i x : Nat} (hd : decode y.2.1 pc = .ok (.aload i, 2)) (hl : ls[i]? = some (some (.inr x))) (h : sh_O y (pc + 2) ls (.inr x :: st) cn σ Q) : sh_O y pc ls st cn σ Q := by
  intro p l e R s m args below meth c Z D A H0 ad ac H locs la hX hA hR hL hc hret
  exact lv_aload hX.1 hX.2.1 hd (hL.2.2 i _ hl) (h p l e R s m args below meth c Z D A H0 ad ac H locs la hX hA hR hL hc hret)
theorem sh_iadd {y : sh_M} {pc : Nat} {ls : List (Option sh_V)} {st : List sh_V} {cn : Nat × Nat} {σ : sh_St} {Q : Option Int → sh_St → Prop} {a b : Int} (hd : decode y.2.1 pc = .ok (.iadd, 1)) (h : sh_O y (pc + 1) ls (.inl (a + b) :: st) cn σ Q) : sh_O y pc ls (.inl b :: .inl a :: st) cn σ Q := by
  intro p l e R s m args below meth c Z D A H0 ad ac H locs la hX hA hR hL hc hret
  refine lv_iadd hX.1 hX.2.1 hd ?_
  rw [← Int32.ofInt_add]
  exact h p l e R s m args below meth c Z D A H0 ad ac H locs la hX hA hR hL hc hret
theorem sh_isub {y : sh_M} {pc : Nat} {ls : List (Option sh_V)} {st : List sh_V} {cn : Nat × Nat} {σ : sh_St} {Q : Option Int → sh_St → Prop} {a b : Int} (hd : decode y.2.1 pc = .ok (.isub, 1)) (h : sh_O y (pc + 1) ls (.inl (a - b) :: st) cn σ Q) : sh_O y pc ls (.inl b :: .inl a :: st) cn σ Q := by
  intro p l e R s m args below meth c Z D A H0 ad ac H locs la hX hA hR hL hc hret
  refine lv_isub hX.1 hX.2.1 hd ?_
  rw [← Int32.ofInt_sub]
  exact h p l e R s m args below meth c Z D A H0 ad ac H locs la hX hA hR hL hc hret
theorem sh_imul {y : sh_M} {pc : Nat} {ls : List (Option sh_V)} {st : List sh_V} {cn : Nat × Nat} {σ : sh_St} {Q : Option Int → sh_St → Prop} {a b : Int} (hd : decode y.2.1 pc = .ok (.imul, 1)) (h : sh_O y (pc + 1) ls (.inl (a * b) :: st) cn σ Q) : sh_O y pc ls (.inl b :: .inl a :: st) cn σ Q := by
  intro p l e R s m args below meth c Z D A H0 ad ac H locs la hX hA hR hL hc hret
  refine lv_imul hX.1 hX.2.1 hd ?_
  rw [← Int32.ofInt_mul]
  exact h p l e R s m args below meth c Z D A H0 ad ac H locs la hX hA hR hL hc hret
theorem sh_ineg {y : sh_M} {pc : Nat} {ls : List (Option sh_V)} {st : List sh_V} {cn : Nat × Nat} {σ : sh_St} {Q : Option Int → sh_St → Prop} {a : Int} (hd : decode y.2.1 pc = .ok (.ineg, 1)) (h : sh_O y (pc + 1) ls (.inl (-a) :: st) cn σ Q) : sh_O y pc ls (.inl a :: st) cn σ Q := by
  intro p l e R s m args below meth c Z D A H0 ad ac H locs la hX hA hR hL hc hret
  refine lv_ineg hX.1 hX.2.1 hd ?_
  rw [← Int32.ofInt_neg]
  exact h p l e R s m args below meth c Z D A H0 ad ac H locs la hX hA hR hL hc hret
theorem sh_idiv {y : sh_M} {pc : Nat} {ls : List (Option sh_V)} {st : List sh_V} {cn : Nat × Nat} {σ : sh_St} {Q : Option Int → sh_St → Prop} {a b : Int} (hd : decode y.2.1 pc = .ok (.idiv, 1)) (ha : 0 ≤ a) (ha2 : a < 2147483648) (hb0 : 0 < b) (hb2 : b < 2147483648) (h : sh_O y (pc + 1) ls (.inl (a / b) :: st) cn σ Q) : sh_O y pc ls (.inl b :: .inl a :: st) cn σ Q := by
  intro p l e R s m args below meth c Z D A H0 ad ac H locs la hX hA hR hL hc hret
  refine lv_idiv hX.1 hX.2.1 hd (sh_nz hb0 hb2) ?_
  rw [sh_div ha ha2 hb0 hb2]
  exact h p l e R s m args below meth c Z D A H0 ad ac H locs la hX hA hR hL hc hret
theorem sh_irem {y : sh_M} {pc : Nat} {ls : List (Option sh_V)} {st : List sh_V} {cn : Nat × Nat} {σ : sh_St} {Q : Option Int → sh_St → Prop} {a b : Int} (hd : decode y.2.1 pc = .ok (.irem, 1)) (ha : 0 ≤ a) (ha2 : a < 2147483648) (hb0 : 0 < b) (hb2 : b < 2147483648) (h : sh_O y (pc + 1) ls (.inl (a % b) :: st) cn σ Q) : sh_O y pc ls (.inl b :: .inl a :: st) cn σ Q := by
  intro p l e R s m args below meth c Z D A H0 ad ac H locs la hX hA hR hL hc hret
  refine lv_irem hX.1 hX.2.1 hd (sh_nz hb0 hb2) ?_
  rw [sh_mod ha ha2 hb0 hb2]
  exact h p l e R s m args below meth c Z D A H0 ad ac H locs la hX hA hR hL hc hret
theorem sh_iand31 {y : sh_M} {pc : Nat} {ls : List (Option sh_V)} {st : List sh_V} {cn : Nat × Nat} {σ : sh_St} {Q : Option Int → sh_St → Prop} {a : Int} (hd : decode y.2.1 pc = .ok (.iand, 1)) (h : sh_O y (pc + 1) ls (.inl (a % 32) :: st) cn σ Q) : sh_O y pc ls (.inl 31 :: .inl a :: st) cn σ Q := by
  intro p l e R s m args below meth c Z D A H0 ad ac H locs la hX hA hR hL hc hret
  refine lv_iand hX.1 hX.2.1 hd ?_
  rw [sh_and31]
  exact h p l e R s m args below meth c Z D A H0 ad ac H locs la hX hA hR hL hc hret
theorem sh_i2c {y : sh_M} {pc : Nat} {ls : List (Option sh_V)} {st : List sh_V} {cn : Nat × Nat} {σ : sh_St} {Q : Option Int → sh_St → Prop} {a : Int} (hd : decode y.2.1 pc = .ok (.i2c, 1)) (h : sh_O y (pc + 1) ls (.inl (a % 65536) :: st) cn σ Q) : sh_O y pc ls (.inl a :: st) cn σ Q := by
  intro p l e R s m args below meth c Z D A H0 ad ac H locs la hX hA hR hL hc hret
  exact lv_i2c hX.1 hX.2.1 hd (sh_i2cV a) (h p l e R s m args below meth c Z D A H0 ad ac H locs la hX hA hR hL hc hret)
theorem sh_dup {y : sh_M} {pc : Nat} {ls : List (Option sh_V)} {st : List sh_V} {cn : Nat × Nat} {σ : sh_St} {Q : Option Int → sh_St → Prop} {v : sh_V} (hd : decode y.2.1 pc = .ok (.dup, 1)) (h : sh_O y (pc + 1) ls (v :: v :: st) cn σ Q) : sh_O y pc ls (v :: st) cn σ Q := by
  intro p l e R s m args below meth c Z D A H0 ad ac H locs la hX hA hR hL hc hret
  exact lv_dup hX.1 hX.2.1 hd (sh_tr_cat ad v) (h p l e R s m args below meth c Z D A H0 ad ac H locs la hX hA hR hL hc hret)
theorem sh_dup2 {y : sh_M} {pc : Nat} {ls : List (Option sh_V)} {st : List sh_V} {cn : Nat × Nat} {σ : sh_St} {Q : Option Int → sh_St → Prop} {v w : sh_V} (hd : decode y.2.1 pc = .ok (.dup2, 1)) (h : sh_O y (pc + 1) ls (v :: w :: v :: w :: st) cn σ Q) : sh_O y pc ls (v :: w :: st) cn σ Q := by
  intro p l e R s m args below meth c Z D A H0 ad ac H locs la hX hA hR hL hc hret
  exact lv_dup2_11 hX.1 hX.2.1 hd (sh_tr_cat ad v) (sh_tr_cat ad w) (h p l e R s m args below meth c Z D A H0 ad ac H locs la hX hA hR hL hc hret)
theorem sh_pop {y : sh_M} {pc : Nat} {ls : List (Option sh_V)} {st : List sh_V} {cn : Nat × Nat} {σ : sh_St} {Q : Option Int → sh_St → Prop} {v : sh_V} (hd : decode y.2.1 pc = .ok (.pop, 1)) (h : sh_O y (pc + 1) ls st cn σ Q) : sh_O y pc ls (v :: st) cn σ Q := by
  intro p l e R s m args below meth c Z D A H0 ad ac H locs la hX hA hR hL hc hret
  exact lv_pop hX.1 hX.2.1 hd (sh_tr_cat ad v) (h p l e R s m args below meth c Z D A H0 ad ac H locs la hX hA hR hL hc hret)
theorem sh_goto {y : sh_M} {pc : Nat} {ls : List (Option sh_V)} {st : List sh_V} {cn : Nat × Nat} {σ : sh_St} {Q : Option Int → sh_St → Prop} {off : Int} {tgt : Nat} (hd : decode y.2.1 pc = .ok (.goto off, 3)) (ht : (pc : Int) + off = (tgt : Int)) (h : sh_O y tgt ls st cn σ Q) : sh_O y pc ls st cn σ Q := by
  intro p l e R s m args below meth c Z D A H0 ad ac H locs la hX hA hR hL hc hret
  exact lv_goto hX.1 hX.2.1 hd ht (h p l e R s m args below meth c Z D A H0 ad ac H locs la hX hA hR hL hc hret)
theorem sh_ifnonnull {y : sh_M} {pc : Nat} {ls : List (Option sh_V)} {st : List sh_V} {cn : Nat × Nat} {σ : sh_St} {Q : Option Int → sh_St → Prop} {off : Int} {tgt x : Nat} (hd : decode y.2.1 pc = .ok (.ifnonnull off, 3)) (ht : (pc : Int) + off = (tgt : Int)) (h : sh_O y tgt ls st cn σ Q) : sh_O y pc ls (.inr x :: st) cn σ Q := by
  intro p l e R s m args below meth c Z D A H0 ad ac H locs la hX hA hR hL hc hret
  exact lv_ifnonnull hX.1 hX.2.1 hd ht (h p l e R s m args below meth c Z D A H0 ad ac H locs la hX hA hR hL hc hret)
theorem sh_icmp_eq {y : sh_M} {pc : Nat} {ls : List (Option sh_V)} {st : List sh_V} {cn : Nat × Nat} {σ : sh_St} {Q : Option Int → sh_St → Prop} {a b off : Int} {tgt : Nat} (hd : decode y.2.1 pc = .ok (.if_icmp .eq off, 3)) (ht : (pc : Int) + off = (tgt : Int)) (ha : sh_Bd a) (hb : sh_Bd b) (h1 : a = b → sh_O y tgt ls st cn σ Q) (h2 : ¬ a = b → sh_O y (pc + 3) ls st cn σ Q) : sh_O y pc ls (.inl b :: .inl a :: st) cn σ Q := by
  intro p l e R s m args below meth c Z D A H0 ad ac H locs la hX hA hR hL hc hret
  exact lv_icmp_eq hX.1 hX.2.1 hd ht (fun q => h1 ((sh_eq ha hb).1 q) p l e R s m args below meth c Z D A H0 ad ac H locs la hX hA hR hL hc hret) (fun q => h2 ((sh_eq ha hb).2 q) p l e R s m args below meth c Z D A H0 ad ac H locs la hX hA hR hL hc hret)
theorem sh_if_eq {y : sh_M} {pc : Nat} {ls : List (Option sh_V)} {st : List sh_V} {cn : Nat × Nat} {σ : sh_St} {Q : Option Int → sh_St → Prop} {a off : Int} {tgt : Nat} (hd : decode y.2.1 pc = .ok (.ifCond .eq off, 3)) (ht : (pc : Int) + off = (tgt : Int)) (ha : sh_Bd a) (h1 : a = 0 → sh_O y tgt ls st cn σ Q) (h2 : ¬ a = 0 → sh_O y (pc + 3) ls st cn σ Q) : sh_O y pc ls (.inl a :: st) cn σ Q := by
  intro p l e R s m args below meth c Z D A H0 ad ac H locs la hX hA hR hL hc hret
  exact lv_if_eq hX.1 hX.2.1 hd ht (fun q => h1 ((sh_eq0 ha).1 q) p l e R s m args below meth c Z D A H0 ad ac H locs la hX hA hR hL hc hret) (fun q => h2 ((sh_eq0 ha).2 q) p l e R s m args below meth c Z D A H0 ad ac H locs la hX hA hR hL hc hret)
theorem sh_icmp_ne {y : sh_M} {pc : Nat} {ls : List (Option sh_V)} {st : List sh_V} {cn : Nat × Nat} {σ : sh_St} {Q : Option Int → sh_St → Prop} {a b off : Int} {tgt : Nat} (hd : decode y.2.1 pc = .ok (.if_icmp .ne off, 3)) (ht : (pc : Int) + off = (tgt : Int)) (ha : sh_Bd a) (hb : sh_Bd b) (h1 : ¬ a = b → sh_O y tgt ls st cn σ Q) (h2 : a = b → sh_O y (pc + 3) ls st cn σ Q) : sh_O y pc ls (.inl b :: .inl a :: st) cn σ Q := by
  intro p l e R s m args below meth c Z D A H0 ad ac H locs la hX hA hR hL hc hret
  exact lv_icmp_ne hX.1 hX.2.1 hd ht (fun q => h1 ((sh_ne ha hb).1 q) p l e R s m args below meth c Z D A H0 ad ac H locs la hX hA hR hL hc hret) (fun q => h2 ((sh_ne ha hb).2 q) p l e R s m args below meth c Z D A H0 ad ac H locs la hX hA hR hL hc hret)
theorem sh_if_ne {y : sh_M} {pc : Nat} {ls : List (Option sh_V)} {st : List sh_V} {cn : Nat × Nat} {σ : sh_St} {Q : Option Int → sh_St → Prop} {a off : Int} {tgt : Nat} (hd : decode y.2.1 pc = .ok (.ifCond .ne off, 3)) (ht : (pc : Int) + off = (tgt : Int)) (ha : sh_Bd a) (h1 : ¬ a = 0 → sh_O y tgt ls st cn σ Q) (h2 : a = 0 → sh_O y (pc + 3) ls st cn σ Q) : sh_O y pc ls (.inl a :: st) cn σ Q := by
  intro p l e R s m args below meth c Z D A H0 ad ac H locs la hX hA hR hL hc hret
  exact lv_if_ne hX.1 hX.2.1 hd ht (fun q => h1 ((sh_ne0 ha).1 q) p l e R s m args below meth c Z D A H0 ad ac H locs la hX hA hR hL hc hret) (fun q => h2 ((sh_ne0 ha).2 q) p l e R s m args below meth c Z D A H0 ad ac H locs la hX hA hR hL hc hret)
theorem sh_icmp_lt {y : sh_M} {pc : Nat} {ls : List (Option sh_V)} {st : List sh_V} {cn : Nat × Nat} {σ : sh_St} {Q : Option Int → sh_St → Prop} {a b off : Int} {tgt : Nat} (hd : decode y.2.1 pc = .ok (.if_icmp .lt off, 3)) (ht : (pc : Int) + off = (tgt : Int)) (ha : sh_Bd a) (hb : sh_Bd b) (h1 : a < b → sh_O y tgt ls st cn σ Q) (h2 : b ≤ a → sh_O y (pc + 3) ls st cn σ Q) : sh_O y pc ls (.inl b :: .inl a :: st) cn σ Q := by
  intro p l e R s m args below meth c Z D A H0 ad ac H locs la hX hA hR hL hc hret
  exact lv_icmp_lt hX.1 hX.2.1 hd ht (fun q => h1 ((sh_lt ha hb).1 q) p l e R s m args below meth c Z D A H0 ad ac H locs la hX hA hR hL hc hret) (fun q => h2 ((sh_lt ha hb).2 q) p l e R s m args below meth c Z D A H0 ad ac H locs la hX hA hR hL hc hret)
theorem sh_if_lt {y : sh_M} {pc : Nat} {ls : List (Option sh_V)} {st : List sh_V} {cn : Nat × Nat} {σ : sh_St} {Q : Option Int → sh_St → Prop} {a off : Int} {tgt : Nat} (hd : decode y.2.1 pc = .ok (.ifCond .lt off, 3)) (ht : (pc : Int) + off = (tgt : Int)) (ha : sh_Bd a) (h1 : a < 0 → sh_O y tgt ls st cn σ Q) (h2 : 0 ≤ a → sh_O y (pc + 3) ls st cn σ Q) : sh_O y pc ls (.inl a :: st) cn σ Q := by
  intro p l e R s m args below meth c Z D A H0 ad ac H locs la hX hA hR hL hc hret
  exact lv_if_lt hX.1 hX.2.1 hd ht (fun q => h1 ((sh_lt0 ha).1 q) p l e R s m args below meth c Z D A H0 ad ac H locs la hX hA hR hL hc hret) (fun q => h2 ((sh_lt0 ha).2 q) p l e R s m args below meth c Z D A H0 ad ac H locs la hX hA hR hL hc hret)
theorem sh_icmp_ge {y : sh_M} {pc : Nat} {ls : List (Option sh_V)} {st : List sh_V} {cn : Nat × Nat} {σ : sh_St} {Q : Option Int → sh_St → Prop} {a b off : Int} {tgt : Nat} (hd : decode y.2.1 pc = .ok (.if_icmp .ge off, 3)) (ht : (pc : Int) + off = (tgt : Int)) (ha : sh_Bd a) (hb : sh_Bd b) (h1 : b ≤ a → sh_O y tgt ls st cn σ Q) (h2 : a < b → sh_O y (pc + 3) ls st cn σ Q) : sh_O y pc ls (.inl b :: .inl a :: st) cn σ Q := by
  intro p l e R s m args below meth c Z D A H0 ad ac H locs la hX hA hR hL hc hret
  exact lv_icmp_ge hX.1 hX.2.1 hd ht (fun q => h1 ((sh_ge ha hb).1 q) p l e R s m args below meth c Z D A H0 ad ac H locs la hX hA hR hL hc hret) (fun q => h2 ((sh_ge ha hb).2 q) p l e R s m args below meth c Z D A H0 ad ac H locs la hX hA hR hL hc hret)
theorem sh_if_ge {y : sh_M} {pc : Nat} {ls : List (Option sh_V)} {st : List sh_V} {cn : Nat × Nat} {σ : sh_St} {Q : Option Int → sh_St → Prop} {a off : Int} {tgt : Nat} (hd : decode y.2.1 pc = .ok (.ifCond .ge off, 3)) (ht : (pc : Int) + off = (tgt : Int)) (ha : sh_Bd a) (h1 : 0 ≤ a → sh_O y tgt ls st cn σ Q) (h2 : a < 0 → sh_O y (pc + 3) ls st cn σ Q) : sh_O y pc ls (.inl a :: st) cn σ Q := by
  intro p l e R s m args below meth c Z D A H0 ad ac H locs la hX hA hR hL hc hret
  exact lv_if_ge hX.1 hX.2.1 hd ht (fun q => h1 ((sh_ge0 ha).1 q) p l e R s m args below meth c Z D A H0 ad ac H locs la hX hA hR hL hc hret) (fun q => h2 ((sh_ge0 ha).2 q) p l e R s m args below meth c Z D A H0 ad ac H locs la hX hA hR hL hc hret)
theorem sh_icmp_gt {y : sh_M} {pc : Nat} {ls : List (Option sh_V)} {st : List sh_V} {cn : Nat × Nat} {σ : sh_St} {Q : Option Int → sh_St → Prop} {a b off : Int} {tgt : Nat} (hd : decode y.2.1 pc = .ok (.if_icmp .gt off, 3)) (ht : (pc : Int) + off = (tgt : Int)) (ha : sh_Bd a) (hb : sh_Bd b) (h1 : b < a → sh_O y tgt ls st cn σ Q) (h2 : a ≤ b → sh_O y (pc + 3) ls st cn σ Q) : sh_O y pc ls (.inl b :: .inl a :: st) cn σ Q := by
  intro p l e R s m args below meth c Z D A H0 ad ac H locs la hX hA hR hL hc hret
  exact lv_icmp_gt hX.1 hX.2.1 hd ht (fun q => h1 ((sh_gt ha hb).1 q) p l e R s m args below meth c Z D A H0 ad ac H locs la hX hA hR hL hc hret) (fun q => h2 ((sh_gt ha hb).2 q) p l e R s m args below meth c Z D A H0 ad ac H locs la hX hA hR hL hc hret)
theorem sh_if_gt {y : sh_M} {pc : Nat} {ls : List (Option sh_V)} {st : List sh_V} {cn : Nat × Nat} {σ : sh_St} {Q : Option Int → sh_St → Prop} {a off : Int} {tgt : Nat} (hd : decode y.2.1 pc = .ok (.ifCond .gt off, 3)) (ht : (pc : Int) + off = (tgt : Int)) (ha : sh_Bd a) (h1 : 0 < a → sh_O y tgt ls st cn σ Q) (h2 : a ≤ 0 → sh_O y (pc + 3) ls st cn σ Q) : sh_O y pc ls (.inl a :: st) cn σ Q := by
  intro p l e R s m args below meth c Z D A H0 ad ac H locs la hX hA hR hL hc hret
  exact lv_if_gt hX.1 hX.2.1 hd ht (fun q => h1 ((sh_gt0 ha).1 q) p l e R s m args below meth c Z D A H0 ad ac H locs la hX hA hR hL hc hret) (fun q => h2 ((sh_gt0 ha).2 q) p l e R s m args below meth c Z D A H0 ad ac H locs la hX hA hR hL hc hret)
theorem sh_icmp_le {y : sh_M} {pc : Nat} {ls : List (Option sh_V)} {st : List sh_V} {cn : Nat × Nat} {σ : sh_St} {Q : Option Int → sh_St → Prop} {a b off : Int} {tgt : Nat} (hd : decode y.2.1 pc = .ok (.if_icmp .le off, 3)) (ht : (pc : Int) + off = (tgt : Int)) (ha : sh_Bd a) (hb : sh_Bd b) (h1 : a ≤ b → sh_O y tgt ls st cn σ Q) (h2 : b < a → sh_O y (pc + 3) ls st cn σ Q) : sh_O y pc ls (.inl b :: .inl a :: st) cn σ Q := by
  intro p l e R s m args below meth c Z D A H0 ad ac H locs la hX hA hR hL hc hret
  exact lv_icmp_le hX.1 hX.2.1 hd ht (fun q => h1 ((sh_le ha hb).1 q) p l e R s m args below meth c Z D A H0 ad ac H locs la hX hA hR hL hc hret) (fun q => h2 ((sh_le ha hb).2 q) p l e R s m args below meth c Z D A H0 ad ac H locs la hX hA hR hL hc hret)
theorem sh_if_le {y : sh_M} {pc : Nat} {ls : List (Option sh_V)} {st : List sh_V} {cn : Nat × Nat} {σ : sh_St} {Q : Option Int → sh_St → Prop} {a off : Int} {tgt : Nat} (hd : decode y.2.1 pc = .ok (.ifCond .le off, 3)) (ht : (pc : Int) + off = (tgt : Int)) (ha : sh_Bd a) (h1 : a ≤ 0 → sh_O y tgt ls st cn σ Q) (h2 : 0 < a → sh_O y (pc + 3) ls st cn σ Q) : sh_O y pc ls (.inl a :: st) cn σ Q := by
  intro p l e R s m args below meth c Z D A H0 ad ac H locs la hX hA hR hL hc hret
  exact lv_if_le hX.1 hX.2.1 hd ht (fun q => h1 ((sh_le0 ha).1 q) p l e R s m args below meth c Z D A H0 ad ac H locs la hX hA hR hL hc hret) (fun q => h2 ((sh_le0 ha).2 q) p l e R s m args below meth c Z D A H0 ad ac H locs la hX hA hR hL hc hret)
/-! locals -/
def sh_lv (ad : Nat → Nat) (ls : List (Option sh_V)) : List (Nat × Value) := (List.range ls.length).filterMap (fun i => match ls[i]? with
  | some (some v) => some (i, sh_tr ad v)
  | _ => none)
theorem sh_lv_mem {ad : Nat → Nat} {ls : List (Option sh_V)} {q : Nat × Value} : q ∈ sh_lv ad ls ↔ ∃ v, ls[q.1]? = some (some v) ∧ q.2 = sh_tr ad v := by
  simp only [sh_lv, List.mem_filterMap, List.mem_range]
  constructor
  · rintro ⟨i, hi, h⟩
    split at h
    · next v hv =>
      cases h
      exact ⟨v, hv, rfl⟩
    · cases h
  · rintro ⟨v, hv, h⟩
    refine ⟨q.1, (List.getElem?_eq_some_iff.mp hv).1, ?_⟩
    rw [hv]
    simp [← h]
theorem sh_L.has {ad : Nat → Nat} {la : Array Slot} {n : Nat} {ls : List (Option sh_V)} (h : sh_L ad la n ls) : lv_has la n (sh_lv ad ls) := by
  refine ⟨h.1, h.2.1, fun q hq => ?_⟩
  obtain ⟨v, h1, h2⟩ := sh_lv_mem.mp hq
  rw [h2]
  exact h.2.2 q.1 v h1
theorem sh_L.set {ad : Nat → Nat} {la : Array Slot} {n i : Nat} {ls : List (Option sh_V)} {v : sh_V} (h : lv_has la n ((i, sh_tr ad v) :: (sh_lv ad ls).filter (fun q => !(q.1 == i) && !(q.1 + 1 == i && q.2.category == 2)))) : sh_L ad la n (ls.set i (some v)) := by
  refine ⟨h.1, h.2.1, fun j w hj => ?_⟩
  by_cases hji : i = j
  · subst hji
    rw [List.getElem?_set_self'] at hj
    have hv : v = w := by
      cases hq : ls[i]? with
      | none => rw [hq] at hj; cases hj
      | some z => rw [hq] at hj; simpa using hj
    rw [← hv]
    exact h.2.2 _ List.mem_cons_self
  · rw [List.getElem?_set_ne hji] at hj
    refine h.2.2 (j, sh_tr ad w) (List.mem_cons_of_mem _ (List.mem_filter.mpr ⟨sh_lv_mem.mpr ⟨w, hj, rfl⟩, ?_⟩))
    have hne : ¬ j = i := fun e => hji e.symm
    simp [hne, sh_tr_cat]
theorem sh_istore_n {y : sh_M} {pc : Nat} {ls : List (Option sh_V)} {st : List sh_V} {cn : Nat × Nat} {σ : sh_St} {Q : Option Int → sh_St → Prop} {k : Fin 4} {i : Nat} {x : Int} (hd : decode y.2.1 pc = .ok (.istore_n k, 1)) (hi : (k : Nat) = i) (hn : i < y.2.2.1) (h : sh_O y (pc + 1) (ls.set i (some (.inl x))) st cn σ Q) : sh_O y pc ls (.inl x :: st) cn σ Q := by
  intro p l e R s m args below meth c Z D A H0 ad ac H locs la hX hA hR hL hc hret
  exact lv_istore_n hX.1 hX.2.1 hd hi hL.has hn rfl (fun la' hl' => h p l e R s m args below meth c Z D A H0 ad ac H locs la' hX hA hR (sh_L.set (v := .inl x) hl') hc hret)
theorem sh_istore {y : sh_M} {pc : Nat} {ls : List (Option sh_V)} {st : List sh_V} {cn : Nat × Nat} {σ : sh_St} {Q : Option Int → sh_St → Prop} {i : Nat} {x : Int} (hd : decode y.2.1 pc = .ok (.istore i, 2)) (hn : i < y.2.2.1) (h : sh_O y (pc + 2) (ls.set i (some (.inl x))) st cn σ Q) : sh_O y pc ls (.inl x :: st) cn σ Q := by
  intro p l e R s m args below meth c Z D A H0 ad ac H locs la hX hA hR hL hc hret
  exact lv_istore hX.1 hX.2.1 hd hL.has hn rfl (fun la' hl' => h p l e R s m args below meth c Z D A H0 ad ac H locs la' hX hA hR (sh_L.set (v := .inl x) hl') hc hret)
theorem sh_astore_n {y : sh_M} {pc : Nat} {ls : List (Option sh_V)} {st : List sh_V} {cn : Nat × Nat} {σ : sh_St} {Q : Option Int → sh_St → Prop} {k : Fin 4} {i x : Nat} (hd : decode y.2.1 pc = .ok (.astore_n k, 1)) (hi : (k : Nat) = i) (hn : i < y.2.2.1) (h : sh_O y (pc + 1) (ls.set i (some (.inr x))) st cn σ Q) : sh_O y pc ls (.inr x :: st) cn σ Q := by
  intro p l e R s m args below meth c Z D A H0 ad ac H locs la hX hA hR hL hc hret
  exact lv_astore_n hX.1 hX.2.1 hd hi hL.has hn rfl (fun la' hl' => h p l e R s m args below meth c Z D A H0 ad ac H locs la' hX hA hR (sh_L.set (v := .inr x) hl') hc hret)
theorem sh_iinc {y : sh_M} {pc : Nat} {ls : List (Option sh_V)} {st : List sh_V} {cn : Nat × Nat} {σ : sh_St} {Q : Option Int → sh_St → Prop} {i : Nat} {n x : Int} (hd : decode y.2.1 pc = .ok (.iinc i n, 3)) (hl : ls[i]? = some (some (.inl x))) (hn : i < y.2.2.1) (h : sh_O y (pc + 3) (ls.set i (some (.inl (x + n)))) st cn σ Q) : sh_O y pc ls st cn σ Q := by
  intro p l e R s m args below meth c Z D A H0 ad ac H locs la hX hA hR hL hc hret
  obtain ⟨k, hk⟩ := List.mem_iff_getElem?.mp (sh_lv_mem.mpr ⟨.inl x, hl, rfl⟩ : ((i, sh_tr ad (.inl x)) : Nat × Value) ∈ sh_lv ad ls)
  exact lv_iinc hX.1 hX.2.1 hd hL.has hk (Int32.ofInt_add x n).symm hn rfl (fun la' hl' => h p l e R s m args below meth c Z D A H0 ad ac H locs la' hX hA hR (sh_L.set (v := .inl (x + n)) hl') hc hret)
/-! fields -/
def sh_cls (ci : Nat) (C : String) (T : u_T) (N : Nat) : Prop := vwCl[ci]? = some (C, T, N) ∧ (∀ w ∈ u_ws C T N, w ∈ sh_ws) ∧ (∀ k, k < N → parseFieldDescriptor (T k).2.2.1 = some (sh_ty ci k)) ∧ (∀ a, a < N → ∀ b, b < N → a ≠ b → (T a).2.1 ≠ (T b).2.1) ∧ ci < 8
def sh_FL (own : String) (idx ci f N : Nat) (fin : Bool) : Prop := ∃ (C : String) (T : u_T), sh_cls ci C T N ∧ f < N ∧ Cond.fieldLink own idx (T f).1 (T f).2.1 (T f).2.2.1 ∈ sh_ws ∧ (T f).2.2.2 = fin
theorem sh_getI {y : sh_M} {pc : Nat} {ls : List (Option sh_V)} {st : List sh_V} {cn : Nat × Nat} {σ : sh_St} {Q : Option Int → sh_St → Prop} {idx ci f N o : Nat} {fin : Bool} {g : Int} (hd : decode y.2.1 pc = .ok (.getfield idx, 3)) (hl : sh_FL y.1.cls idx ci f N fin) (hi : sh_isr (sh_ty ci f) = false) (hk : sh_is σ.1 o ci N) (hg : (f : Int) = g) (h : sh_O y (pc + 3) ls (.inl (σ.2.1 o g) :: st) cn σ Q) : sh_O y pc ls (.inr o :: st) cn σ Q := by
  intro p l e R s m args below meth c Z D A H0 ad ac H locs la hX hA hR hL hc hret
  obtain ⟨C, T, hC, hf, hw, hfin⟩ := hl
  obtain ⟨h1, h2, h3, h4, h5⟩ := hC
  subst hg
  have he := sh_W_get (ad := ad) (ac := ac) hk
  rw [sh_E_obj h5] at he
  have hv := sh_fs_get (ad := ad) (I := σ.2.1) (P := σ.2.2) (k := o) (ci := ci) hf
  rw [hi, if_neg (by decide)] at hv
  exact va_get hX.1 hX.2.1 hX.2.2.2.2.1 h2 hX.2.2.2.1 hR.1.none hR.2.1 (o - 1) he h1 f hf (hX.2.2.2.2.1 _ hw) (fun _ h9 => h9) hv hd (h p l e R s m args below meth c Z D A H0 ad ac H locs la hX hA hR hL hc hret)
theorem sh_getR {y : sh_M} {pc : Nat} {ls : List (Option sh_V)} {st : List sh_V} {cn : Nat × Nat} {σ : sh_St} {Q : Option Int → sh_St → Prop} {idx ci f N o q : Nat} {fin : Bool} (hd : decode y.2.1 pc = .ok (.getfield idx, 3)) (hl : sh_FL y.1.cls idx ci f N fin) (hi : sh_isr (sh_ty ci f) = true) (hk : sh_is σ.1 o ci N) (hq : σ.2.2 o f = some q) (h : sh_O y (pc + 3) ls (.inr q :: st) cn σ Q) : sh_O y pc ls (.inr o :: st) cn σ Q := by
  intro p l e R s m args below meth c Z D A H0 ad ac H locs la hX hA hR hL hc hret
  obtain ⟨C, T, hC, hf, hw, hfin⟩ := hl
  obtain ⟨h1, h2, h3, h4, h5⟩ := hC
  have he := sh_W_get (ad := ad) (ac := ac) hk
  rw [sh_E_obj h5] at he
  have hv := sh_fs_get (ad := ad) (I := σ.2.1) (P := σ.2.2) (k := o) (ci := ci) hf
  rw [hi, if_pos rfl, hq] at hv
  exact va_get hX.1 hX.2.1 hX.2.2.2.2.1 h2 hX.2.2.2.1 hR.1.none hR.2.1 (o - 1) he h1 f hf (hX.2.2.2.2.1 _ hw) (fun _ h9 => h9) hv hd (h p l e R s m args below meth c Z D A H0 ad ac H locs la hX hA hR hL hc hret)
theorem sh_R.putI {D : va_G} {ad : Nat → Nat} {ac : Nat → ClassId} {n o : Nat} {I : sh_Mem} {P : sh_Ptr} {A : Nat → Prop} {s : State} {H0 H H1 : Heap} {locs locs1 : List Loc} {f v : Int} (hR : sh_R D ad ac (n, I, P) A s H0 H locs) (ho : 0 < o) (hP : va_P D vwCl (sh_W ad ac (n, sh_u I o f v, P)) H1) (hD : va_D A (sh_W ad ac (n, sh_u I o f v, P))) (hS : va_S A H0 H1 locs1) : sh_R D ad ac (n, sh_u I o f v, P) A s H0 H1 locs1 := by
  obtain ⟨a, -, -, -, b, c, d, e, g⟩ := hR
  have h0 : sh_u I o f v 0 = I 0 := sh_u_ne (by omega)
  refine ⟨a, hP, hD, hS, ?_, c, d, e, g⟩
  show va_X (ad 0) (sh_u I o f v 0 0).toNat (fun j => Int32.ofInt (sh_u I o f v 0 ((j : Int) + 1))) s H0
  rw [h0]
  exact b
theorem sh_putI {y : sh_M} {pc : Nat} {ls : List (Option sh_V)} {st : List sh_V} {cn : Nat × Nat} {n : Nat} {I : sh_Mem} {P : sh_Ptr} {Q : Option Int → sh_St → Prop} {idx ci f N o : Nat} {g v : Int} (hd : decode y.2.1 pc = .ok (.putfield idx, 3)) (hl : sh_FL y.1.cls idx ci f N false) (hi : sh_isr (sh_ty ci f) = false) (hk : sh_is n o ci N) (hg : (f : Int) = g) (hn : narrow (sh_ty ci f) (.int (Int32.ofInt v)) = .int (Int32.ofInt v)) (hfit : fits (sh_ty ci f) (.int (Int32.ofInt v)) = true) (h : sh_O y (pc + 3) ls st cn (n, sh_u I o g v, P) Q) : sh_O y pc ls (.inl v :: .inr o :: st) cn (n, I, P) Q := by
  intro p l e R s m args below meth c Z D A H0 ad ac H locs la hX hA hR hL hc hret
  obtain ⟨C, T, hC, hf, hw, hfin⟩ := hl
  obtain ⟨h1, h2, h3, h4, h5⟩ := hC
  subst hg
  have he := sh_W_get (ad := ad) (ac := ac) (σ := (n, I, P)) hk
  rw [sh_E_obj h5] at he
  refine va_put hX.1 hX.2.1 hX.2.2.2.2.1 h2 (sh_ty ci) h3 h4 hX.2.2.2.1 hR.1.none hR.2.1 hR.2.2.1 hR.2.2.2.1 (o - 1) he h1 f hf (hX.2.2.2.2.1 _ hw) (fun _ h9 => h9) hfin (h3 f hf) hn hfit (by rw [sh_fs_len]; exact hf) hd (fun H1 locs1 hP1 hD1 hS1 => ?_)
  have e1 : (sh_W ad ac (n, I, P)).set (o - 1) (ad o, .inr (ci, (sh_fs ad I P o ci N).set f (.int (Int32.ofInt v)))) = sh_W ad ac (n, sh_u I o (f : Int) v, P) :=
    sh_W_set hk (fun k hk2 => sh_u_ne hk2) (fun _ _ => rfl) (by rw [sh_E_obj h5, sh_fs_setI hi])
  exact h p l e R s m args below meth c Z D A H0 ad ac H1 locs1 la hX hA (hR.putI hk.2.2 (by rw [← e1]; exact hP1) (by rw [← e1]; exact hD1) hS1) hL hc hret
theorem sh_putIF {y : sh_M} {pc : Nat} {ls : List (Option sh_V)} {st : List sh_V} {cn : Nat × Nat} {n : Nat} {I : sh_Mem} {P : sh_Ptr} {Q : Option Int → sh_St → Prop} {idx ci f N o : Nat} {g v : Int} (hd : decode y.2.1 pc = .ok (.putfield idx, 3)) (hl : sh_FL y.1.cls idx ci f N true) (hy : y.1.name = "<init>") (hown : ∀ (C : String) (T : u_T), vwCl[ci]? = some (C, T, N) → (T f).1 = y.1.cls) (hi : sh_isr (sh_ty ci f) = false) (hk : sh_is n o ci N) (hg : (f : Int) = g) (hn : narrow (sh_ty ci f) (.int (Int32.ofInt v)) = .int (Int32.ofInt v)) (hfit : fits (sh_ty ci f) (.int (Int32.ofInt v)) = true) (h : sh_O y (pc + 3) ls st cn (n, sh_u I o g v, P) Q) : sh_O y pc ls (.inl v :: .inr o :: st) cn (n, I, P) Q := by
  intro p l e R s m args below meth c Z D A H0 ad ac H locs la hX hA hR hL hc hret
  obtain ⟨C, T, hC, hf, hw, hfin⟩ := hl
  obtain ⟨h1, h2, h3, h4, h5⟩ := hC
  subst hg
  have he := sh_W_get (ad := ad) (ac := ac) (σ := (n, I, P)) hk
  rw [sh_E_obj h5] at he
  refine va_putF hX.1 hX.2.1 hX.2.2.2.2.1 h2 (sh_ty ci) h3 h4 hX.2.2.2.1 hR.1.none hR.2.1 hR.2.2.1 hR.2.2.2.1 (o - 1) he h1 f hf (hX.2.2.2.2.1 _ hw) (fun _ h9 => h9) hfin (hX.2.2.2.2.2.1 hy) (hown C T h1) (h3 f hf) hn hfit (by rw [sh_fs_len]; exact hf) hd (fun H1 locs1 hP1 hD1 hS1 => ?_)
  have e1 : (sh_W ad ac (n, I, P)).set (o - 1) (ad o, .inr (ci, (sh_fs ad I P o ci N).set f (.int (Int32.ofInt v)))) = sh_W ad ac (n, sh_u I o (f : Int) v, P) :=
    sh_W_set hk (fun k hk2 => sh_u_ne hk2) (fun _ _ => rfl) (by rw [sh_E_obj h5, sh_fs_setI hi])
  exact h p l e R s m args below meth c Z D A H0 ad ac H1 locs1 la hX hA (hR.putI hk.2.2 (by rw [← e1]; exact hP1) (by rw [← e1]; exact hD1) hS1) hL hc hret
theorem sh_putRF {y : sh_M} {pc : Nat} {ls : List (Option sh_V)} {st : List sh_V} {cn : Nat × Nat} {n : Nat} {I : sh_Mem} {P : sh_Ptr} {Q : Option Int → sh_St → Prop} {idx ci f N o q : Nat} (hd : decode y.2.1 pc = .ok (.putfield idx, 3)) (hl : sh_FL y.1.cls idx ci f N true) (hy : y.1.name = "<init>") (hown : ∀ (C : String) (T : u_T), vwCl[ci]? = some (C, T, N) → (T f).1 = y.1.cls) (hi : sh_isr (sh_ty ci f) = true) (hk : sh_is n o ci N) (hqn : q < n) (hn : ∀ a, narrow (sh_ty ci f) (.ref a) = .ref a) (hfit : ∀ a, fits (sh_ty ci f) (.ref a) = true) (h : sh_O y (pc + 3) ls st cn (n, I, sh_uP P o f q) Q) : sh_O y pc ls (.inr q :: .inr o :: st) cn (n, I, P) Q := by
  intro p l e R s m args below meth c Z D A H0 ad ac H locs la hX hA hR hL hc hret
  obtain ⟨C, T, hC, hf, hw, hfin⟩ := hl
  obtain ⟨h1, h2, h3, h4, h5⟩ := hC
  have he := sh_W_get (ad := ad) (ac := ac) (σ := (n, I, P)) hk
  rw [sh_E_obj h5] at he
  refine va_putF hX.1 hX.2.1 hX.2.2.2.2.1 h2 (sh_ty ci) h3 h4 hX.2.2.2.1 hR.1.none hR.2.1 hR.2.2.1 hR.2.2.2.1 (o - 1) he h1 f hf (hX.2.2.2.2.1 _ hw) (fun _ h9 => h9) hfin (hX.2.2.2.2.2.1 hy) (hown C T h1) (h3 f hf) (hn _) (hfit _) (by rw [sh_fs_len]; exact hf) hd (fun H1 locs1 hP1 hD1 hS1 => ?_)
  have e1 : (sh_W ad ac (n, I, P)).set (o - 1) (ad o, .inr (ci, (sh_fs ad I P o ci N).set f (.ref (ad q)))) = sh_W ad ac (n, I, sh_uP P o f q) :=
    sh_W_set hk (fun _ _ => rfl) (fun k hk2 => sh_uP_ne hk2) (by rw [sh_E_obj h5, sh_fs_setP hi])
  obtain ⟨a1, -, -, -, b1, c1, d1, g1, j1⟩ := hR
  refine h p l e R s m args below meth c Z D A H0 ad ac H1 locs1 la hX hA ⟨a1, by rw [← e1]; exact hP1, by rw [← e1]; exact hD1, hS1, b1, c1, d1, fun o' f' q' hq' => ?_, j1⟩ hL hc hret
  have hq2 : sh_uP P o f q o' f' = some q' := hq'
  simp only [sh_uP] at hq2
  split at hq2
  · cases hq2
    exact hqn
  · exact g1 o' f' q' hq2
end
section
/-! arrays -/
theorem sh_vin {i : Int} {n : Nat} (h : 0 ≤ i ∧ i < (n : Int)) (hn : n < 2147483648) : vp_in (Int32.ofInt i) n ∧ (Int32.ofInt i).toNatClampNeg = i.toNat := by
  have hb : sh_Bd i := ⟨by omega, by omega⟩
  have e : (Int32.ofInt i).toNatClampNeg = i.toNat := by
    show (Int32.ofInt i).toInt.toNat = i.toNat
    rw [sh_ti hb]
  refine ⟨?_, e⟩
  unfold vp_in
  rw [e, sh_z, sh_ltI hb sh_Bd0]
  omega
theorem sh_ia_at {I : sh_Mem} {o : Nat} {i : Int} (h : 0 ≤ i) : sh_ia I o i.toNat = Int32.ofInt (I o i) := by
  unfold sh_ia
  rw [Int.toNat_of_nonneg h]
theorem sh_narC {v : Int} (h : 0 ≤ v ∧ v < 65536) : vp_nar .char (Int32.ofInt v) = Int32.ofInt v := by
  show (Int32.ofInt v).toUInt32.toUInt16.toUInt32.toInt32 = Int32.ofInt v
  apply Int32.toInt_inj.mp
  rw [sh_ti ⟨by omega, by omega⟩]
  have e1 : ((Int32.ofInt v).toUInt32.toUInt16.toUInt32.toInt32).toBitVec = ((BitVec.ofInt 32 v).setWidth 16).setWidth 32 := rfl
  show ((Int32.ofInt v).toUInt32.toUInt16.toUInt32.toInt32).toBitVec.toInt = v
  rw [e1, BitVec.toInt_eq_toNat_of_lt]
  · simp only [BitVec.toNat_setWidth, BitVec.toNat_ofInt]
    omega
  · simp only [BitVec.toNat_setWidth, BitVec.toNat_ofInt]
    omega
theorem sh_iald {y : sh_M} {pc : Nat} {ls : List (Option sh_V)} {st : List sh_V} {cn : Nat × Nat} {n : Nat} {I : sh_Mem} {P : sh_Ptr} {Q : Option Int → sh_St → Prop} {o N : Nat} {i : Int} (hd : decode y.2.1 pc = .ok (.iaload, 1)) (hk : sh_is n o 8 N) (hN : N < 2147483648) (hi : 0 ≤ i ∧ i < (N : Int)) (h : sh_O y (pc + 1) ls (.inl (I o i) :: st) cn (n, I, P) Q) : sh_O y pc ls (.inl i :: .inr o :: st) cn (n, I, P) Q := by
  intro p l e R s m args below meth c Z D A H0 ad ac H locs la hX hA hR hL hc hret
  have he := sh_W_get (ad := ad) (ac := ac) (σ := (n, I, P)) hk
  rw [sh_E_arr (by decide) (by decide)] at he
  have hv := sh_vin hi hN
  refine va_iald hX.1 hX.2.1 (hR.1.one hk (by decide) (by decide)) hR.2.1 (o - 1) 0 he rfl hv.1 hd ?_
  rw [hv.2]
  show W p l e R s m args below meth c H locs cn.1 cn.2 Z (F0 m (pc + 1) la (.int (sh_ia I o i.toNat) :: st.map (sh_tr ad)))
  rw [sh_ia_at hi.1]
  exact h p l e R s m args below meth c Z D A H0 ad ac H locs la hX hA hR hL hc hret
theorem sh_bald {y : sh_M} {pc : Nat} {ls : List (Option sh_V)} {st : List sh_V} {cn : Nat × Nat} {n : Nat} {I : sh_Mem} {P : sh_Ptr} {Q : Option Int → sh_St → Prop} {o N : Nat} {i : Int} (hd : decode y.2.1 pc = .ok (.baload, 1)) (hk : sh_is n o 9 N) (hN : N < 2147483648) (hi : 0 ≤ i ∧ i < (N : Int)) (h : sh_O y (pc + 1) ls (.inl (I o i) :: st) cn (n, I, P) Q) : sh_O y pc ls (.inl i :: .inr o :: st) cn (n, I, P) Q := by
  intro p l e R s m args below meth c Z D A H0 ad ac H locs la hX hA hR hL hc hret
  have he := sh_W_get (ad := ad) (ac := ac) (σ := (n, I, P)) hk
  rw [sh_E_arr (by decide) (by decide)] at he
  have hv := sh_vin hi hN
  refine va_zald hX.1 hX.2.1 (hR.1.one hk (by decide) (by decide)) hR.2.1 (o - 1) 0 he rfl hv.1 hd ?_
  rw [hv.2]
  show W p l e R s m args below meth c H locs cn.1 cn.2 Z (F0 m (pc + 1) la (.int (sh_ia I o i.toNat) :: st.map (sh_tr ad)))
  rw [sh_ia_at hi.1]
  exact h p l e R s m args below meth c Z D A H0 ad ac H locs la hX hA hR hL hc hret
theorem sh_cald {y : sh_M} {pc : Nat} {ls : List (Option sh_V)} {st : List sh_V} {cn : Nat × Nat} {n : Nat} {I : sh_Mem} {P : sh_Ptr} {Q : Option Int → sh_St → Prop} {o N : Nat} {i : Int} (hd : decode y.2.1 pc = .ok (.caload, 1)) (hk : sh_is n o 10 N) (hN : N < 2147483648) (hi : 0 ≤ i ∧ i < (N : Int)) (h : sh_O y (pc + 1) ls (.inl (I o i) :: st) cn (n, I, P) Q) : sh_O y pc ls (.inl i :: .inr o :: st) cn (n, I, P) Q := by
  intro p l e R s m args below meth c Z D A H0 ad ac H locs la hX hA hR hL hc hret
  have he := sh_W_get (ad := ad) (ac := ac) (σ := (n, I, P)) hk
  rw [sh_E_arr (by decide) (by decide)] at he
  have hv := sh_vin hi hN
  refine va_cald hX.1 hX.2.1 (hR.1.one hk (by decide) (by decide)) hR.2.1 (o - 1) 0 he rfl hv.1 hd ?_
  rw [hv.2]
  show W p l e R s m args below meth c H locs cn.1 cn.2 Z (F0 m (pc + 1) la (.int (sh_ia I o i.toNat) :: st.map (sh_tr ad)))
  rw [sh_ia_at hi.1]
  exact h p l e R s m args below meth c Z D A H0 ad ac H locs la hX hA hR hL hc hret
theorem sh_iast {y : sh_M} {pc : Nat} {ls : List (Option sh_V)} {st : List sh_V} {cn : Nat × Nat} {n : Nat} {I : sh_Mem} {P : sh_Ptr} {Q : Option Int → sh_St → Prop} {o N : Nat} {i v : Int} (hd : decode y.2.1 pc = .ok (.iastore, 1)) (hk : sh_is n o 8 N) (hN : N < 2147483648) (hi : 0 ≤ i ∧ i < (N : Int))  (h : sh_O y (pc + 1) ls st cn (n, sh_u I o i v, P) Q) : sh_O y pc ls (.inl v :: .inl i :: .inr o :: st) cn (n, I, P) Q := by
  intro p l e R s m args below meth c Z D A H0 ad ac H locs la hX hA hR hL hc hret
  have he := sh_W_get (ad := ad) (ac := ac) (σ := (n, I, P)) hk
  rw [sh_E_arr (by decide) (by decide)] at he
  have hv := sh_vin hi hN
  refine va_iast hX.1 hX.2.1 (hR.1.one hk (by decide) (by decide)) hR.2.1 hR.2.2.1 hR.2.2.2.1 (o - 1) 0 he rfl hv.1 hd (fun H1 locs1 hP1 hD1 hS1 => ?_)
  have e1 : (sh_W ad ac (n, I, P)).set (o - 1) (ad o, .inl (ac o, N, .inl (upd (sh_ia I o) (Int32.ofInt i).toNatClampNeg (Int32.ofInt v)))) = sh_W ad ac (n, sh_u I o i v, P) := by
    rw [hv.2, sh_ia_set (v := v) hi.1 rfl]
    exact sh_W_set hk (fun k hk2 => sh_u_ne hk2) (fun _ _ => rfl) (sh_E_arr (by decide) (by decide))
  exact h p l e R s m args below meth c Z D A H0 ad ac H1 locs1 la hX hA (hR.putI hk.2.2 (by rw [← e1]; exact hP1) (by rw [← e1]; exact hD1) hS1) hL hc hret
theorem sh_bast {y : sh_M} {pc : Nat} {ls : List (Option sh_V)} {st : List sh_V} {cn : Nat × Nat} {n : Nat} {I : sh_Mem} {P : sh_Ptr} {Q : Option Int → sh_St → Prop} {o N : Nat} {i v : Int} (hd : decode y.2.1 pc = .ok (.bastore, 1)) (hk : sh_is n o 9 N) (hN : N < 2147483648) (hi : 0 ≤ i ∧ i < (N : Int)) (hv01 : v = 0 ∨ v = 1) (h : sh_O y (pc + 1) ls st cn (n, sh_u I o i v, P) Q) : sh_O y pc ls (.inl v :: .inl i :: .inr o :: st) cn (n, I, P) Q := by
  intro p l e R s m args below meth c Z D A H0 ad ac H locs la hX hA hR hL hc hret
  have he := sh_W_get (ad := ad) (ac := ac) (σ := (n, I, P)) hk
  rw [sh_E_arr (by decide) (by decide)] at he
  have hv := sh_vin hi hN
  refine va_zast hX.1 hX.2.1 (hR.1.one hk (by decide) (by decide)) hR.2.1 hR.2.2.1 hR.2.2.2.1 (o - 1) 0 he rfl hv.1 hd (fun H1 locs1 hP1 hD1 hS1 => ?_)
  have e1 : (sh_W ad ac (n, I, P)).set (o - 1) (ad o, .inl (ac o, N, .inl (upd (sh_ia I o) (Int32.ofInt i).toNatClampNeg (vp_nar .boolean (Int32.ofInt v))))) = sh_W ad ac (n, sh_u I o i v, P) := by
    rw [hv.2, sh_ia_set (v := v) hi.1 (by rcases hv01 with rfl | rfl <;> rfl)]
    exact sh_W_set hk (fun k hk2 => sh_u_ne hk2) (fun _ _ => rfl) (sh_E_arr (by decide) (by decide))
  exact h p l e R s m args below meth c Z D A H0 ad ac H1 locs1 la hX hA (hR.putI hk.2.2 (by rw [← e1]; exact hP1) (by rw [← e1]; exact hD1) hS1) hL hc hret
theorem sh_cast {y : sh_M} {pc : Nat} {ls : List (Option sh_V)} {st : List sh_V} {cn : Nat × Nat} {n : Nat} {I : sh_Mem} {P : sh_Ptr} {Q : Option Int → sh_St → Prop} {o N : Nat} {i v : Int} (hd : decode y.2.1 pc = .ok (.castore, 1)) (hk : sh_is n o 10 N) (hN : N < 2147483648) (hi : 0 ≤ i ∧ i < (N : Int)) (hvc : 0 ≤ v ∧ v < 65536) (h : sh_O y (pc + 1) ls st cn (n, sh_u I o i v, P) Q) : sh_O y pc ls (.inl v :: .inl i :: .inr o :: st) cn (n, I, P) Q := by
  intro p l e R s m args below meth c Z D A H0 ad ac H locs la hX hA hR hL hc hret
  have he := sh_W_get (ad := ad) (ac := ac) (σ := (n, I, P)) hk
  rw [sh_E_arr (by decide) (by decide)] at he
  have hv := sh_vin hi hN
  refine va_cast hX.1 hX.2.1 (hR.1.one hk (by decide) (by decide)) hR.2.1 hR.2.2.1 hR.2.2.2.1 (o - 1) 0 he rfl hv.1 hd (fun H1 locs1 hP1 hD1 hS1 => ?_)
  have e1 : (sh_W ad ac (n, I, P)).set (o - 1) (ad o, .inl (ac o, N, .inl (upd (sh_ia I o) (Int32.ofInt i).toNatClampNeg (vp_nar .char (Int32.ofInt v))))) = sh_W ad ac (n, sh_u I o i v, P) := by
    rw [hv.2, sh_ia_set (v := v) hi.1 (sh_narC hvc)]
    exact sh_W_set hk (fun k hk2 => sh_u_ne hk2) (fun _ _ => rfl) (sh_E_arr (by decide) (by decide))
  exact h p l e R s m args below meth c Z D A H0 ad ac H1 locs1 la hX hA (hR.putI hk.2.2 (by rw [← e1]; exact hP1) (by rw [← e1]; exact hD1) hS1) hL hc hret
theorem sh_aald {y : sh_M} {pc : Nat} {ls : List (Option sh_V)} {st : List sh_V} {cn : Nat × Nat} {n : Nat} {I : sh_Mem} {P : sh_Ptr} {Q : Option Int → sh_St → Prop} {o N q : Nat} {i : Int} (hd : decode y.2.1 pc = .ok (.aaload, 1)) (hk : sh_is n o 11 N) (hN : N < 2147483648) (hi : 0 ≤ i ∧ i < (N : Int)) (hq : P o i.toNat = some q) (h : sh_O y (pc + 1) ls (.inr q :: st) cn (n, I, P) Q) : sh_O y pc ls (.inl i :: .inr o :: st) cn (n, I, P) Q := by
  intro p l e R s m args below meth c Z D A H0 ad ac H locs la hX hA hR hL hc hret
  have he := sh_W_get (ad := ad) (ac := ac) (σ := (n, I, P)) hk
  rw [sh_E_ref] at he
  have hv := sh_vin hi hN
  refine va_aldq hX.1 hX.2.1 (hR.1.one hk (by decide) (by decide)) hR.2.1 (o - 1) 0 he rfl hv.1 hd ?_
  rw [hv.2]
  show W p l e R s m args below meth c H locs cn.1 cn.2 Z (F0 m (pc + 1) la (va_rf ((P o i.toNat).map ad) :: st.map (sh_tr ad)))
  rw [hq]
  exact h p l e R s m args below meth c Z D A H0 ad ac H locs la hX hA hR hL hc hret
theorem sh_aast {y : sh_M} {pc : Nat} {ls : List (Option sh_V)} {st : List sh_V} {cn : Nat × Nat} {n : Nat} {I : sh_Mem} {P : sh_Ptr} {Q : Option Int → sh_St → Prop} {o N q : Nat} {i : Int} (hd : decode y.2.1 pc = .ok (.aastore, 1)) (hk : sh_is n o 11 N) (hN : N < 2147483648) (hi : 0 ≤ i ∧ i < (N : Int)) (hq : sh_is n q 4 5) (h : sh_O y (pc + 1) ls st cn (n, I, sh_uP P o i.toNat q) Q) : sh_O y pc ls (.inr q :: .inl i :: .inr o :: st) cn (n, I, P) Q := by
  intro p l e R s m args below meth c Z D A H0 ad ac H locs la hX hA hR hL hc hret
  have he := sh_W_get (ad := ad) (ac := ac) (σ := (n, I, P)) hk
  rw [sh_E_ref] at he
  have heq := sh_W_get (ad := ad) (ac := ac) (σ := (n, I, P)) hq
  rw [sh_E_obj (by decide)] at heq
  have hv := sh_vin hi hN
  refine va_astq hX.1 hX.2.1 (hR.1.one hk (by decide) (by decide)) hR.2.1 hR.2.2.1 hR.2.2.2.1 (o - 1) 0 (q - 1) 4 he rfl heq rfl hv.1 hd (fun H1 locs1 hP1 hD1 hS1 => ?_)
  have e1 : (sh_W ad ac (n, I, P)).set (o - 1) (ad o, .inl (ac o, N, .inr (.inr (.inr (.inr (va_up (fun j => (P o j).map ad) (Int32.ofInt i).toNatClampNeg (some (ad q)))))))) = sh_W ad ac (n, I, sh_uP P o i.toNat q) := by
    rw [hv.2]
    refine sh_W_set hk (fun _ _ => rfl) (fun k hk2 => sh_uP_ne hk2) ?_
    rw [sh_E_ref]
    congr 7
    funext j
    by_cases hj : j = i.toNat
    · simp [va_up, sh_uP, hj]
    · simp [va_up, sh_uP, hj]
  obtain ⟨a1, -, -, -, b1, c1, d1, g1, j1⟩ := hR
  refine h p l e R s m args below meth c Z D A H0 ad ac H1 locs1 la hX hA ⟨a1, by rw [← e1]; exact hP1, by rw [← e1]; exact hD1, hS1, b1, c1, d1, fun o' f' q' hq' => ?_, j1⟩ hL hc hret
  have hq2 : sh_uP P o i.toNat q o' f' = some q' := hq'
  simp only [sh_uP] at hq2
  split at hq2
  · cases hq2
    exact hq.1
  · exact g1 o' f' q' hq2
theorem sh_alen {y : sh_M} {pc : Nat} {ls : List (Option sh_V)} {st : List sh_V} {cn : Nat × Nat} {n : Nat} {I : sh_Mem} {P : sh_Ptr} {Q : Option Int → sh_St → Prop} {o ci N : Nat} {v : Int} (hd : decode y.2.1 pc = .ok (.arraylength, 1)) (hk : sh_is n o ci N) (h8 : 8 ≤ ci) (h12 : ci < 12) (hv : (N : Int) = v) (h : sh_O y (pc + 1) ls (.inl v :: st) cn (n, I, P) Q) : sh_O y pc ls (.inr o :: st) cn (n, I, P) Q := by
  intro p l e R s m args below meth c Z D A H0 ad ac H locs la hX hA hR hL hc hret
  have he := sh_W_get (ad := ad) (ac := ac) (σ := (n, I, P)) hk
  subst hv
  have hx : ∃ x : vp_A, sh_E ad ac I P o (ci, N) = .inl (ac o, x) ∧ x.1 = N := by
    have h3 : ¬ ci < 8 := by omega
    exact ⟨_, by simp only [sh_E, h3, if_false]; rfl, rfl⟩
  obtain ⟨x, hx1, hx2⟩ := hx
  have he2 : (sh_W ad ac (n, I, P))[o - 1]? = some (ad o, .inl (ac o, x)) := by rw [← hx1]; exact he
  exact va_alen hX.1 hX.2.1 (hR.1.one hk h8 h12) hR.2.1 (o - 1) 0 he2 rfl (v := Int32.ofInt (N : Int)) (by rw [hx2]; rfl) hd (h p l e R s m args below meth c Z D A H0 ad ac H locs la hX hA hR hL hc hret)
/-- the script: object 0, its length at place 0, its ints behind -/
theorem sh_slen {y : sh_M} {pc : Nat} {ls : List (Option sh_V)} {st : List sh_V} {cn : Nat × Nat} {n : Nat} {I : sh_Mem} {P : sh_Ptr} {Q : Option Int → sh_St → Prop} (hd : decode y.2.1 pc = .ok (.arraylength, 1)) (hL0 : 0 ≤ I 0 0) (h : sh_O y (pc + 1) ls (.inl (I 0 0) :: st) cn (n, I, P) Q) : sh_O y pc ls (.inr 0 :: st) cn (n, I, P) Q := by
  intro p l e R s m args below meth c Z D A H0 ad ac H locs la hX hA hR hL hc hret
  have hk := h p l e R s m args below meth c Z D A H0 ad ac H locs la hX hA hR hL hc hret
  refine va_slen hX.1 hX.2.1 hR.2.2.2.2.1 hR.2.2.2.2.2.1 hR.2.2.2.2.2.2.1 hR.2.2.2.1 hd ?_
  have ee : Int32.ofNat (I 0 0).toNat = Int32.ofInt (I 0 0) := by
    rw [← Int32.ofInt_eq_ofNat, Int.toNat_of_nonneg hL0]
  show W p l e R s m args below meth c H locs cn.1 cn.2 Z (F0 m (pc + 1) la (.int (Int32.ofNat (I 0 0).toNat) :: st.map (sh_tr ad)))
  rw [ee]
  exact hk
theorem sh_sld {y : sh_M} {pc : Nat} {ls : List (Option sh_V)} {st : List sh_V} {cn : Nat × Nat} {n : Nat} {I : sh_Mem} {P : sh_Ptr} {Q : Option Int → sh_St → Prop} {i : Int} (hd : decode y.2.1 pc = .ok (.iaload, 1)) (hi : 0 ≤ i ∧ i < I 0 0) (hB : I 0 0 < 2147483648) (h : sh_O y (pc + 1) ls (.inl (I 0 (i + 1)) :: st) cn (n, I, P) Q) : sh_O y pc ls (.inl i :: .inr 0 :: st) cn (n, I, P) Q := by
  intro p l e R s m args below meth c Z D A H0 ad ac H locs la hX hA hR hL hc hret
  have hk := h p l e R s m args below meth c Z D A H0 ad ac H locs la hX hA hR hL hc hret
  have hv := sh_vin (i := i) (n := (I 0 0).toNat) (by omega) (by omega)
  refine va_sld hX.1 hX.2.1 hR.2.2.2.2.1 hR.2.2.2.2.2.1 hR.2.2.2.2.2.2.1 hR.2.2.2.1 hv.1 hd ?_
  rw [hv.2]
  show W p l e R s m args below meth c H locs cn.1 cn.2 Z (F0 m (pc + 1) la (.int (Int32.ofInt (I 0 (((i.toNat : Nat) : Int) + 1))) :: st.map (sh_tr ad)))
  rw [Int.toNat_of_nonneg hi.1]
  exact hk
/-! returns -/
theorem sh_iret {y : sh_M} {pc : Nat} {ls : List (Option sh_V)} {st : List sh_V} {cn : Nat × Nat} {n : Nat} {I : sh_Mem} {P : sh_Ptr} {Q : Option Int → sh_St → Prop} {v : Int} {ty : FieldType} (hd : decode y.2.1 pc = .ok (.ireturn, 1)) (ht : y.2.2.2.1 = some ty) (hv : narrow ty (.int (Int32.ofInt v)) = .int (Int32.ofInt v)) (h : Q (some v) (n, I, P)) : sh_O y pc ls [.inl v] cn (n, I, P) Q := by
  intro p l e R s m args below meth c Z D A H0 ad ac H locs la hX hA hR hL hc hret
  exact W.widen hc.1 hc.2 (hret (some v) (n, I, P) ad ac H locs la pc h hR (fun _ => ⟨rfl, rfl⟩) (fun _ _ => ⟨rfl, rfl⟩) (Nat.le_refl _) ⟨hd, ty, ht, hv⟩)
theorem sh_vret {y : sh_M} {pc : Nat} {ls : List (Option sh_V)} {st : List sh_V} {cn : Nat × Nat} {n : Nat} {I : sh_Mem} {P : sh_Ptr} {Q : Option Int → sh_St → Prop} (hd : decode y.2.1 pc = .ok (.return_, 1)) (ht : y.2.2.2.1 = none) (h : Q none (n, I, P)) : sh_O y pc ls [] cn (n, I, P) Q := by
  intro p l e R s m args below meth c Z D A H0 ad ac H locs la hX hA hR hL hc hret
  exact W.widen hc.1 hc.2 (hret none (n, I, P) ad ac H locs la pc h hR (fun _ => ⟨rfl, rfl⟩) (fun _ _ => ⟨rfl, rfl⟩) (Nat.le_refl _) ⟨hd, ht⟩)
/-! making objects -/
theorem sh_catsum (ad : Nat → Nat) (st : List sh_V) : ((st.map (sh_tr ad)).map fun v => v.category).sum = st.length := by
  induction st with
  | nil => rfl
  | cons v st ih => simp only [List.map_cons, List.sum_cons, sh_tr_cat, ih, List.length_cons]; omega
def sh_noref (n : Nat) (st : List sh_V) : Prop := ∀ o : Nat, Sum.inr o ∈ st → o < n
theorem sh_tr_same {ad ad' : Nat → Nat} {n : Nat} {st : List sh_V} (h : sh_noref n st) (he : ∀ k, k < n → ad' k = ad k) : st.map (sh_tr ad') = st.map (sh_tr ad) := by
  apply List.map_congr_left
  intro v hv
  cases v with
  | inl z => rfl
  | inr o => simp only [sh_tr, he o (h o hv)]
theorem sh_L.same {ad ad' : Nat → Nat} {la : Array Slot} {n k : Nat} {ls : List (Option sh_V)} (h : sh_L ad la n ls) (hr : ∀ o : Nat, some (Sum.inr o) ∈ ls → o < k) (he : ∀ j, j < k → ad' j = ad j) : sh_L ad' la n ls := by
  refine ⟨h.1, h.2.1, fun i v hi => ?_⟩
  rw [h.2.2 i v hi]
  cases v with
  | inl z => rfl
  | inr o => simp only [sh_tr, he o (hr o (List.mem_of_getElem? hi))]
theorem sh_E_same {ad ad' : Nat → Nat} {ac ac' : Nat → ClassId} {n o : Nat} {I : sh_Mem} {P : sh_Ptr} {kd : Nat × Nat} (ho : o < n) (hP : ∀ o f q, P o f = some q → q < n) (he : ∀ k, k < n → ad' k = ad k ∧ ac' k = ac k) : sh_E ad' ac' I P o kd = sh_E ad ac I P o kd := by
  have h1 : ∀ f, (P o f).map ad' = (P o f).map ad := by
    intro f
    cases hq : P o f with
    | none => rfl
    | some q => simp only [Option.map_some, (he q (hP o f q hq)).1]
  simp only [sh_E, sh_fs, h1, (he o ho).2]
theorem sh_W_same {ad ad' : Nat → Nat} {ac ac' : Nat → ClassId} {n : Nat} {I : sh_Mem} {P : sh_Ptr} (hP : ∀ o f q, P o f = some q → q < n) (he : ∀ k, k < n → ad' k = ad k ∧ ac' k = ac k) : sh_W ad' ac' (n, I, P) = sh_W ad ac (n, I, P) := by
  apply List.map_congr_left
  intro k hk
  have hk2 : k < n - 1 := List.mem_range.mp hk
  rw [sh_E_same (by omega) hP he, (he (k + 1) (by omega)).1]
theorem sh_W_push {ad : Nat → Nat} {ac : Nat → ClassId} {n : Nat} {I : sh_Mem} {P : sh_Ptr} (h0 : 0 < n) : sh_W ad ac (n + 1, I, P) = sh_W ad ac (n, I, P) ++ [(ad n, sh_E ad ac I P n (sh_KD n))] := by
  have e : n + 1 - 1 = (n - 1) + 1 := by omega
  have e2 : n - 1 + 1 = n := by omega
  simp only [sh_W]
  rw [e, List.range_succ, List.map_append, List.map_cons, List.map_nil, e2]
def sh_ext {α : Type} (ad : Nat → α) (n : Nat) (q : α) : Nat → α := fun k => if k = n then q else ad k
theorem sh_ext_lt {α : Type} {ad : Nat → α} {n k : Nat} {q : α} (h : k < n) : sh_ext ad n q k = ad k := by
  have : ¬ k = n := by omega
  simp [sh_ext, this]
theorem sh_ext_self {α : Type} {ad : Nat → α} {n : Nat} {q : α} : sh_ext ad n q n = q := by simp [sh_ext]
/-- behind the making of the object n, of a kind that the plan foresees -/
theorem sh_made {y : sh_M} {pc1 : Nat} {ls : List (Option sh_V)} {st : List sh_V} {cn : Nat × Nat} {n ci N : Nat} {I : sh_Mem} {P : sh_Ptr} {Q : Option Int → sh_St → Prop}
    {p : Program} {l : Launch} {e : Env} {R : Room} {s : State} {m : MethodId} {args : Array Value} {below : List Frame} {meth : Method} {c : Code} {Z : State → Prop}
    {D : va_G} {A : Nat → Prop} {H0 : Heap} {ad : Nat → Nat} {ac : Nat → ClassId} {H : Heap} {locs : List Loc} {la : Array Slot}
    (hX : sh_X y p R s m args meth c) (hA : ∀ q, H0.size ≤ q → A q) (hR : sh_R D ad ac (n, I, P) A s H0 H locs) (hL : sh_L ad la y.2.2.1 ls) (hmc : cn.1 + 1 ≤ y.2.2.2.2.2.1 ∧ cn.2 + N ≤ y.2.2.2.2.2.2)
    (hret : ∀ (r : Option Int) (σ' : sh_St) (ad' : Nat → Nat) (ac' : Nat → ClassId) (H' : Heap) (locs' : List Loc) (la' : Array Slot) (pc' : Nat), Q r σ' → sh_R D ad' ac' σ' A s H0 H' locs' →
      (y.2.2.2.2.2.1 = 0 → ad' = ad ∧ ac' = ac) → (∀ k, k < n → ad' k = ad k ∧ ac' k = ac k) → n ≤ σ'.1 → sh_ret y pc' r →
      W p l e R s m args below meth c H' locs' y.2.2.2.2.2.1 y.2.2.2.2.2.2 Z (F0 m pc' la' (r.map (fun z => Value.int (Int32.ofInt z))).toList))
    (hst : sh_noref n st) (hls : ∀ o : Nat, some (Sum.inr o) ∈ ls → o < n) (hk : sh_KD n = (ci, N))
    (h : sh_O y pc1 ls (.inr n :: st) (cn.1 + 1, cn.2 + N) (n + 1, I, P) Q)
    {q : Nat} {cA : ClassId} {H1 : Heap} {E : va_E} (hE : sh_E (sh_ext ad n q) (sh_ext ac n cA) I P n (ci, N) = E)
    (hK : 8 ≤ ci → ci < 12 → ArrOfT s cA (sh_et ci) ∧ va_RA s cA (sh_et ci))
    (hP1 : va_P D vwCl (sh_W ad ac (n, I, P) ++ [(q, E)]) H1) (hD1 : va_D A (sh_W ad ac (n, I, P) ++ [(q, E)])) (hS1 : va_S A H0 H1 locs) :
    W p l e R s m args below meth c H1 locs (cn.1 + 1) (cn.2 + N) Z (F0 m pc1 la (.ref q :: st.map (sh_tr ad))) := by
  obtain ⟨a1, a2, a3, a4, b1, c1, d1, g1, j1⟩ := hR
  have hsame : ∀ k, k < n → sh_ext ad n q k = ad k ∧ sh_ext ac n cA k = ac k := fun k hk => ⟨sh_ext_lt hk, sh_ext_lt hk⟩
  have eW : sh_W (sh_ext ad n q) (sh_ext ac n cA) (n + 1, I, P) = sh_W ad ac (n, I, P) ++ [(q, E)] := by
    rw [sh_W_push j1, sh_W_same g1 hsame, hk, hE, sh_ext_self]
  have est : (Value.ref q :: st.map (sh_tr ad)) = (Sum.inr n :: st).map (sh_tr (sh_ext ad n q)) := by
    rw [List.map_cons, sh_tr_same hst (fun k hk => (hsame k hk).1)]
    show _ = Value.ref (sh_ext ad n q n) :: _
    rw [sh_ext_self]
  rw [est]
  refine h p l e R s m args below meth c Z D A H0 (sh_ext ad n q) (sh_ext ac n cA) H1 locs la hX hA ⟨⟨a1.1, fun o ci' N' ho h8 h12 => ?_, a1.2.2.1, a1.2.2.2⟩, by rw [eW]; exact hP1, by rw [eW]; exact hD1, hS1, ?_, ?_, ?_, fun o f q' hq' => Nat.lt_succ_of_lt (g1 o f q' hq'), Nat.succ_pos _⟩ (hL.same hls (fun k hk => (hsame k hk).1)) hmc ?_
  · by_cases hon : o = n
    · subst hon
      have hk2 := ho.2.1
      rw [hk] at hk2
      cases hk2
      rw [sh_ext_self]
      exact hK h8 h12
    · have h1 : o < n + 1 := ho.1
      have hlt : o < n := by omega
      rw [(hsame o hlt).2]
      exact a1.2.1 o ci' N' ⟨hlt, ho.2.1, ho.2.2⟩ h8 h12
  · rw [(hsame 0 j1).1]
    exact b1
  · rw [(hsame 0 j1).1]
    exact c1
  · rw [(hsame 0 j1).1]
    exact d1
  · intro r σ' ad' ac' H' locs' la' pc' hQ hR' h0 hs hle hr
    exact hret r σ' ad' ac' H' locs' la' pc' hQ hR' (fun h9 => absurd h9 (by omega)) (fun k hk => ⟨(hs k (Nat.lt_succ_of_lt hk)).1.trans (hsame k hk).1, (hs k (Nat.lt_succ_of_lt hk)).2.trans (hsame k hk).2⟩) (Nat.le_of_succ_le hle) hr
theorem sh_new {y : sh_M} {pc : Nat} {ls : List (Option sh_V)} {st : List sh_V} {cn : Nat × Nat} {n : Nat} {I : sh_Mem} {P : sh_Ptr} {Q : Option Int → sh_St → Prop} {idx ci N : Nat} {C : String} {T : u_T} (hd : decode y.2.1 pc = .ok (.new idx, 3)) (hC : sh_cls ci C T N) (hw1 : Cond.classLink y.1.cls idx C ∈ sh_ws) (hw2 : Cond.instantiable C N ∈ sh_ws) (hw3 : Cond.initialized C ∈ sh_ws) (hk : sh_KD n = (ci, N)) (hz : ∀ f, I n f = 0) (hzP : ∀ f, P n f = none) (hdef : ∀ f, f < N → defaultValue (sh_ty ci f) = if sh_isr (sh_ty ci f) then Value.null else Value.int 0)
    (hst : sh_noref n st) (hls : ∀ o : Nat, some (Sum.inr o) ∈ ls → o < n) (hmc : cn.1 + 1 ≤ y.2.2.2.2.2.1 ∧ cn.2 + N ≤ y.2.2.2.2.2.2) (h : sh_O y (pc + 3) ls (.inr n :: st) (cn.1 + 1, cn.2 + N) (n + 1, I, P) Q) : sh_O y pc ls st cn (n, I, P) Q := by
  intro p l e R s m args below meth c Z D A H0 ad ac H locs la hX hA hR hL hc hret
  obtain ⟨h1, h2, h3, h4, h5⟩ := hC
  have hRR : y.2.2.2.2.2.1 = R.cells ∧ y.2.2.2.2.2.2 = R.slots := by rw [hX.2.2.2.2.2.2]; exact ⟨rfl, rfl⟩
  refine va_new (ci := ci) (fs := sh_fs ad I P n ci N) hX.1 hX.2.1 hX.2.2.2.2.1 h2 (sh_ty ci) h3 hX.2.2.2.1 (hX.2.2.2.2.1 _ hw1) (hX.2.2.2.2.1 _ hw2) (hX.2.2.2.2.1 _ hw3) hR.1.none hR.2.1 hR.2.2.1 hR.2.2.2.1 hA h1 (fun j hj => ?_) (by rw [← hRR.1]; exact hmc.1) (by rw [← hRR.2]; exact hmc.2) hd (fun q H1 hP1 hD1 hS1 => ?_)
  · have hv := sh_fs_get (ad := ad) (I := I) (P := P) (k := n) (ci := ci) hj
    rw [hz, hzP] at hv
    unfold vp_V
    rw [List.getD_eq_getElem?_getD, hv, hdef j hj]
    cases sh_isr (sh_ty ci j) <;> rfl
  · refine sh_made (cA := D.1 0) hX hA hR hL hmc hret hst hls hk h ?_ (fun h8 => absurd h8 (by omega)) hP1 hD1 hS1
    rw [sh_E_obj h5]
    congr 2
    simp only [sh_fs, hzP, Option.map_none]
theorem sh_newa {y : sh_M} {pc : Nat} {ls : List (Option sh_V)} {st : List sh_V} {cn : Nat × Nat} {n : Nat} {I : sh_Mem} {P : sh_Ptr} {Q : Option Int → sh_St → Prop} {atype : ArrayType} {ci N : Nat} {z : Int} (hd : decode y.2.1 pc = .ok (.newarray atype, 2)) (hty : newarray.typeOf atype = sh_et ci) (hci : ci = 8 ∨ ci = 9 ∨ ci = 10) (hw : Cond.arrayClass (newarray.typeOf atype) ∈ sh_ws) (hzN : z = (N : Int)) (hN : N ≤ 100000) (hk : sh_KD n = (ci, N)) (hz : ∀ f, I n f = 0) (hzP : ∀ f, P n f = none)
    (hst : sh_noref n st) (hls : ∀ o : Nat, some (Sum.inr o) ∈ ls → o < n) (hmc : cn.1 + 1 ≤ y.2.2.2.2.2.1 ∧ cn.2 + N ≤ y.2.2.2.2.2.2) (h : sh_O y (pc + 2) ls (.inr n :: st) (cn.1 + 1, cn.2 + N) (n + 1, I, P) Q) : sh_O y pc ls (.inl z :: st) cn (n, I, P) Q := by
  intro p l e R s m args below meth c Z D A H0 ad ac H locs la hX hA hR hL hc hret
  have hRR : y.2.2.2.2.2.1 = R.cells ∧ y.2.2.2.2.2.2 = R.slots := by rw [hX.2.2.2.2.2.2]; exact ⟨rfl, rfl⟩
  subst hzN
  have hb : sh_Bd (N : Int) := ⟨by omega, by omega⟩
  have hia : sh_ia I n = fun _ => (0 : Int32) := by
    funext j
    simp only [sh_ia, hz]
    rfl
  refine va_newa (N' := N) (a0 := (N, .inl (sh_ia I n))) hX.1 hX.2.1 (hX.2.2.2.2.1 _ hw) hty hR.1.none hR.2.1 hR.2.2.1 hR.2.2.2.1 hA (fun cA => ?_) ?_ ?_ ?_ (by rw [← hRR.1]; exact hmc.1) (by rw [← hRR.2]; exact hmc.2) hd (fun q cA H1 hK1 hP1 hD1 hS1 => ?_)
  · rw [hia, vp_cell_i]
    rcases hci with rfl | rfl | rfl <;> rfl
  · rw [sh_z, sh_ltI hb sh_Bd0]
    omega
  · show (Int32.ofInt (N : Int)).toInt.toNat = N
    rw [sh_ti hb]
    rfl
  · have : componentBytes (sh_et ci) ≤ 4 := by rcases hci with rfl | rfl | rfl <;> decide
    calc N * componentBytes (sh_et ci) ≤ 100000 * 4 := Nat.mul_le_mul hN this
      _ ≤ 536870912 := by decide
  · refine sh_made (cA := cA) hX hA hR hL hmc hret hst hls hk h ?_ (fun _ _ => ?_) hP1 hD1 hS1
    · rw [sh_E_arr (by omega) (by omega), sh_ext_self]
    · exact hK1.2 0 (cA, sh_et ci) rfl
theorem sh_newq {y : sh_M} {pc : Nat} {ls : List (Option sh_V)} {st : List sh_V} {cn : Nat × Nat} {n : Nat} {I : sh_Mem} {P : sh_Ptr} {Q : Option Int → sh_St → Prop} {idx N : Nat} {z : Int} (hd : decode y.2.1 pc = .ok (.anewarray idx, 3)) (hw : Cond.classLink y.1.cls idx RX4 ∈ sh_ws) (hzN : z = (N : Int)) (hN : N ≤ 100000) (hk : sh_KD n = (11, N)) (hzP : ∀ f, P n f = none)
    (hst : sh_noref n st) (hls : ∀ o : Nat, some (Sum.inr o) ∈ ls → o < n) (hmc : cn.1 + 1 ≤ y.2.2.2.2.2.1 ∧ cn.2 + N ≤ y.2.2.2.2.2.2) (h : sh_O y (pc + 3) ls (.inr n :: st) (cn.1 + 1, cn.2 + N) (n + 1, I, P) Q) : sh_O y pc ls (.inl z :: st) cn (n, I, P) Q := by
  intro p l e R s m args below meth c Z D A H0 ad ac H locs la hX hA hR hL hc hret
  have hRR : y.2.2.2.2.2.1 = R.cells ∧ y.2.2.2.2.2.2 = R.slots := by rw [hX.2.2.2.2.2.2]; exact ⟨rfl, rfl⟩
  subst hzN
  have hb : sh_Bd (N : Int) := ⟨by omega, by omega⟩
  refine va_newq (N' := N) hX.1 hX.2.1 hX.2.2.2.1 (hX.2.2.2.2.1 _ hw) hR.1.2.2.2 hR.1.none hR.2.1 hR.2.2.1 hR.2.2.2.1 hA ?_ ?_ (by omega) (by rw [← hRR.1]; exact hmc.1) (by rw [← hRR.2]; exact hmc.2) hd (fun q cA H1 hK1 hP1 hD1 hS1 => ?_)
  · rw [sh_z, sh_ltI hb sh_Bd0]
    omega
  · show (Int32.ofInt (N : Int)).toInt.toNat = N
    rw [sh_ti hb]
    rfl
  · refine sh_made (cA := cA) hX hA hR hL hmc hret hst hls hk h ?_ (fun _ _ => ?_) hP1 hD1 hS1
    · rw [sh_E_ref, sh_ext_self]
      congr 7
      funext j
      simp [hzP]
    · exact hK1.2 0 (cA, .object RX4) rfl
theorem sh_objInit {y : sh_M} {pc : Nat} {ls : List (Option sh_V)} {st : List sh_V} {cn : Nat × Nat} {σ : sh_St} {Q : Option Int → sh_St → Prop} {idx o : Nat} (hd : decode y.2.1 pc = .ok (.invokespecial idx, 3)) (hw1 : Cond.methodLink y.1.cls idx objectInit ∈ sh_ws) (hw2 : Cond.instanceMethod objectInit ∈ sh_ws) (hw3 : Cond.code objectInit ⟨#[0xb1]⟩ 1 none ∈ sh_ws) (hfr : 1 ≤ y.2.2.2.2.1.1) (hlo : 20 ≤ y.2.2.2.2.1.2) (hst : st.length ≤ 8) (h : sh_O y (pc + 3) ls st cn σ Q) : sh_O y pc ls (.inr o :: st) cn σ Q := by
  intro p l e R s m args below meth c Z D A H0 ad ac H locs la hX hA hR hL hc hret
  have hRR : y.2.2.2.2.1.1 = R.frames ∧ y.2.2.2.2.1.2 = R.locals := by rw [hX.2.2.2.2.2.2]; exact ⟨rfl, rfl⟩
  refine W.objInit hX.1 hX.2.1 hX.2.2.2.1 (hX.2.2.2.2.1 _ hw1) (hX.2.2.2.2.1 _ hw2) (hX.2.2.2.2.1 _ hw3) rfl (by rw [hX.2.2.1]; exact hL.1) rfl hd (by rw [← hRR.1]; exact hfr) ?_ ?_
  · have hs := sh_catsum ad st
    show 2 * 0 + ((st.map (sh_tr ad)).map fun v => v.category).sum + 12 ≤ R.locals
    rw [hs, ← hRR.2]
    omega
  · exact h p l e R s m args below meth c Z D A H0 ad ac H locs la hX hA hR hL hc hret
theorem sh_min {y : sh_M} {pc : Nat} {ls : List (Option sh_V)} {st : List sh_V} {cn : Nat × Nat} {σ : sh_St} {Q : Option Int → sh_St → Prop} {idx : Nat} {a b : Int} (hd : decode y.2.1 pc = .ok (.invokestatic idx, 3)) (hw1 : Cond.methodLink y.1.cls idx Lib.Math.min.name ∈ sh_ws) (hw2 : Cond.static Lib.Math.min.name ∈ sh_ws) (hw3 : Cond.initialized "java/lang/Math" ∈ sh_ws) (hw4 : Cond.code Lib.Math.min.name Lib.Math.min.code 2 (some .int) ∈ sh_ws) (hfr : 1 ≤ y.2.2.2.2.1.1) (hlo : 30 ≤ y.2.2.2.2.1.2) (hst : st.length ≤ 8) (ha : sh_Bd a) (hb : sh_Bd b) (h : sh_O y (pc + 3) ls (.inl (min a b) :: st) cn σ Q) : sh_O y pc ls (.inl b :: .inl a :: st) cn σ Q := by
  intro p l e R s m args below meth c Z D A H0 ad ac H locs la hX hA hR hL hc hret
  have hRR : y.2.2.2.2 = ((R.frames, R.locals), (R.cells, R.slots)) := by rw [hX.2.2.2.2.2.2]; rfl
  rw [hRR] at hfr hlo
  have hc2 := hc
  rw [hRR] at hc2
  refine va_mmin hX.1 hX.2.1 (by rw [hX.2.2.1]; exact hL.1.symm) hX.2.2.2.1 (hX.2.2.2.2.1 _ hw1) (hX.2.2.2.2.1 _ hw2) (hX.2.2.2.2.1 _ hw3) (hX.2.2.2.2.1 _ hw4) hfr ?_ hc2.1 hc2.2 hd ?_
  · have hs := sh_catsum ad st
    rw [hs]
    have : 30 ≤ R.locals := hlo
    omega
  · have ee : (if Int32.ofInt b < Int32.ofInt a then Int32.ofInt b else Int32.ofInt a) = Int32.ofInt (min a b) := by
      by_cases hba : b < a
      · rw [if_pos ((sh_ltI hb ha).mpr hba), Int.min_eq_right (by omega)]
      · rw [if_neg (fun q => hba ((sh_ltI hb ha).mp q)), Int.min_eq_left (by omega)]
    rw [ee]
    exact h p l e R s m args below meth c Z D A H0 ad ac H locs la hX hA hR hL hc hret
def sh_cpy (I : sh_Mem) (src dst : Nat) (sp dp k : Int) : sh_Mem := fun a b => if a = dst ∧ dp ≤ b ∧ b < dp + k then I src (sp + (b - dp)) else I a b
theorem sh_copy {y : sh_M} {pc : Nat} {ls : List (Option sh_V)} {st : List sh_V} {cn : Nat × Nat} {n : Nat} {I : sh_Mem} {P : sh_Ptr} {Q : Option Int → sh_St → Prop} {idx o1 o2 N1 N2 : Nat} {k sp dp : Int} (hd : decode y.2.1 pc = .ok (.invokestatic idx, 3)) (hw1 : Cond.methodLink y.1.cls idx arraycopyName ∈ sh_ws) (hw2 : Cond.native arraycopyName ∈ sh_ws) (hw3 : Cond.static arraycopyName ∈ sh_ws) (hw4 : Cond.initialized "java/lang/System" ∈ sh_ws) (hfr : 1 ≤ y.2.2.2.2.1.1) (hlo : 60 ≤ y.2.2.2.2.1.2) (hst : st.length ≤ 8) (hk1 : sh_is n o1 8 N1) (hk2 : sh_is n o2 8 N2) (hN1 : N1 < 2147483648) (hN2 : N2 < 2147483648)
    (h0 : 0 ≤ k ∧ 0 ≤ sp ∧ 0 ≤ dp) (h1 : sp + k ≤ (N1 : Int)) (h2 : dp + k ≤ (N2 : Int)) (h : sh_O y (pc + 3) ls st cn (n, sh_cpy I o1 o2 sp dp k, P) Q) : sh_O y pc ls (.inl k :: .inl dp :: .inr o2 :: .inl sp :: .inr o1 :: st) cn (n, I, P) Q := by
  intro p l e R s m args below meth c Z D A H0 ad ac H locs la hX hA hR hL hc hret
  have hRR : y.2.2.2.2 = ((R.frames, R.locals), (R.cells, R.slots)) := by rw [hX.2.2.2.2.2.2]; rfl
  rw [hRR] at hfr hlo
  have he1 := sh_W_get (ad := ad) (ac := ac) (σ := (n, I, P)) hk1
  rw [sh_E_arr (by decide) (by decide)] at he1
  have he2 := sh_W_get (ad := ad) (ac := ac) (σ := (n, I, P)) hk2
  rw [sh_E_arr (by decide) (by decide)] at he2
  have bk : sh_Bd k := ⟨by omega, by omega⟩
  have bs : sh_Bd sp := ⟨by omega, by omega⟩
  have bd : sh_Bd dp := ⟨by omega, by omega⟩
  have ek : (Int32.ofInt k).toNatClampNeg = k.toNat := by show (Int32.ofInt k).toInt.toNat = _; rw [sh_ti bk]
  have es : (Int32.ofInt sp).toNatClampNeg = sp.toNat := by show (Int32.ofInt sp).toInt.toNat = _; rw [sh_ti bs]
  have ed : (Int32.ofInt dp).toNatClampNeg = dp.toNat := by show (Int32.ofInt dp).toInt.toNat = _; rw [sh_ti bd]
  have hK2 : va_K D vwCl [(ac o1, .int), (ac o2, .int)] s := by
    refine ⟨hR.1.1, fun j q hq => ?_⟩
    match j, hq with
    | 0, hq => cases hq; exact hR.1.2.1 o1 8 N1 hk1 (by decide) (by decide)
    | 1, hq => cases hq; exact hR.1.2.1 o2 8 N2 hk2 (by decide) (by decide)
    | j + 2, hq => simp at hq
  refine va_copyi hX.1 hX.2.1 (by rw [hX.2.2.1]; exact hL.1.symm) hX.2.2.2.1 (hX.2.2.2.2.1 _ hw1) (hX.2.2.2.2.1 _ hw2) (hX.2.2.2.2.1 _ hw3) (hX.2.2.2.2.1 _ hw4) hK2 hR.2.1 hR.2.2.1 hR.2.2.2.1 (o1 - 1) (o2 - 1) 0 1 he1 he2 rfl rfl rfl ?_ ?_ ?_ ?_ ?_ (fun i _ => rfl) hfr ?_ hd (fun H1 locs1 hP1 hD1 hS1 => ?_)
  · rw [sh_z, sh_ltI bs sh_Bd0]; omega
  · rw [sh_z, sh_ltI bd sh_Bd0]; omega
  · rw [sh_z, sh_ltI bk sh_Bd0]; omega
  · rw [ek, es]; omega
  · rw [ek, ed]; omega
  · rw [sh_catsum]
    have h9 : nativeFrameWords "java/lang/System" "arraycopy" 5 + 11 ≤ 50 := by decide +kernel
    have : 60 ≤ R.locals := hlo
    omega
  · have e1 : (sh_W ad ac (n, I, P)).set (o2 - 1) (ad o2, .inl (ac o2, N2, .inl (va_cpy (sh_ia I o1) (sh_ia I o2) (Int32.ofInt sp).toNatClampNeg (Int32.ofInt dp).toNatClampNeg (Int32.ofInt k).toNatClampNeg))) = sh_W ad ac (n, sh_cpy I o1 o2 sp dp k, P) := by
      refine sh_W_set hk2 (fun j hj => ?_) (fun _ _ => rfl) ?_
      · funext b
        simp [sh_cpy, hj]
      · rw [sh_E_arr (by decide) (by decide), ek, es, ed]
        congr 4
        funext j
        simp only [va_cpy, sh_ia, sh_cpy]
        by_cases hj : dp.toNat ≤ j ∧ j < dp.toNat + k.toNat
        · rw [if_pos hj, if_pos ⟨trivial, by omega, by omega⟩]
          congr 2
          omega
        · rw [if_neg hj, if_neg (fun q => hj ⟨by omega, by omega⟩)]
    obtain ⟨a1, -, -, -, b1, c1, d1, g1, j1⟩ := hR
    have hz : sh_cpy I o1 o2 sp dp k 0 = I 0 := by
      funext b
      have : ¬ 0 = o2 := fun q => absurd hk2.2.2 (by omega)
      simp [sh_cpy, this]
    refine h p l e R s m args below meth c Z D A H0 ad ac H1 locs1 la hX hA ⟨a1, by rw [← e1]; exact hP1, by rw [← e1]; exact hD1, hS1, ?_, c1, d1, g1, j1⟩ hL hc hret
    show va_X (ad 0) (sh_cpy I o1 o2 sp dp k 0 0).toNat (fun j => Int32.ofInt (sh_cpy I o1 o2 sp dp k 0 ((j : Int) + 1))) s H0
    rw [hz]
    exact b1
/-! switches -/
theorem sh_tableOut {y : sh_M} {pc : Nat} {ls : List (Option sh_V)} {st : List sh_V} {cn : Nat × Nat} {σ : sh_St} {Q : Option Int → sh_St → Prop} {dflt lo hi : Int} {offs : Array Int} {len : Nat} {x : Int} {tgt : Nat} (hd : decode y.2.1 pc = .ok (.tableswitch dflt lo hi offs, len)) (hx : sh_Bd x) (hh : x < lo ∨ hi < x) (ht : (pc : Int) + dflt = (tgt : Int)) (h : sh_O y tgt ls st cn σ Q) : sh_O y pc ls (.inl x :: st) cn σ Q := by
  intro p l e R s m args below meth c Z D A H0 ad ac H locs la hX hA hR hL hc hret
  exact lv_tableOut hX.1 hX.2.1 hd (by rw [sh_ti hx]; exact hh) ht (h p l e R s m args below meth c Z D A H0 ad ac H locs la hX hA hR hL hc hret)
theorem sh_tableIn {y : sh_M} {pc : Nat} {ls : List (Option sh_V)} {st : List sh_V} {cn : Nat × Nat} {σ : sh_St} {Q : Option Int → sh_St → Prop} {dflt lo hi : Int} {offs : Array Int} {len : Nat} {x k off : Int} {tgt : Nat} (hd : decode y.2.1 pc = .ok (.tableswitch dflt lo hi offs, len)) (hx : x = k) (hk : sh_Bd k) (h1 : ¬ k < lo) (h2 : ¬ hi < k) (ho : offs[(k - lo).toNat]? = some off) (ht : (pc : Int) + off = (tgt : Int)) (h : sh_O y tgt ls st cn σ Q) : sh_O y pc ls (.inl x :: st) cn σ Q := by
  intro p l e R s m args below meth c Z D A H0 ad ac H locs la hX hA hR hL hc hret
  subst hx
  exact lv_tableIn hX.1 hX.2.1 hd (by rw [sh_ti hk]; exact h1) (by rw [sh_ti hk]; exact h2) (by rw [sh_ti hk]; exact ho) ht (h p l e R s m args below meth c Z D A H0 ad ac H locs la hX hA hR hL hc hret)
theorem sh_lookup {y : sh_M} {pc : Nat} {ls : List (Option sh_V)} {st : List sh_V} {cn : Nat × Nat} {σ : sh_St} {Q : Option Int → sh_St → Prop} {dflt : Int} {ps : Array (Int × Int)} {len : Nat} {x off : Int} {tgt : Nat} (hd : decode y.2.1 pc = .ok (.lookupswitch dflt ps, len)) (hp : (ps.toList.zip (ps.toList.drop 1)).all (fun (a, next) => a.1 < next.1) = true) (hx : sh_Bd x) (ho : Op.lookupswitch.offset ps.toList dflt x = off) (ht : (pc : Int) + off = (tgt : Int)) (h : sh_O y tgt ls st cn σ Q) : sh_O y pc ls (.inl x :: st) cn σ Q := by
  intro p l e R s m args below meth c Z D A H0 ad ac H locs la hX hA hR hL hc hret
  exact lv_lookup hX.1 hX.2.1 hd hp (by rw [sh_ti hx]; exact ho) ht (h p l e R s m args below meth c Z D A H0 ad ac H locs la hX hA hR hL hc hret)
end
section
/-! calls -/
def sh_U (D : va_G) (ad : Nat → Nat) (ac : Nat → ClassId) (σ : sh_St) (A : Nat → Prop) (U : State) : Prop :=
  sh_K D ac σ.1 U ∧ va_P D vwCl (sh_W ad ac σ) U.heap ∧ va_D A (sh_W ad ac σ) ∧ va_X (ad 0) (σ.2.1 0 0).toNat (fun j => Int32.ofInt (σ.2.1 0 ((j : Int) + 1))) U U.heap ∧ ad 0 < U.heap.size ∧ (∀ (k : Nat) (q : Nat × va_E), (sh_W ad ac σ)[k]? = some q → q.1 ≠ ad 0) ∧ (∀ o f q, σ.2.2 o f = some q → q < σ.1) ∧ 0 < σ.1
/-- what a call of y with these arguments brings about, from any heap that holds the memory -/
def sh_C (y : sh_M) (as : List sh_V) (σ : sh_St) (Q : Option Int → sh_St → Prop) : Prop :=
  ∀ (l : Launch) (D : va_G) (ad : Nat → Nat) (ac : Nat → ClassId) (sz : Nat),
    Met l y.1 (sh_wsy y) (sh_rm y) (va_Pc (as.map (sh_tr ad)) (fun U => U.heap.size = sz ∧ sh_U D ad ac σ (fun _ => True) U))
      (fun _ st o t => (∃ (r : Option Int) (σ' : sh_St) (ad' : Nat → Nat) (ac' : Nat → ClassId), Q r σ' ∧ o = .returned (r.map (fun z => Value.int (Int32.ofInt z))) ∧ sh_U D ad' ac' σ' (va_A (sh_W ad ac σ) sz) t ∧
        (y.2.2.2.2.2.1 = 0 → ad' = ad ∧ ac' = ac) ∧ (∀ k, k < σ.1 → ad' k = ad k ∧ ac' k = ac k) ∧ σ.1 ≤ σ'.1) ∧ va_F (va_A (sh_W ad ac σ) sz) st t)
      y.2.2.2.2.2.1 y.2.2.2.2.2.2 (va_A (sh_W ad ac σ) sz)
theorem sh_U.blind {D : va_G} {ad : Nat → Nat} {ac : Nat → ClassId} {σ : sh_St} {A : Nat → Prop} {U : State} {g : JFrame} {mk : MethodId} {a : Array Value} (h : sh_U D ad ac σ A U) : sh_U D ad ac σ A (U.calling g mk a) := by
  obtain ⟨a1, a2, a3, a4, a5, a6, a7, a8⟩ := h
  have hv : U.vm.Alike (U.calling g mk a).vm := Vm.Alike.refl U.vm
  exact ⟨⟨fun c q hq => u_Kn_moved hv (a1.1 c q hq), fun o ci N x y z => ⟨arrOfT_moved hv (a1.2.1 o ci N x y z).1, (a1.2.1 o ci N x y z).2.moved hv⟩, fun q hq => va_Nw.same (u := U) (U := U.calling g mk a) rfl rfl (a1.2.2.1 q hq), a1.2.2.2.moved hv⟩, a2, a3, a4.moved hv, a5, a6, a7, a8⟩
theorem sh_C.mono {y : sh_M} {as : List sh_V} {σ : sh_St} {Q Q' : Option Int → sh_St → Prop} (h : sh_C y as σ Q) (hq : ∀ r σ', Q r σ' → Q' r σ') : sh_C y as σ Q' := by
  intro l D ad ac sz
  intro p e b1 b2 b3 s m args below b4 b5 b6 b7
  obtain ⟨k, o, c1, c2, c3, ⟨⟨r, σ', ad', ac', h1, h2⟩, h3⟩, c5⟩ := h l D ad ac sz p e b1 b2 b3 s m args below b4 b5 b6 b7
  exact ⟨k, o, c1, c2, c3, ⟨⟨r, σ', ad', ac', hq r σ' h1, h2⟩, h3⟩, c5⟩
theorem sh_lg_one {ad : Nat → Nat} (vs : List sh_V) : lg_sl (vs.map (sh_tr ad)) = vs.map (fun v => Slot.val (sh_tr ad v)) := by
  induction vs with
  | nil => rfl
  | cons v vs ih =>
    simp only [lg_sl, List.map_cons, List.flatMap_cons] at ih ⊢
    rw [ih, if_neg (by rw [sh_tr_cat]; decide)]
    rfl
theorem sh_lg_len {ad : Nat → Nat} (vs : List sh_V) : (lg_sl (vs.map (sh_tr ad))).length = vs.length := by rw [sh_lg_one, List.length_map]
theorem sh_L_entry {ad : Nat → Nat} {as : List sh_V} {n : Nat} (hn : as.length ≤ n) : sh_L ad ((lg_sl (as.map (sh_tr ad)) ++ List.replicate (n - (lg_sl (as.map (sh_tr ad))).length) Slot.unset).toArray) n (as.map some ++ List.replicate (n - as.length) none) := by
  have hlv := lv_entry (as.map (sh_tr ad)) (n := n) (by rw [sh_lg_len]; exact hn)
  refine ⟨hlv.1, hlv.2.1, fun i v hi => ?_⟩
  rw [sh_lg_one]
  by_cases h : i < as.length
  · rw [List.getElem?_append_left (by simpa using h), List.getElem?_map] at hi
    rw [List.getElem?_toArray, List.getElem?_append_left (by simpa using h), List.getElem?_map]
    cases hq : as[i]? with
    | none => rw [hq] at hi; cases hi
    | some w => rw [hq] at hi; simp only [Option.map_some, Option.some.injEq] at hi ⊢; rw [hi]
  · rw [List.getElem?_append_right (by simpa using h)] at hi
    rw [List.getElem?_replicate] at hi
    split at hi <;> simp at hi
/-- a body's walk is a contract -/
theorem sh_call {y : sh_M} {as : List sh_V} {σ : sh_St} {Q : Option Int → sh_St → Prop} (hy : plainName y.1.cls = true) (hlen : as.length ≤ y.2.2.1) (h : sh_O y 0 (as.map some ++ List.replicate (y.2.2.1 - as.length) none) [] (0, 0) σ Q) : sh_C y as σ Q := by
  intro l D ad ac sz
  refine Met.ofW (cc := y.2.1) (maxL := y.2.2.1) (ret := y.2.2.2.1) hy rfl ?_
  intro p e s m args below meth c s₁ B hml hv
  obtain ⟨rfl, hsz, a1, a2, a3, a4, a5, a6, a7, a8⟩ := hv
  have hts := atoms_spec (ws := sh_wsy y) B.pre
  have hX : sh_X y p (sh_rm y) s m (as.map (sh_tr ad)).toArray meth c := ⟨B.exec, B.bytes, hml, findClass_of_methodNamed B.named, fun w hw => hts w (List.mem_cons_of_mem _ hw), fun hi => (name_of_methodNamed B.named B.method).1.trans hi, rfl⟩
  have hA : ∀ q : Nat, s.heap.size ≤ q → va_A (sh_W ad ac σ) sz q := fun q hq => Or.inr (by omega)
  have hnA : ¬ va_A (sh_W ad ac σ) sz (ad 0) := by
    rintro (⟨k, e9, hk⟩ | hle)
    · exact a6 k _ hk rfl
    · omega
  have hR : sh_R D ad ac σ (va_A (sh_W ad ac σ) sz) s s.heap s.heap [] := ⟨a1, a2, a3.self, va_S.rf, a4, a5, hnA, a7, a8⟩
  rw [lg_entry_eq]
  refine h p l e (sh_rm y) s m _ below meth c _ D (va_A (sh_W ad ac σ) sz) s.heap ad ac s.heap [] _ hX hA hR (sh_L_entry hlen) ⟨Nat.zero_le _, Nat.zero_le _⟩ ?_
  intro r σ' ad' ac' H' locs' la' pc' hQ hR' h0 hs hle hr
  have hU : ∀ t : State, t.heap = H' → s.WarmedH t.vm → sh_U D ad' ac' σ' (va_A (sh_W ad ac σ) sz) t := by
    intro t ht hW
    obtain ⟨c1, c2, c3, c4, c5, c6, c7, c8, c9⟩ := hR'
    refine ⟨c1.moved hW, by rw [ht]; exact c2, c3, ?_, ?_, fun k q hk he => c7 (by rw [← he]; exact c3.2 k q hk), c8, c9⟩
    · rw [ht]
      exact (c5.kept (c4.2.1 _ c6 c7)).moved hW.alike
    · rw [ht]
      exact Nat.lt_of_lt_of_le c6 c4.1
  cases r with
  | none =>
    obtain ⟨hd, hrt⟩ := hr
    exact W.vret hX.1 hX.2.1 (by rw [B.returns]; exact hrt) (fun t ht hW => ⟨⟨none, σ', ad', ac', hQ, rfl, hU t ht hW, h0, hs, hle⟩, hR'.2.2.2.1.F ht⟩) hR'.2.2.2.1.2.2 hd B.notSynchronized
  | some z =>
    obtain ⟨hd, ty, hrt, hnr⟩ := hr
    exact W.zret hX.1 hX.2.1 (ty := ty) (by rw [B.returns]; exact hrt) hnr (fun t ht hW => ⟨⟨some z, σ', ad', ac', hQ, rfl, hU t ht hW, h0, hs, hle⟩, hR'.2.2.2.1.F ht⟩) hR'.2.2.2.1.2.2 hd B.notSynchronized
/-- the words of a callee among ours -/
theorem sh_good {y : sh_M} (h : Cond.code y.1 y.2.1 y.2.2.1 y.2.2.2.1 ∈ sh_ws) : GoodIn sh_ws (sh_wsy y) := by
  have hg : ∀ w ∈ sh_ws, w ∈ sh_ws ∧ ((w.onTables && w.keeps) = true ∨ ∃ ty, w = .arrayClass ty) := fun w hw => ⟨hw, good_of_word (List.mem_filter.mp hw).2⟩
  intro w hw
  rcases List.mem_cons.mp hw with e | hw
  · rw [e]
    exact hg _ h
  · exact hg w hw
def sh_cd (y : sh_M) (n : Nat) : Prop := Cond.code y.1 y.2.1 y.2.2.1 y.2.2.2.1 ∈ sh_ws ∧ (y.1.cls ≠ "java/lang/invoke/MethodHandle" ∧ y.1.cls ≠ "java/lang/invoke/VarHandle" ∧ (parseMethodDescriptor y.1.desc).map (fun d => d.parameters.length) = some n) ∧ Cond.initialized y.1.cls ∈ sh_ws ∧ plainName y.1.cls = true
def sh_LV (own : String) (idx : Nat) (y : sh_M) (n ci N : Nat) : Prop := sh_cd y n ∧ Cond.methodLink own idx y.1 ∈ sh_ws ∧ Cond.instanceMethod y.1 ∈ sh_ws ∧ Cond.selects y.1.cls y.1 y.1 ∈ sh_ws ∧ ∃ T, sh_cls ci y.1.cls T N
def sh_LS (own : String) (idx : Nat) (y : sh_M) (n : Nat) : Prop := sh_cd y n ∧ Cond.methodLink own idx y.1 ∈ sh_ws ∧ Cond.static y.1 ∈ sh_ws
def sh_LSN (own : String) (idx : Nat) (y : sh_M) (n : Nat) : Prop := sh_cd y n ∧ (∃ host, (own, idx, y.1, host) ∈ sh_nest) ∧ Cond.static y.1 ∈ sh_ws
def sh_LI (own : String) (idx : Nat) (y : sh_M) (n : Nat) : Prop := sh_cd y n ∧ Cond.methodLink own idx y.1 ∈ sh_ws ∧ Cond.instanceMethod y.1 ∈ sh_ws ∧ y.1.name = "<init>" ∧ y.2.2.2.1 = none
def sh_LIN (own : String) (idx : Nat) (y : sh_M) (n : Nat) : Prop := sh_cd y n ∧ (∃ host, (own, idx, y.1, host) ∈ sh_nest) ∧ Cond.instanceMethod y.1 ∈ sh_ws ∧ y.1.name = "<init>" ∧ y.2.2.2.1 = none
/-- room for a call of y2 in y, with cells and slots made so far -/
def sh_fit (y y2 : sh_M) (cn : Nat × Nat) (k : Nat) : Prop := y2.2.2.2.2.1.1 + 1 ≤ y.2.2.2.2.1.1 ∧ 8 + (y2.2.2.1 + 11) + y2.2.2.2.2.1.2 ≤ y.2.2.2.2.1.2 ∧ cn.1 + y2.2.2.2.2.2.1 ≤ y.2.2.2.2.2.1 ∧ cn.2 + y2.2.2.2.2.2.2 ≤ y.2.2.2.2.2.2 ∧ k ≤ 8
/-- behind a call, whatever kind it was -/
theorem sh_back {y y2 : sh_M} {pc : Nat} {ls : List (Option sh_V)} {st : List sh_V} {st0 : List Value} {cn : Nat × Nat} {σ : sh_St} {Q Q1 : Option Int → sh_St → Prop}
    {p : Program} {l : Launch} {e : Env} {R : Room} {s : State} {m : MethodId} {args : Array Value} {below : List Frame} {meth : Method} {c : Code} {Z : State → Prop}
    {D : va_G} {A : Nat → Prop} {H0 : Heap} {ad : Nat → Nat} {ac : Nat → ClassId} {H : Heap} {locs : List Loc} {la : Array Slot}
    (hX : sh_X y p R s m args meth c) (hA : ∀ q, H0.size ≤ q → A q) (hR : sh_R D ad ac σ A s H0 H locs) (hL : sh_L ad la y.2.2.1 ls) (hmc : cn.1 + y2.2.2.2.2.2.1 ≤ y.2.2.2.2.2.1 ∧ cn.2 + y2.2.2.2.2.2.2 ≤ y.2.2.2.2.2.2)
    (hret : ∀ (r : Option Int) (σ' : sh_St) (ad' : Nat → Nat) (ac' : Nat → ClassId) (H' : Heap) (locs' : List Loc) (la' : Array Slot) (pc' : Nat), Q r σ' → sh_R D ad' ac' σ' A s H0 H' locs' →
      (y.2.2.2.2.2.1 = 0 → ad' = ad ∧ ac' = ac) → (∀ k, k < σ.1 → ad' k = ad k ∧ ac' k = ac k) → σ.1 ≤ σ'.1 → sh_ret y pc' r →
      W p l e R s m args below meth c H' locs' y.2.2.2.2.2.1 y.2.2.2.2.2.2 Z (F0 m pc' la' (r.map (fun z => Value.int (Int32.ofInt z))).toList))
    (hst : y2.2.2.2.2.2.1 = 0 ∨ (sh_noref σ.1 st ∧ ∀ o : Nat, some (Sum.inr o) ∈ ls → o < σ.1))
    (h : ∀ r σ', Q1 r σ' → sh_O y (pc + 3) ls (r.toList.map Sum.inl ++ st) (cn.1 + y2.2.2.2.2.2.1, cn.2 + y2.2.2.2.2.2.2) σ' Q)
    (hr : va_Run p l e R s m args below meth c H locs cn.1 cn.2 y2.2.2.2.2.2.1 y2.2.2.2.2.2.2 (F0 m pc la st0) (st.map (sh_tr ad)) (fun st o t => (∃ (r : Option Int) (σ' : sh_St) (ad' : Nat → Nat) (ac' : Nat → ClassId), Q1 r σ' ∧ o = .returned (r.map (fun z => Value.int (Int32.ofInt z))) ∧ sh_U D ad' ac' σ' (va_A (sh_W ad ac σ) H.size) t ∧
        (y2.2.2.2.2.2.1 = 0 → ad' = ad ∧ ac' = ac) ∧ (∀ k, k < σ.1 → ad' k = ad k ∧ ac' k = ac k) ∧ σ.1 ≤ σ'.1) ∧ va_F (va_A (sh_W ad ac σ) H.size) st t) (va_A (sh_W ad ac σ) H.size)) :
    W p l e R s m args below meth c H locs cn.1 cn.2 Z (F0 m pc la st0) := by
  intro T hT X
  obtain ⟨v, st₀, t, T', L, g0, X', hLf, e1, e2, ⟨⟨r, σ', ad', ac', hQ, ho, hU, k0, ks, kle⟩, hz, hk⟩, stp⟩ := hr T hT X
  cases ho
  rw [g0] at hz hk
  obtain ⟨a1, a2, a3, a4, b1, c1, d1, g1, j1⟩ := hR
  have hAA : ∀ q, va_A (sh_W ad ac σ) H.size q → A q := by
    rintro q (⟨k, e9, hk9⟩ | hle)
    · exact a3.2 k _ hk9
    · exact hA q (Nat.le_trans a4.1 hle)
  have hS1 : va_S A H0 T'.heap (locs ++ L) := ⟨Nat.le_trans a4.1 (by rw [e1]; exact hz), fun q h1 h2 => by
      rw [e1, hk q (Nat.lt_of_lt_of_le h1 a4.1) (fun z => h2 (hAA q z))]
      exact a4.2.1 q h1 h2, fun q hq => by
      rcases List.mem_append.mp hq with h | h
      · exact a4.2.2 q h
      · exact hAA _ (hLf q h)⟩
  obtain ⟨u1, u2, u3, u4, u5, u6, u7, u8⟩ := hU
  have hal : t.vm.Alike s.vm := by rw [← e2]; exact X'.warmed.alike.symm
  have hK1 : sh_K D ac' σ'.1 s := ⟨a1.1, fun o ci N x y z => ⟨arrOfT_moved hal (u1.2.1 o ci N x y z).1, (u1.2.1 o ci N x y z).2.moved hal⟩, a1.2.2.1, a1.2.2.2⟩
  have hX1 : va_X (ad' 0) (σ'.2.1 0 0).toNat (fun j => Int32.ofInt (σ'.2.1 0 ((j : Int) + 1))) s H0 := by
    have h1 : va_X (ad' 0) (σ'.2.1 0 0).toNat (fun j => Int32.ofInt (σ'.2.1 0 ((j : Int) + 1))) s t.heap := u4.moved hal
    refine h1.kept ?_
    rw [(ks 0 j1).1]
    have h9 := hS1.2.1 _ c1 d1
    rw [e1] at h9
    exact h9.symm
  have hR1 : sh_R D ad' ac' σ' A s H0 T'.heap (locs ++ L) := ⟨hK1, by rw [e1]; exact u2, u3.weaken (fun k q hk h => hAA _ h), hS1, hX1, by rw [(ks 0 j1).1]; exact c1, by rw [(ks 0 j1).1]; exact d1, u7, u8⟩
  have hsame : st.map (sh_tr ad') = st.map (sh_tr ad) ∧ sh_L ad' la y.2.2.1 ls := by
    rcases hst with h9 | ⟨h9, h10⟩
    · rw [(k0 h9).1]
      exact ⟨rfl, hL⟩
    · exact ⟨sh_tr_same h9 (fun k hk => (ks k hk).1), hL.same h10 (fun k hk => (ks k hk).1)⟩
  have hgo := h r σ' hQ p l e R s m args below meth c Z D A H0 ad' ac' T'.heap (locs ++ L) la hX hA hR1 hsame.2 hmc (fun r2 σ2 ad2 ac2 H2 locs2 la2 pc2 q1 q2 q3 q4 q5 q6 =>
    hret r2 σ2 ad2 ac2 H2 locs2 la2 pc2 q1 q2 (fun h9 => by
      have hz9 : y2.2.2.2.2.2.1 = 0 := by have := hmc.1; omega
      exact ⟨(q3 h9).1.trans (k0 hz9).1, (q3 h9).2.trans (k0 hz9).2⟩) (fun k hk => ⟨(q4 k (Nat.lt_of_lt_of_le hk kle)).1.trans (ks k hk).1, (q4 k (Nat.lt_of_lt_of_le hk kle)).2.trans (ks k hk).2⟩) (Nat.le_trans kle q5) q6)
  have est : (r.toList.map Sum.inl ++ st).map (sh_tr ad') = (r.map (fun z => Value.int (Int32.ofInt z))).toList ++ st.map (sh_tr ad) := by
    rw [List.map_append, hsame.1]
    cases r <;> rfl
  rw [est] at hgo
  obtain ⟨t2, q1, q2⟩ := hgo T' rfl X'
  exact ⟨t2, stp t2 q1, q2⟩
theorem sh_preS {D : va_G} {ad : Nat → Nat} {ac : Nat → ClassId} {σ : sh_St} {A : Nat → Prop} {s : State} {H0 H : Heap} {locs : List Loc} {as : List sh_V} (hR : sh_R D ad ac σ A s H0 H locs) : PreS s H (va_Pc (as.map (sh_tr ad)) (fun U => U.heap.size = H.size ∧ sh_U D ad ac σ (fun _ => True) U)) (as.map (sh_tr ad)) := by
  obtain ⟨a1, a2, a3, a4, b1, c1, d1, g1, j1⟩ := hR
  refine ⟨fun a U g mk q => ⟨q.1, q.2.1, q.2.2.blind⟩, fun U hU hW => ⟨rfl, by rw [hU], a1.moved hW, by rw [hU]; exact a2, a3.weaken (fun _ _ _ _ => trivial), ?_, ?_, fun k q hk he => d1 (by rw [← he]; exact a3.2 k q hk), g1, j1⟩⟩
  · have h9 : va_X (ad 0) (σ.2.1 0 0).toNat (fun j => Int32.ofInt (σ.2.1 0 ((j : Int) + 1))) s U.heap := by
      rw [hU]
      exact b1.kept (a4.2.1 _ c1 d1)
    exact h9.moved hW.alike
  · rw [hU]
    exact Nat.lt_of_lt_of_le c1 a4.1
theorem sh_recv {D : va_G} {ad : Nat → Nat} {ac : Nat → ClassId} {σ : sh_St} {A : Nat → Prop} {s : State} {H0 H : Heap} {locs : List Loc} {o ci N : Nat} {C : String} {T : u_T} (hR : sh_R D ad ac σ A s H0 H locs) (hC : sh_cls ci C T N) (hk : sh_is σ.1 o ci N) : ∃ cellB : Cell, H[ad o]? = some cellB ∧ cellB.vm.isStatics = false ∧ s.vm.findClass C = some cellB.cls := by
  have he := sh_W_get (ad := ad) (ac := ac) hk
  rw [sh_E_obj hC.2.2.2.2] at he
  exact va_recv hR.1.none hR.2.1 hC.1 he
theorem sh_callS {y y2 : sh_M} {pc : Nat} {ls : List (Option sh_V)} {st : List sh_V} {cn : Nat × Nat} {σ : sh_St} {Q Q1 : Option Int → sh_St → Prop} {idx n : Nat} {as : List sh_V}  (hd : decode y.2.1 pc = .ok (.invokestatic idx, 3)) (hl : sh_LS y.1.cls idx y2 n) (hC : sh_C y2 as σ Q1) (hn : as.length = n) (hf : sh_fit y y2 cn st.length) (hst : y2.2.2.2.2.2.1 = 0 ∨ (sh_noref σ.1 st ∧ ∀ o : Nat, some (Sum.inr o) ∈ ls → o < σ.1)) (h : ∀ r σ', Q1 r σ' → sh_O y (pc + 3) ls (r.toList.map Sum.inl ++ st) (cn.1 + y2.2.2.2.2.2.1, cn.2 + y2.2.2.2.2.2.2) σ' Q) : sh_O y pc ls (as.reverse ++ st) cn σ Q := by
  intro p l e R s m args below meth c Z D A H0 ad ac H locs la hX hA hR hL hc hret
  obtain ⟨hcd, hw1, hw2⟩ := hl
  have hRR : y.2.2.2.2 = ((R.frames, R.locals), (R.cells, R.slots)) := by rw [hX.2.2.2.2.2.2]; rfl
  have hf0 := hf
  unfold sh_fit at hf
  rw [hRR] at hf
  have hroom : 2 * (F0 m pc la ((as.reverse ++ st).map (sh_tr ad))).monitorRoom + ((st.map (sh_tr ad)).map fun v => v.category).sum ≤ 8 := by
    show 2 * 0 + _ ≤ 8
    rw [sh_catsum]
    have := hf.2.2.2.2
    omega
  exact sh_back hX hA hR hL ⟨hf0.2.2.1, hf0.2.2.2.1⟩ hret hst h (va_runS (As := as.map (sh_tr ad)) (rest := st.map (sh_tr ad)) ⟨hX.1, hX.2.1, hX.2.2.1, hX.2.2.2.1, hX.2.2.2.2.1⟩ (hC l D ad ac H.size) ⟨callB_of n hX.2.2.2.2.1 (sh_good hcd.1) rfl rfl rfl (hX.2.2.2.2.1 _ hcd.2.2.1) (hX.2.2.2.2.1 _ hw1) hcd.2.1 ⟨hf.1, hf.2.1⟩, hX.2.2.2.2.1 _ hw2⟩ (sh_preS hR) rfl (by rw [List.length_map]; exact hn) hL.1 (by rw [List.map_append, List.map_reverse]) hroom hd ⟨hf.2.2.1, hf.2.2.2.1⟩)
theorem sh_callSN {y y2 : sh_M} {pc : Nat} {ls : List (Option sh_V)} {st : List sh_V} {cn : Nat × Nat} {σ : sh_St} {Q Q1 : Option Int → sh_St → Prop} {idx n : Nat} {as : List sh_V}  (hd : decode y.2.1 pc = .ok (.invokestatic idx, 3)) (hl : sh_LSN y.1.cls idx y2 n) (hC : sh_C y2 as σ Q1) (hn : as.length = n) (hf : sh_fit y y2 cn st.length) (hst : y2.2.2.2.2.2.1 = 0 ∨ (sh_noref σ.1 st ∧ ∀ o : Nat, some (Sum.inr o) ∈ ls → o < σ.1)) (h : ∀ r σ', Q1 r σ' → sh_O y (pc + 3) ls (r.toList.map Sum.inl ++ st) (cn.1 + y2.2.2.2.2.2.1, cn.2 + y2.2.2.2.2.2.2) σ' Q) : sh_O y pc ls (as.reverse ++ st) cn σ Q := by
  intro p l e R s m args below meth c Z D A H0 ad ac H locs la hX hA hR hL hc hret
  obtain ⟨hcd, ⟨host, hw1⟩, hw2⟩ := hl
  have hRR : y.2.2.2.2 = ((R.frames, R.locals), (R.cells, R.slots)) := by rw [hX.2.2.2.2.2.2]; rfl
  have hf0 := hf
  unfold sh_fit at hf
  rw [hRR] at hf
  have hroom : 2 * (F0 m pc la ((as.reverse ++ st).map (sh_tr ad))).monitorRoom + ((st.map (sh_tr ad)).map fun v => v.category).sum ≤ 8 := by
    show 2 * 0 + _ ≤ 8
    rw [sh_catsum]
    have := hf.2.2.2.2
    omega
  exact sh_back hX hA hR hL ⟨hf0.2.2.1, hf0.2.2.2.1⟩ hret hst h (va_runSN (As := as.map (sh_tr ad)) (rest := st.map (sh_tr ad)) ⟨hX.1, hX.2.1, hX.2.2.1, hX.2.2.2.1, hX.2.2.2.2.1⟩ (hC l D ad ac H.size) ⟨va_cnB n hX.2.2.2.2.1 (sh_good hcd.1) rfl rfl rfl (hR.1.2.2.1 _ hw1) (hX.2.2.2.2.1 _ hcd.2.2.1) hcd.2.1 ⟨hf.1, hf.2.1⟩, hX.2.2.2.2.1 _ hw2, trivial⟩ (sh_preS hR) rfl (by rw [List.length_map]; exact hn) hL.1 (by rw [List.map_append, List.map_reverse]) hroom hd ⟨hf.2.2.1, hf.2.2.2.1⟩)
theorem sh_callV {y y2 : sh_M} {pc : Nat} {ls : List (Option sh_V)} {st : List sh_V} {cn : Nat × Nat} {σ : sh_St} {Q Q1 : Option Int → sh_St → Prop} {idx n : Nat} {as : List sh_V} {o ci N : Nat} (hk : sh_is σ.1 o ci N) (hd : decode y.2.1 pc = .ok (.invokevirtual idx, 3)) (hl : sh_LV y.1.cls idx y2 n ci N) (hC : sh_C y2 (.inr o :: as) σ Q1) (hn : as.length = n) (hf : sh_fit y y2 cn st.length) (hst : y2.2.2.2.2.2.1 = 0 ∨ (sh_noref σ.1 st ∧ ∀ o : Nat, some (Sum.inr o) ∈ ls → o < σ.1)) (h : ∀ r σ', Q1 r σ' → sh_O y (pc + 3) ls (r.toList.map Sum.inl ++ st) (cn.1 + y2.2.2.2.2.2.1, cn.2 + y2.2.2.2.2.2.2) σ' Q) : sh_O y pc ls (as.reverse ++ .inr o :: st) cn σ Q := by
  intro p l e R s m args below meth c Z D A H0 ad ac H locs la hX hA hR hL hc hret
  obtain ⟨hcd, hw1, hw2, hw3, T, hcl⟩ := hl
  have hRR : y.2.2.2.2 = ((R.frames, R.locals), (R.cells, R.slots)) := by rw [hX.2.2.2.2.2.2]; rfl
  have hf0 := hf
  unfold sh_fit at hf
  rw [hRR] at hf
  have hroom : 2 * (F0 m pc la ((as.reverse ++ .inr o :: st).map (sh_tr ad))).monitorRoom + ((st.map (sh_tr ad)).map fun v => v.category).sum ≤ 8 := by
    show 2 * 0 + _ ≤ 8
    rw [sh_catsum]
    have := hf.2.2.2.2
    omega
  exact sh_back hX hA hR hL ⟨hf0.2.2.1, hf0.2.2.2.1⟩ hret hst h (va_runV (C := y2.1.cls) (b := ad o) (As := as.map (sh_tr ad)) (rest := st.map (sh_tr ad)) ⟨hX.1, hX.2.1, hX.2.2.1, hX.2.2.2.1, hX.2.2.2.2.1⟩ (hC l D ad ac H.size) ⟨callB_of n hX.2.2.2.2.1 (sh_good hcd.1) rfl rfl rfl (hX.2.2.2.2.1 _ hcd.2.2.1) (hX.2.2.2.2.1 _ hw1) hcd.2.1 ⟨hf.1, hf.2.1⟩, hX.2.2.2.2.1 _ hw2, hX.2.2.2.2.1 _ hw3⟩ ⟨(sh_preS (as := .inr o :: as) hR).1, sh_recv hR hcl hk, (sh_preS (as := .inr o :: as) hR).2⟩ rfl (by rw [List.length_map]; exact hn) hL.1 (by rw [List.map_append, List.map_reverse]; rfl) hroom hd ⟨hf.2.2.1, hf.2.2.2.1⟩)
theorem sh_callI {y y2 : sh_M} {pc : Nat} {ls : List (Option sh_V)} {st : List sh_V} {cn : Nat × Nat} {σ : sh_St} {Q Q1 : Option Int → sh_St → Prop} {idx n : Nat} {as : List sh_V} {o : Nat} (hd : decode y.2.1 pc = .ok (.invokespecial idx, 3)) (hl : sh_LI y.1.cls idx y2 n) (hC : sh_C y2 (.inr o :: as) σ Q1) (hn : as.length = n) (hf : sh_fit y y2 cn st.length) (hst : y2.2.2.2.2.2.1 = 0 ∨ (sh_noref σ.1 st ∧ ∀ o : Nat, some (Sum.inr o) ∈ ls → o < σ.1)) (h : ∀ r σ', Q1 r σ' → sh_O y (pc + 3) ls (r.toList.map Sum.inl ++ st) (cn.1 + y2.2.2.2.2.2.1, cn.2 + y2.2.2.2.2.2.2) σ' Q) : sh_O y pc ls (as.reverse ++ .inr o :: st) cn σ Q := by
  intro p l e R s m args below meth c Z D A H0 ad ac H locs la hX hA hR hL hc hret
  obtain ⟨hcd, hw1, hw2, hnm, hrn⟩ := hl
  have hRR : y.2.2.2.2 = ((R.frames, R.locals), (R.cells, R.slots)) := by rw [hX.2.2.2.2.2.2]; rfl
  have hf0 := hf
  unfold sh_fit at hf
  rw [hRR] at hf
  have hroom : 2 * (F0 m pc la ((as.reverse ++ .inr o :: st).map (sh_tr ad))).monitorRoom + ((st.map (sh_tr ad)).map fun v => v.category).sum ≤ 8 := by
    show 2 * 0 + _ ≤ 8
    rw [sh_catsum]
    have := hf.2.2.2.2
    omega
  exact sh_back hX hA hR hL ⟨hf0.2.2.1, hf0.2.2.2.1⟩ hret hst h (va_runI (b := ad o) (As := as.map (sh_tr ad)) (rest := st.map (sh_tr ad)) ⟨hX.1, hX.2.1, hX.2.2.1, hX.2.2.2.1, hX.2.2.2.2.1⟩ (hC l D ad ac H.size) ⟨callB_of n hX.2.2.2.2.1 (sh_good (y := y2) hcd.1) (by rw [← hrn]; rfl) rfl rfl (hX.2.2.2.2.1 _ hcd.2.2.1) (hX.2.2.2.2.1 _ hw1) hcd.2.1 ⟨hf.1, hf.2.1⟩, hnm, hX.2.2.2.2.1 _ hw2⟩ (sh_preS (as := .inr o :: as) hR) rfl (by rw [List.length_map]; exact hn) hL.1 (by rw [List.map_append, List.map_reverse]; rfl) hroom hd ⟨hf.2.2.1, hf.2.2.2.1⟩)
theorem sh_callIN {y y2 : sh_M} {pc : Nat} {ls : List (Option sh_V)} {st : List sh_V} {cn : Nat × Nat} {σ : sh_St} {Q Q1 : Option Int → sh_St → Prop} {idx n : Nat} {as : List sh_V} {o : Nat} (hd : decode y.2.1 pc = .ok (.invokespecial idx, 3)) (hl : sh_LIN y.1.cls idx y2 n) (hC : sh_C y2 (.inr o :: as) σ Q1) (hn : as.length = n) (hf : sh_fit y y2 cn st.length) (hst : y2.2.2.2.2.2.1 = 0 ∨ (sh_noref σ.1 st ∧ ∀ o : Nat, some (Sum.inr o) ∈ ls → o < σ.1)) (h : ∀ r σ', Q1 r σ' → sh_O y (pc + 3) ls (r.toList.map Sum.inl ++ st) (cn.1 + y2.2.2.2.2.2.1, cn.2 + y2.2.2.2.2.2.2) σ' Q) : sh_O y pc ls (as.reverse ++ .inr o :: st) cn σ Q := by
  intro p l e R s m args below meth c Z D A H0 ad ac H locs la hX hA hR hL hc hret
  obtain ⟨hcd, ⟨host, hw1⟩, hw2, hnm, hrn⟩ := hl
  have hRR : y.2.2.2.2 = ((R.frames, R.locals), (R.cells, R.slots)) := by rw [hX.2.2.2.2.2.2]; rfl
  have hf0 := hf
  unfold sh_fit at hf
  rw [hRR] at hf
  have hroom : 2 * (F0 m pc la ((as.reverse ++ .inr o :: st).map (sh_tr ad))).monitorRoom + ((st.map (sh_tr ad)).map fun v => v.category).sum ≤ 8 := by
    show 2 * 0 + _ ≤ 8
    rw [sh_catsum]
    have := hf.2.2.2.2
    omega
  exact sh_back hX hA hR hL ⟨hf0.2.2.1, hf0.2.2.2.1⟩ hret hst h (va_runIN (b := ad o) (As := as.map (sh_tr ad)) (rest := st.map (sh_tr ad)) ⟨hX.1, hX.2.1, hX.2.2.1, hX.2.2.2.1, hX.2.2.2.2.1⟩ (hC l D ad ac H.size) ⟨va_cnB n hX.2.2.2.2.1 (sh_good (y := y2) hcd.1) (by rw [← hrn]; rfl) rfl rfl (hR.1.2.2.1 _ hw1) (hX.2.2.2.2.1 _ hcd.2.2.1) hcd.2.1 ⟨hf.1, hf.2.1⟩, hnm, hX.2.2.2.2.1 _ hw2⟩ (sh_preS (as := .inr o :: as) hR) rfl (by rw [List.length_map]; exact hn) hL.1 (by rw [List.map_append, List.map_reverse]; rfl) hroom hd ⟨hf.2.2.1, hf.2.2.2.1⟩)
end
section
/-! ===== 07: words, classes, methods, fields, calls, by program ===== -/
theorem sh_inw (n : Nat) {w : Cond} (h : lw_tbl[n]? = some w) (g : goodWord w = true) : w ∈ sh_ws := List.mem_filter.mpr ⟨List.mem_of_getElem? h, g⟩
theorem cl_X0 : sh_cls 0 RX0 TX0 5 := ⟨rfl, by decide +kernel, tyX0_ok, nmX0, by decide⟩
theorem cl_X1 : sh_cls 1 RX1 TX1 7 := ⟨rfl, by decide +kernel, tyX1_ok, nmX1, by decide⟩
theorem cl_X2 : sh_cls 2 RX2 TX2 3 := ⟨rfl, by decide +kernel, tyX2_ok, nmX2, by decide⟩
theorem cl_X3 : sh_cls 3 RX3 TX3 4 := ⟨rfl, by decide +kernel, tyX3_ok, nmX3, by decide⟩
theorem cl_X4 : sh_cls 4 RX4 TX4 5 := ⟨rfl, by decide +kernel, tyX4_ok, nmX4, by decide⟩
theorem cl_X5 : sh_cls 5 RX5 TX5 12 := ⟨rfl, by decide +kernel, tyX5_ok, nmX5, by decide⟩
theorem cl_X6 : sh_cls 6 RX6 TX6 9 := ⟨rfl, by decide +kernel, tyX6_ok, nmX6, by decide⟩
theorem cl_X7 : sh_cls 7 RX7 TX7 20 := ⟨rfl, by decide +kernel, tyX7_ok, nmX7, by decide⟩
abbrev mX0_init : sh_M := (yX0_init, cX0_init, 1, none, (1, 30), (4, 400))
theorem wc_X0_init : Cond.code yX0_init cX0_init 1 none ∈ sh_ws := sh_inw 248 (by decide +kernel) (by decide +kernel)
theorem wi_X0 : Cond.initialized RX0 ∈ sh_ws := sh_inw 63 (by decide +kernel) (by decide +kernel)
theorem cd_X0_init : sh_cd mX0_init 0 := ⟨wc_X0_init, ⟨by decide +kernel, by decide +kernel, by decide +kernel⟩, wi_X0, by decide +kernel⟩
abbrev mX0_clear : sh_M := (yX0_clear, cX0_clear, 2, none, (0, 0), (0, 0))
theorem wc_X0_clear : Cond.code yX0_clear cX0_clear 2 none ∈ sh_ws := sh_inw 539 (by decide +kernel) (by decide +kernel)
theorem cd_X0_clear : sh_cd mX0_clear 0 := ⟨wc_X0_clear, ⟨by decide +kernel, by decide +kernel, by decide +kernel⟩, wi_X0, by decide +kernel⟩
abbrev mX0_darken : sh_M := (yX0_darken, cX0_darken, 2, none, (1, 20), (0, 0))
theorem wc_X0_darken : Cond.code yX0_darken cX0_darken 2 none ∈ sh_ws := sh_inw 562 (by decide +kernel) (by decide +kernel)
theorem cd_X0_darken : sh_cd mX0_darken 1 := ⟨wc_X0_darken, ⟨by decide +kernel, by decide +kernel, by decide +kernel⟩, wi_X0, by decide +kernel⟩
abbrev mX0_block : sh_M := (yX0_block, cX0_block, 2, none, (1, 20), (0, 0))
theorem wc_X0_block : Cond.code yX0_block cX0_block 2 none ∈ sh_ws := sh_inw 627 (by decide +kernel) (by decide +kernel)
theorem cd_X0_block : sh_cd mX0_block 1 := ⟨wc_X0_block, ⟨by decide +kernel, by decide +kernel, by decide +kernel⟩, wi_X0, by decide +kernel⟩
abbrev mX0_darkCells : sh_M := (yX0_darkCells, cX0_darkCells, 3, (some .int), (0, 0), (0, 0))
theorem wc_X0_darkCells : Cond.code yX0_darkCells cX0_darkCells 3 (some .int) ∈ sh_ws := sh_inw 567 (by decide +kernel) (by decide +kernel)
theorem cd_X0_darkCells : sh_cd mX0_darkCells 0 := ⟨wc_X0_darkCells, ⟨by decide +kernel, by decide +kernel, by decide +kernel⟩, wi_X0, by decide +kernel⟩
abbrev mX0_stepsIntoTheDark : sh_M := (yX0_stepsIntoTheDark, cX0_stepsIntoTheDark, 5, (some .int), (2, 42), (0, 0))
theorem wc_X0_stepsIntoTheDark : Cond.code yX0_stepsIntoTheDark cX0_stepsIntoTheDark 5 (some .int) ∈ sh_ws := sh_inw 631 (by decide +kernel) (by decide +kernel)
theorem cd_X0_stepsIntoTheDark : sh_cd mX0_stepsIntoTheDark 1 := ⟨wc_X0_stepsIntoTheDark, ⟨by decide +kernel, by decide +kernel, by decide +kernel⟩, wi_X0, by decide +kernel⟩
abbrev mX0_enter : sh_M := (yX0_enter, cX0_enter, 3, none, (1, 20), (0, 0))
theorem wc_X0_enter : Cond.code yX0_enter cX0_enter 3 none ∈ sh_ws := sh_inw 635 (by decide +kernel) (by decide +kernel)
theorem cd_X0_enter : sh_cd mX0_enter 2 := ⟨wc_X0_enter, ⟨by decide +kernel, by decide +kernel, by decide +kernel⟩, wi_X0, by decide +kernel⟩
abbrev mX1_init : sh_M := (yX1_init, cX1_init, 1, none, (1, 30), (4, 120))
theorem wc_X1_init : Cond.code yX1_init cX1_init 1 none ∈ sh_ws := sh_inw 214 (by decide +kernel) (by decide +kernel)
theorem wi_X1 : Cond.initialized RX1 ∈ sh_ws := sh_inw 62 (by decide +kernel) (by decide +kernel)
theorem cd_X1_init : sh_cd mX1_init 0 := ⟨wc_X1_init, ⟨by decide +kernel, by decide +kernel, by decide +kernel⟩, wi_X1, by decide +kernel⟩
abbrev mX1_append : sh_M := (yX1_append, cX1_append, 2, (some .int), (0, 0), (0, 0))
theorem wc_X1_append : Cond.code yX1_append cX1_append 2 (some .int) ∈ sh_ws := sh_inw 454 (by decide +kernel) (by decide +kernel)
theorem cd_X1_append : sh_cd mX1_append 1 := ⟨wc_X1_append, ⟨by decide +kernel, by decide +kernel, by decide +kernel⟩, wi_X1, by decide +kernel⟩
abbrev mX1_clear : sh_M := (yX1_clear, cX1_clear, 2, (some .int), (0, 0), (0, 0))
theorem wc_X1_clear : Cond.code yX1_clear cX1_clear 2 (some .int) ∈ sh_ws := sh_inw 462 (by decide +kernel) (by decide +kernel)
theorem cd_X1_clear : sh_cd mX1_clear 0 := ⟨wc_X1_clear, ⟨by decide +kernel, by decide +kernel, by decide +kernel⟩, wi_X1, by decide +kernel⟩
abbrev mX1_read : sh_M := (yX1_read, cX1_read, 2, (some .int), (4, 89), (0, 0))
theorem wc_X1_read : Cond.code yX1_read cX1_read 2 (some .int) ∈ sh_ws := sh_inw 470 (by decide +kernel) (by decide +kernel)
theorem cd_X1_read : sh_cd mX1_read 0 := ⟨wc_X1_read, ⟨by decide +kernel, by decide +kernel, by decide +kernel⟩, wi_X1, by decide +kernel⟩
abbrev mX1_readThing : sh_M := (yX1_readThing, cX1_readThing, 3, (some .boolean), (3, 67), (0, 0))
theorem wc_X1_readThing : Cond.code yX1_readThing cX1_readThing 3 (some .boolean) ∈ sh_ws := sh_inw 474 (by decide +kernel) (by decide +kernel)
theorem cd_X1_readThing : sh_cd mX1_readThing 1 := ⟨wc_X1_readThing, ⟨by decide +kernel, by decide +kernel, by decide +kernel⟩, wi_X1, by decide +kernel⟩
abbrev mX1_readNumber : sh_M := (yX1_readNumber, cX1_readNumber, 7, (some .boolean), (2, 41), (0, 0))
theorem wc_X1_readNumber : Cond.code yX1_readNumber cX1_readNumber 7 (some .boolean) ∈ sh_ws := sh_inw 486 (by decide +kernel) (by decide +kernel)
theorem cd_X1_readNumber : sh_cd mX1_readNumber 4 := ⟨wc_X1_readNumber, ⟨by decide +kernel, by decide +kernel, by decide +kernel⟩, wi_X1, by decide +kernel⟩
abbrev mX1_readDirection : sh_M := (yX1_readDirection, cX1_readDirection, 2, (some .boolean), (1, 23), (0, 0))
theorem wc_X1_readDirection : Cond.code yX1_readDirection cX1_readDirection 2 (some .boolean) ∈ sh_ws := sh_inw 498 (by decide +kernel) (by decide +kernel)
theorem cd_X1_readDirection : sh_cd mX1_readDirection 1 := ⟨wc_X1_readDirection, ⟨by decide +kernel, by decide +kernel, by decide +kernel⟩, wi_X1, by decide +kernel⟩
abbrev mX1_readOnOrOff : sh_M := (yX1_readOnOrOff, cX1_readOnOrOff, 2, (some .boolean), (1, 23), (0, 0))
theorem wc_X1_readOnOrOff : Cond.code yX1_readOnOrOff cX1_readOnOrOff 2 (some .boolean) ∈ sh_ws := sh_inw 502 (by decide +kernel) (by decide +kernel)
theorem cd_X1_readOnOrOff : sh_cd mX1_readOnOrOff 1 := ⟨wc_X1_readOnOrOff, ⟨by decide +kernel, by decide +kernel, by decide +kernel⟩, wi_X1, by decide +kernel⟩
abbrev mX1_readAs : sh_M := (yX1_readAs, cX1_readAs, 4, (some .boolean), (0, 0), (0, 0))
theorem wc_X1_readAs : Cond.code yX1_readAs cX1_readAs 4 (some .boolean) ∈ sh_ws := sh_inw 482 (by decide +kernel) (by decide +kernel)
theorem cd_X1_readAs : sh_cd mX1_readAs 3 := ⟨wc_X1_readAs, ⟨by decide +kernel, by decide +kernel, by decide +kernel⟩, wi_X1, by decide +kernel⟩
abbrev mX1_readSign : sh_M := (yX1_readSign, cX1_readSign, 2, (some .boolean), (1, 20), (0, 0))
theorem wc_X1_readSign : Cond.code yX1_readSign cX1_readSign 2 (some .boolean) ∈ sh_ws := sh_inw 494 (by decide +kernel) (by decide +kernel)
theorem cd_X1_readSign : sh_cd mX1_readSign 1 := ⟨wc_X1_readSign, ⟨by decide +kernel, by decide +kernel, by decide +kernel⟩, wi_X1, by decide +kernel⟩
abbrev mX1_nextDigit : sh_M := (yX1_nextDigit, cX1_nextDigit, 2, (some .int), (1, 20), (0, 0))
theorem wc_X1_nextDigit : Cond.code yX1_nextDigit cX1_nextDigit 2 (some .int) ∈ sh_ws := sh_inw 490 (by decide +kernel) (by decide +kernel)
theorem cd_X1_nextDigit : sh_cd mX1_nextDigit 0 := ⟨wc_X1_nextDigit, ⟨by decide +kernel, by decide +kernel, by decide +kernel⟩, wi_X1, by decide +kernel⟩
abbrev mX1_nextSign : sh_M := (yX1_nextSign, cX1_nextSign, 1, (some .int), (0, 0), (0, 0))
theorem wc_X1_nextSign : Cond.code yX1_nextSign cX1_nextSign 1 (some .int) ∈ sh_ws := sh_inw 478 (by decide +kernel) (by decide +kernel)
theorem cd_X1_nextSign : sh_cd mX1_nextSign 0 := ⟨wc_X1_nextSign, ⟨by decide +kernel, by decide +kernel, by decide +kernel⟩, wi_X1, by decide +kernel⟩
abbrev mX2_init : sh_M := (yX2_init, cX2_init, 2, none, (3, 70), (61, 312))
theorem wc_X2_init : Cond.code yX2_init cX2_init 2 none ∈ sh_ws := sh_inw 194 (by decide +kernel) (by decide +kernel)
theorem wi_X2 : Cond.initialized RX2 ∈ sh_ws := sh_inw 61 (by decide +kernel) (by decide +kernel)
theorem cd_X2_init : sh_cd mX2_init 0 := ⟨wc_X2_init, ⟨by decide +kernel, by decide +kernel, by decide +kernel⟩, wi_X2, by decide +kernel⟩
abbrev mX2_record : sh_M := (yX2_record, cX2_record, 3, none, (4, 123), (0, 0))
theorem wc_X2_record : Cond.code yX2_record cX2_record 3 none ∈ sh_ws := sh_inw 340 (by decide +kernel) (by decide +kernel)
theorem cd_X2_record : sh_cd mX2_record 1 := ⟨wc_X2_record, ⟨by decide +kernel, by decide +kernel, by decide +kernel⟩, wi_X2, by decide +kernel⟩
abbrev mX2_takeBack : sh_M := (yX2_takeBack, cX2_takeBack, 3, (some .boolean), (4, 123), (0, 0))
theorem wc_X2_takeBack : Cond.code yX2_takeBack cX2_takeBack 3 (some .boolean) ∈ sh_ws := sh_inw 518 (by decide +kernel) (by decide +kernel)
theorem cd_X2_takeBack : sh_cd mX2_takeBack 1 := ⟨wc_X2_takeBack, ⟨by decide +kernel, by decide +kernel, by decide +kernel⟩, wi_X2, by decide +kernel⟩
abbrev mX3_init : sh_M := (yX3_init, cX3_init, 1, none, (1, 30), (4, 12))
theorem wc_X3_init : Cond.code yX3_init cX3_init 1 none ∈ sh_ws := sh_inw 147 (by decide +kernel) (by decide +kernel)
theorem wi_X3 : Cond.initialized RX3 ∈ sh_ws := sh_inw 60 (by decide +kernel) (by decide +kernel)
theorem cd_X3_init : sh_cd mX3_init 0 := ⟨wc_X3_init, ⟨by decide +kernel, by decide +kernel, by decide +kernel⟩, wi_X3, by decide +kernel⟩
abbrev mX3_copyFrom : sh_M := (yX3_copyFrom, cX3_copyFrom, 2, none, (2, 81), (0, 0))
theorem wc_X3_copyFrom : Cond.code yX3_copyFrom cX3_copyFrom 2 none ∈ sh_ws := sh_inw 319 (by decide +kernel) (by decide +kernel)
theorem cd_X3_copyFrom : sh_cd mX3_copyFrom 1 := ⟨wc_X3_copyFrom, ⟨by decide +kernel, by decide +kernel, by decide +kernel⟩, wi_X3, by decide +kernel⟩
abbrev mX3_burning : sh_M := (yX3_burning, cX3_burning, 3, (some .int), (0, 0), (0, 0))
theorem wc_X3_burning : Cond.code yX3_burning cX3_burning 3 (some .int) ∈ sh_ws := sh_inw 369 (by decide +kernel) (by decide +kernel)
theorem cd_X3_burning : sh_cd mX3_burning 0 := ⟨wc_X3_burning, ⟨by decide +kernel, by decide +kernel, by decide +kernel⟩, wi_X3, by decide +kernel⟩
abbrev mX3_switchTo : sh_M := (yX3_switchTo, cX3_switchTo, 4, (some .int), (1, 25), (0, 0))
theorem wc_X3_switchTo : Cond.code yX3_switchTo cX3_switchTo 4 (some .int) ∈ sh_ws := sh_inw 364 (by decide +kernel) (by decide +kernel)
theorem cd_X3_switchTo : sh_cd mX3_switchTo 2 := ⟨wc_X3_switchTo, ⟨by decide +kernel, by decide +kernel, by decide +kernel⟩, wi_X3, by decide +kernel⟩
abbrev mX3_adjust : sh_M := (yX3_adjust, cX3_adjust, 4, (some .int), (1, 25), (0, 0))
theorem wc_X3_adjust : Cond.code yX3_adjust cX3_adjust 4 (some .int) ∈ sh_ws := sh_inw 377 (by decide +kernel) (by decide +kernel)
theorem cd_X3_adjust : sh_cd mX3_adjust 3 := ⟨wc_X3_adjust, ⟨by decide +kernel, by decide +kernel, by decide +kernel⟩, wi_X3, by decide +kernel⟩
abbrev mX3_swingAtTurn : sh_M := (yX3_swingAtTurn, cX3_swingAtTurn, 3, none, (0, 0), (0, 0))
theorem wc_X3_swingAtTurn : Cond.code yX3_swingAtTurn cX3_swingAtTurn 3 none ∈ sh_ws := sh_inw 442 (by decide +kernel) (by decide +kernel)
theorem cd_X3_swingAtTurn : sh_cd mX3_swingAtTurn 1 := ⟨wc_X3_swingAtTurn, ⟨by decide +kernel, by decide +kernel, by decide +kernel⟩, wi_X3, by decide +kernel⟩
abbrev mX4_init : sh_M := (yX4_init, cX4_init, 1, none, (2, 50), (14, 72))
theorem wc_X4_init : Cond.code yX4_init cX4_init 1 none ∈ sh_ws := sh_inw 79 (by decide +kernel) (by decide +kernel)
theorem wi_X4 : Cond.initialized RX4 ∈ sh_ws := sh_inw 58 (by decide +kernel) (by decide +kernel)
theorem cd_X4_init : sh_cd mX4_init 0 := ⟨wc_X4_init, ⟨by decide +kernel, by decide +kernel, by decide +kernel⟩, wi_X4, by decide +kernel⟩
abbrev mX4_copyFrom : sh_M := (yX4_copyFrom, cX4_copyFrom, 2, none, (3, 102), (0, 0))
theorem wc_X4_copyFrom : Cond.code yX4_copyFrom cX4_copyFrom 2 none ∈ sh_ws := sh_inw 302 (by decide +kernel) (by decide +kernel)
theorem cd_X4_copyFrom : sh_cd mX4_copyFrom 1 := ⟨wc_X4_copyFrom, ⟨by decide +kernel, by decide +kernel, by decide +kernel⟩, wi_X4, by decide +kernel⟩
abbrev mX4_takeTurns : sh_M := (yX4_takeTurns, cX4_takeTurns, 4, (some .int), (4, 93), (0, 0))
theorem wc_X4_takeTurns : Cond.code yX4_takeTurns cX4_takeTurns 4 (some .int) ∈ sh_ws := sh_inw 393 (by decide +kernel) (by decide +kernel)
theorem cd_X4_takeTurns : sh_cd mX4_takeTurns 1 := ⟨wc_X4_takeTurns, ⟨by decide +kernel, by decide +kernel, by decide +kernel⟩, wi_X4, by decide +kernel⟩
abbrev mX4_takeTurn : sh_M := (yX4_takeTurn, cX4_takeTurn, 2, (some .boolean), (3, 72), (0, 0))
theorem wc_X4_takeTurn : Cond.code yX4_takeTurn cX4_takeTurn 2 (some .boolean) ∈ sh_ws := sh_inw 398 (by decide +kernel) (by decide +kernel)
theorem cd_X4_takeTurn : sh_cd mX4_takeTurn 0 := ⟨wc_X4_takeTurn, ⟨by decide +kernel, by decide +kernel, by decide +kernel⟩, wi_X4, by decide +kernel⟩
abbrev mX4_firstCaught : sh_M := (yX4_firstCaught, cX4_firstCaught, 5, (some .int), (2, 48), (0, 0))
theorem wc_X4_firstCaught : Cond.code yX4_firstCaught cX4_firstCaught 5 (some .int) ∈ sh_ws := sh_inw 416 (by decide +kernel) (by decide +kernel)
theorem cd_X4_firstCaught : sh_cd mX4_firstCaught 0 := ⟨wc_X4_firstCaught, ⟨by decide +kernel, by decide +kernel, by decide +kernel⟩, wi_X4, by decide +kernel⟩
abbrev mX4_catcherStandsInShadowOf : sh_M := (yX4_catcherStandsInShadowOf, cX4_catcherStandsInShadowOf, 4, (some .boolean), (3, 81), (0, 0))
theorem wc_X4_catcherStandsInShadowOf : Cond.code yX4_catcherStandsInShadowOf cX4_catcherStandsInShadowOf 4 (some .boolean) ∈ sh_ws := sh_inw 617 (by decide +kernel) (by decide +kernel)
theorem cd_X4_catcherStandsInShadowOf : sh_cd mX4_catcherStandsInShadowOf 1 := ⟨wc_X4_catcherStandsInShadowOf, ⟨by decide +kernel, by decide +kernel, by decide +kernel⟩, wi_X4, by decide +kernel⟩
abbrev mX4_isInShadow : sh_M := (yX4_isInShadow, cX4_isInShadow, 5, (some .boolean), (2, 57), (0, 0))
theorem wc_X4_isInShadow : Cond.code yX4_isInShadow cX4_isInShadow 5 (some .boolean) ∈ sh_ws := sh_inw 596 (by decide +kernel) (by decide +kernel)
theorem cd_X4_isInShadow : sh_cd mX4_isInShadow 3 := ⟨wc_X4_isInShadow, ⟨by decide +kernel, by decide +kernel, by decide +kernel⟩, wi_X4, by decide +kernel⟩
abbrev mX4_shadowLength : sh_M := (yX4_shadowLength, cX4_shadowLength, 8, (some .int), (1, 30), (0, 0))
theorem wc_X4_shadowLength : Cond.code yX4_shadowLength cX4_shadowLength 8 (some .int) ∈ sh_ws := sh_inw 551 (by decide +kernel) (by decide +kernel)
theorem cd_X4_shadowLength : sh_cd mX4_shadowLength 2 := ⟨wc_X4_shadowLength, ⟨by decide +kernel, by decide +kernel, by decide +kernel⟩, wi_X4, by decide +kernel⟩
abbrev mX4_shadowEnd : sh_M := (yX4_shadowEnd, cX4_shadowEnd, 4, (some .int), (2, 57), (0, 0))
theorem wc_X4_shadowEnd : Cond.code yX4_shadowEnd cX4_shadowEnd 4 (some .int) ∈ sh_ws := sh_inw 586 (by decide +kernel) (by decide +kernel)
theorem cd_X4_shadowEnd : sh_cd mX4_shadowEnd 2 := ⟨wc_X4_shadowEnd, ⟨by decide +kernel, by decide +kernel, by decide +kernel⟩, wi_X4, by decide +kernel⟩
abbrev mX4_hasShadow : sh_M := (yX4_hasShadow, cX4_hasShadow, 3, (some .boolean), (2, 57), (0, 0))
theorem wc_X4_hasShadow : Cond.code yX4_hasShadow cX4_hasShadow 3 (some .boolean) ∈ sh_ws := sh_inw 613 (by decide +kernel) (by decide +kernel)
theorem cd_X4_hasShadow : sh_cd mX4_hasShadow 1 := ⟨wc_X4_hasShadow, ⟨by decide +kernel, by decide +kernel, by decide +kernel⟩, wi_X4, by decide +kernel⟩
abbrev mX4_runnersWithoutShadow : sh_M := (yX4_runnersWithoutShadow, cX4_runnersWithoutShadow, 3, (some .int), (3, 79), (0, 0))
theorem wc_X4_runnersWithoutShadow : Cond.code yX4_runnersWithoutShadow cX4_runnersWithoutShadow 3 (some .int) ∈ sh_ws := sh_inw 664 (by decide +kernel) (by decide +kernel)
theorem cd_X4_runnersWithoutShadow : sh_cd mX4_runnersWithoutShadow 0 := ⟨wc_X4_runnersWithoutShadow, ⟨by decide +kernel, by decide +kernel, by decide +kernel⟩, wi_X4, by decide +kernel⟩
abbrev mX4_shadowerOf : sh_M := (yX4_shadowerOf, cX4_shadowerOf, 7, (some .int), (1, 22), (0, 0))
theorem wc_X4_shadowerOf : Cond.code yX4_shadowerOf cX4_shadowerOf 7 (some .int) ∈ sh_ws := sh_inw 421 (by decide +kernel) (by decide +kernel)
theorem cd_X4_shadowerOf : sh_cd mX4_shadowerOf 2 := ⟨wc_X4_shadowerOf, ⟨by decide +kernel, by decide +kernel, by decide +kernel⟩, wi_X4, by decide +kernel⟩
abbrev mX4_darkenShadowsOf : sh_M := (yX4_darkenShadowsOf, cX4_darkenShadowsOf, 4, none, (3, 84), (0, 0))
theorem wc_X4_darkenShadowsOf : Cond.code yX4_darkenShadowsOf cX4_darkenShadowsOf 4 none ∈ sh_ws := sh_inw 543 (by decide +kernel) (by decide +kernel)
theorem cd_X4_darkenShadowsOf : sh_cd mX4_darkenShadowsOf 2 := ⟨wc_X4_darkenShadowsOf, ⟨by decide +kernel, by decide +kernel, by decide +kernel⟩, wi_X4, by decide +kernel⟩
abbrev mX4_darkenShadow : sh_M := (yX4_darkenShadow, cX4_darkenShadow, 8, none, (2, 57), (0, 0))
theorem wc_X4_darkenShadow : Cond.code yX4_darkenShadow cX4_darkenShadow 8 none ∈ sh_ws := sh_inw 547 (by decide +kernel) (by decide +kernel)
theorem cd_X4_darkenShadow : sh_cd mX4_darkenShadow 3 := ⟨wc_X4_darkenShadow, ⟨by decide +kernel, by decide +kernel, by decide +kernel⟩, wi_X4, by decide +kernel⟩
abbrev mX5_init : sh_M := (yX5_init, cX5_init, 1, none, (1, 30), (7, 42))
theorem wc_X5_init : Cond.code yX5_init cX5_init 1 none ∈ sh_ws := sh_inw 85 (by decide +kernel) (by decide +kernel)
theorem wi_X5 : Cond.initialized RX5 ∈ sh_ws := sh_inw 59 (by decide +kernel) (by decide +kernel)
theorem cd_X5_init : sh_cd mX5_init 0 := ⟨wc_X5_init, ⟨by decide +kernel, by decide +kernel, by decide +kernel⟩, wi_X5, by decide +kernel⟩
abbrev mX5_copyFrom : sh_M := (yX5_copyFrom, cX5_copyFrom, 2, none, (2, 81), (0, 0))
theorem wc_X5_copyFrom : Cond.code yX5_copyFrom cX5_copyFrom 2 none ∈ sh_ws := sh_inw 306 (by decide +kernel) (by decide +kernel)
theorem cd_X5_copyFrom : sh_cd mX5_copyFrom 1 := ⟨wc_X5_copyFrom, ⟨by decide +kernel, by decide +kernel, by decide +kernel⟩, wi_X5, by decide +kernel⟩
abbrev mX5_has : sh_M := (yX5_has, cX5_has, 2, (some .boolean), (0, 0), (0, 0))
theorem wc_X5_has : Cond.code yX5_has cX5_has 2 (some .boolean) ∈ sh_ws := sh_inw 353 (by decide +kernel) (by decide +kernel)
theorem cd_X5_has : sh_cd mX5_has 1 := ⟨wc_X5_has, ⟨by decide +kernel, by decide +kernel, by decide +kernel⟩, wi_X5, by decide +kernel⟩
abbrev mX5_standingOn : sh_M := (yX5_standingOn, cX5_standingOn, 3, (some .int), (0, 0), (0, 0))
theorem wc_X5_standingOn : Cond.code yX5_standingOn cX5_standingOn 3 (some .int) ∈ sh_ws := sh_inw 332 (by decide +kernel) (by decide +kernel)
theorem cd_X5_standingOn : sh_cd mX5_standingOn 1 := ⟨wc_X5_standingOn, ⟨by decide +kernel, by decide +kernel, by decide +kernel⟩, wi_X5, by decide +kernel⟩
abbrev mX5_welcome : sh_M := (yX5_welcome, cX5_welcome, 4, (some .int), (1, 22), (0, 0))
theorem wc_X5_welcome : Cond.code yX5_welcome cX5_welcome 4 (some .int) ∈ sh_ws := sh_inw 325 (by decide +kernel) (by decide +kernel)
theorem cd_X5_welcome : sh_cd mX5_welcome 2 := ⟨wc_X5_welcome, ⟨by decide +kernel, by decide +kernel, by decide +kernel⟩, wi_X5, by decide +kernel⟩
abbrev mX5_steer : sh_M := (yX5_steer, cX5_steer, 3, (some .int), (1, 25), (0, 0))
theorem wc_X5_steer : Cond.code yX5_steer cX5_steer 3 (some .int) ∈ sh_ws := sh_inw 349 (by decide +kernel) (by decide +kernel)
theorem cd_X5_steer : sh_cd mX5_steer 2 := ⟨wc_X5_steer, ⟨by decide +kernel, by decide +kernel, by decide +kernel⟩, wi_X5, by decide +kernel⟩
abbrev mX5_stepAll : sh_M := (yX5_stepAll, cX5_stepAll, 2, none, (2, 46), (0, 0))
theorem wc_X5_stepAll : Cond.code yX5_stepAll cX5_stepAll 2 none ∈ sh_ws := sh_inw 402 (by decide +kernel) (by decide +kernel)
theorem cd_X5_stepAll : sh_cd mX5_stepAll 0 := ⟨wc_X5_stepAll, ⟨by decide +kernel, by decide +kernel, by decide +kernel⟩, wi_X5, by decide +kernel⟩
abbrev mX5_step : sh_M := (yX5_step, cX5_step, 5, none, (1, 22), (0, 0))
theorem wc_X5_step : Cond.code yX5_step cX5_step 5 none ∈ sh_ws := sh_inw 406 (by decide +kernel) (by decide +kernel)
theorem cd_X5_step : sh_cd mX5_step 1 := ⟨wc_X5_step, ⟨by decide +kernel, by decide +kernel, by decide +kernel⟩, wi_X5, by decide +kernel⟩
abbrev mX5_handOver : sh_M := (yX5_handOver, cX5_handOver, 3, none, (1, 21), (0, 0))
theorem wc_X5_handOver : Cond.code yX5_handOver cX5_handOver 3 none ∈ sh_ws := sh_inw 430 (by decide +kernel) (by decide +kernel)
theorem cd_X5_handOver : sh_cd mX5_handOver 2 := ⟨wc_X5_handOver, ⟨by decide +kernel, by decide +kernel, by decide +kernel⟩, wi_X5, by decide +kernel⟩
abbrev mX5_shortenRespites : sh_M := (yX5_shortenRespites, cX5_shortenRespites, 2, none, (0, 0), (0, 0))
theorem wc_X5_shortenRespites : Cond.code yX5_shortenRespites cX5_shortenRespites 2 none ∈ sh_ws := sh_inw 434 (by decide +kernel) (by decide +kernel)
theorem cd_X5_shortenRespites : sh_cd mX5_shortenRespites 0 := ⟨wc_X5_shortenRespites, ⟨by decide +kernel, by decide +kernel, by decide +kernel⟩, wi_X5, by decide +kernel⟩
abbrev mX5_addToAccounts : sh_M := (yX5_addToAccounts, cX5_addToAccounts, 2, none, (0, 0), (0, 0))
theorem wc_X5_addToAccounts : Cond.code yX5_addToAccounts cX5_addToAccounts 2 none ∈ sh_ws := sh_inw 438 (by decide +kernel) (by decide +kernel)
theorem cd_X5_addToAccounts : sh_cd mX5_addToAccounts 0 := ⟨wc_X5_addToAccounts, ⟨by decide +kernel, by decide +kernel, by decide +kernel⟩, wi_X5, by decide +kernel⟩
abbrev mX5_spin : sh_M := (yX5_spin, cX5_spin, 4, none, (0, 0), (0, 0))
theorem wc_X5_spin : Cond.code yX5_spin cX5_spin 4 none ∈ sh_ws := sh_inw 446 (by decide +kernel) (by decide +kernel)
theorem cd_X5_spin : sh_cd mX5_spin 0 := ⟨wc_X5_spin, ⟨by decide +kernel, by decide +kernel, by decide +kernel⟩, wi_X5, by decide +kernel⟩
abbrev mX6_init : sh_M := (yX6_init, cX6_init, 1, none, (4, 91), (117, 1078))
theorem wc_X6_init : Cond.code yX6_init cX6_init 1 none ∈ sh_ws := sh_inw 71 (by decide +kernel) (by decide +kernel)
theorem wi_X6 : Cond.initialized RX6 ∈ sh_ws := sh_inw 57 (by decide +kernel) (by decide +kernel)
theorem cd_X6_init : sh_cd mX6_init 0 := ⟨wc_X6_init, ⟨by decide +kernel, by decide +kernel, by decide +kernel⟩, wi_X6, by decide +kernel⟩
abbrev mX6_come : sh_M := (yX6_come, cX6_come, 3, (some .int), (6, 166), (0, 0))
theorem wc_X6_come : Cond.code yX6_come cX6_come 3 (some .int) ∈ sh_ws := sh_inw 298 (by decide +kernel) (by decide +kernel)
theorem cd_X6_come : sh_cd mX6_come 2 := ⟨wc_X6_come, ⟨by decide +kernel, by decide +kernel, by decide +kernel⟩, wi_X6, by decide +kernel⟩
abbrev mX6_head : sh_M := (yX6_head, cX6_head, 3, (some .int), (6, 166), (0, 0))
theorem wc_X6_head : Cond.code yX6_head cX6_head 3 (some .int) ∈ sh_ws := sh_inw 345 (by decide +kernel) (by decide +kernel)
theorem cd_X6_head : sh_cd mX6_head 2 := ⟨wc_X6_head, ⟨by decide +kernel, by decide +kernel, by decide +kernel⟩, wi_X6, by decide +kernel⟩
abbrev mX6_light : sh_M := (yX6_light, cX6_light, 3, (some .int), (6, 166), (0, 0))
theorem wc_X6_light : Cond.code yX6_light cX6_light 3 (some .int) ∈ sh_ws := sh_inw 360 (by decide +kernel) (by decide +kernel)
theorem cd_X6_light : sh_cd mX6_light 2 := ⟨wc_X6_light, ⟨by decide +kernel, by decide +kernel, by decide +kernel⟩, wi_X6, by decide +kernel⟩
abbrev mX6_setLamp : sh_M := (yX6_setLamp, cX6_setLamp, 4, (some .int), (6, 166), (0, 0))
theorem wc_X6_setLamp : Cond.code yX6_setLamp cX6_setLamp 4 (some .int) ∈ sh_ws := sh_inw 373 (by decide +kernel) (by decide +kernel)
theorem cd_X6_setLamp : sh_cd mX6_setLamp 3 := ⟨wc_X6_setLamp, ⟨by decide +kernel, by decide +kernel, by decide +kernel⟩, wi_X6, by decide +kernel⟩
abbrev mX6_set : sh_M := (yX6_set, cX6_set, 3, (some .int), (6, 166), (0, 0))
theorem wc_X6_set : Cond.code yX6_set cX6_set 3 (some .int) ∈ sh_ws := sh_inw 384 (by decide +kernel) (by decide +kernel)
theorem cd_X6_set : sh_cd mX6_set 2 := ⟨wc_X6_set, ⟨by decide +kernel, by decide +kernel, by decide +kernel⟩, wi_X6, by decide +kernel⟩
abbrev mX6_pass : sh_M := (yX6_pass, cX6_pass, 2, (some .int), (6, 166), (0, 0))
theorem wc_X6_pass : Cond.code yX6_pass cX6_pass 2 (some .int) ∈ sh_ws := sh_inw 389 (by decide +kernel) (by decide +kernel)
theorem cd_X6_pass : sh_cd mX6_pass 1 := ⟨wc_X6_pass, ⟨by decide +kernel, by decide +kernel, by decide +kernel⟩, wi_X6, by decide +kernel⟩
abbrev mX6_type : sh_M := (yX6_type, cX6_type, 2, (some .int), (1, 21), (0, 0))
theorem wc_X6_type : Cond.code yX6_type cX6_type 2 (some .int) ∈ sh_ws := sh_inw 450 (by decide +kernel) (by decide +kernel)
theorem cd_X6_type : sh_cd mX6_type 1 := ⟨wc_X6_type, ⟨by decide +kernel, by decide +kernel, by decide +kernel⟩, wi_X6, by decide +kernel⟩
abbrev mX6_clearText : sh_M := (yX6_clearText, cX6_clearText, 1, (some .int), (1, 21), (0, 0))
theorem wc_X6_clearText : Cond.code yX6_clearText cX6_clearText 1 (some .int) ∈ sh_ws := sh_inw 458 (by decide +kernel) (by decide +kernel)
theorem cd_X6_clearText : sh_cd mX6_clearText 0 := ⟨wc_X6_clearText, ⟨by decide +kernel, by decide +kernel, by decide +kernel⟩, wi_X6, by decide +kernel⟩
abbrev mX6_perform : sh_M := (yX6_perform, cX6_perform, 4, (some .int), (6, 166), (0, 0))
theorem wc_X6_perform : Cond.code yX6_perform cX6_perform 4 (some .int) ∈ sh_ws := sh_inw 466 (by decide +kernel) (by decide +kernel)
theorem cd_X6_perform : sh_cd mX6_perform 0 := ⟨wc_X6_perform, ⟨by decide +kernel, by decide +kernel, by decide +kernel⟩, wi_X6, by decide +kernel⟩
abbrev mX6_stopped : sh_M := (yX6_stopped, cX6_stopped, 2, (some .int), (0, 0), (0, 0))
theorem wc_X6_stopped : Cond.code yX6_stopped cX6_stopped 2 (some .int) ∈ sh_ws := sh_inw 510 (by decide +kernel) (by decide +kernel)
theorem cd_X6_stopped : sh_cd mX6_stopped 1 := ⟨wc_X6_stopped, ⟨by decide +kernel, by decide +kernel, by decide +kernel⟩, wi_X6, by decide +kernel⟩
abbrev mX6_undo : sh_M := (yX6_undo, cX6_undo, 1, (some .int), (5, 145), (0, 0))
theorem wc_X6_undo : Cond.code yX6_undo cX6_undo 1 (some .int) ∈ sh_ws := sh_inw 514 (by decide +kernel) (by decide +kernel)
theorem cd_X6_undo : sh_cd mX6_undo 0 := ⟨wc_X6_undo, ⟨by decide +kernel, by decide +kernel, by decide +kernel⟩, wi_X6, by decide +kernel⟩
abbrev mX6_keep : sh_M := (yX6_keep, cX6_keep, 1, (some .int), (4, 123), (0, 0))
theorem wc_X6_keep : Cond.code yX6_keep cX6_keep 1 (some .int) ∈ sh_ws := sh_inw 522 (by decide +kernel) (by decide +kernel)
theorem cd_X6_keep : sh_cd mX6_keep 0 := ⟨wc_X6_keep, ⟨by decide +kernel, by decide +kernel, by decide +kernel⟩, wi_X6, by decide +kernel⟩
abbrev mX6_restore : sh_M := (yX6_restore, cX6_restore, 1, (some .int), (6, 166), (0, 0))
theorem wc_X6_restore : Cond.code yX6_restore cX6_restore 1 (some .int) ∈ sh_ws := sh_inw 526 (by decide +kernel) (by decide +kernel)
theorem cd_X6_restore : sh_cd mX6_restore 0 := ⟨wc_X6_restore, ⟨by decide +kernel, by decide +kernel, by decide +kernel⟩, wi_X6, by decide +kernel⟩
abbrev mX6_runner : sh_M := (yX6_runner, cX6_runner, 4, (some .int), (5, 128), (0, 0))
theorem wc_X6_runner : Cond.code yX6_runner cX6_runner 4 (some .int) ∈ sh_ws := sh_inw 530 (by decide +kernel) (by decide +kernel)
theorem cd_X6_runner : sh_cd mX6_runner 2 := ⟨wc_X6_runner, ⟨by decide +kernel, by decide +kernel, by decide +kernel⟩, wi_X6, by decide +kernel⟩
abbrev mX6_lamp : sh_M := (yX6_lamp, cX6_lamp, 4, (some .int), (4, 106), (0, 0))
theorem wc_X6_lamp : Cond.code yX6_lamp cX6_lamp 4 (some .int) ∈ sh_ws := sh_inw 571 (by decide +kernel) (by decide +kernel)
theorem cd_X6_lamp : sh_cd mX6_lamp 2 := ⟨wc_X6_lamp, ⟨by decide +kernel, by decide +kernel, by decide +kernel⟩, wi_X6, by decide +kernel⟩
abbrev mX6_shadow : sh_M := (yX6_shadow, cX6_shadow, 4, (some .int), (3, 80), (0, 0))
theorem wc_X6_shadow : Cond.code yX6_shadow cX6_shadow 4 (some .int) ∈ sh_ws := sh_inw 581 (by decide +kernel) (by decide +kernel)
theorem cd_X6_shadow : sh_cd mX6_shadow 3 := ⟨wc_X6_shadow, ⟨by decide +kernel, by decide +kernel, by decide +kernel⟩, wi_X6, by decide +kernel⟩
abbrev mX6_darkness : sh_M := (yX6_darkness, cX6_darkness, 5, (some .int), (3, 81), (0, 0))
theorem wc_X6_darkness : Cond.code yX6_darkness cX6_darkness 5 (some .int) ∈ sh_ws := sh_inw 591 (by decide +kernel) (by decide +kernel)
theorem cd_X6_darkness : sh_cd mX6_darkness 1 := ⟨wc_X6_darkness, ⟨by decide +kernel, by decide +kernel, by decide +kernel⟩, wi_X6, by decide +kernel⟩
abbrev mX6_looked : sh_M := (yX6_looked, cX6_looked, 4, (some .int), (2, 48), (0, 0))
theorem wc_X6_looked : Cond.code yX6_looked cX6_looked 4 (some .int) ∈ sh_ws := sh_inw 600 (by decide +kernel) (by decide +kernel)
theorem cd_X6_looked : sh_cd mX6_looked 1 := ⟨wc_X6_looked, ⟨by decide +kernel, by decide +kernel, by decide +kernel⟩, wi_X6, by decide +kernel⟩
abbrev mX6_at : sh_M := (yX6_at, cX6_at, 2, (some .int), (1, 22), (0, 0))
theorem wc_X6_at : Cond.code yX6_at cX6_at 2 (some .int) ∈ sh_ws := sh_inw 605 (by decide +kernel) (by decide +kernel)
theorem cd_X6_at : sh_cd mX6_at 1 := ⟨wc_X6_at, ⟨by decide +kernel, by decide +kernel, by decide +kernel⟩, wi_X6, by decide +kernel⟩
abbrev mX6_reason : sh_M := (yX6_reason, cX6_reason, 3, (some .int), (4, 104), (0, 0))
theorem wc_X6_reason : Cond.code yX6_reason cX6_reason 3 (some .int) ∈ sh_ws := sh_inw 609 (by decide +kernel) (by decide +kernel)
theorem cd_X6_reason : sh_cd mX6_reason 1 := ⟨wc_X6_reason, ⟨by decide +kernel, by decide +kernel, by decide +kernel⟩, wi_X6, by decide +kernel⟩
abbrev mX6_stepsTo : sh_M := (yX6_stepsTo, cX6_stepsTo, 5, (some .int), (4, 107), (0, 0))
theorem wc_X6_stepsTo : Cond.code yX6_stepsTo cX6_stepsTo 5 (some .int) ∈ sh_ws := sh_inw 623 (by decide +kernel) (by decide +kernel)
theorem cd_X6_stepsTo : sh_cd mX6_stepsTo 1 := ⟨wc_X6_stepsTo, ⟨by decide +kernel, by decide +kernel, by decide +kernel⟩, wi_X6, by decide +kernel⟩
abbrev mX6_safest : sh_M := (yX6_safest, cX6_safest, 6, (some .int), (6, 153), (0, 0))
theorem wc_X6_safest : Cond.code yX6_safest cX6_safest 6 (some .int) ∈ sh_ws := sh_inw 641 (by decide +kernel) (by decide +kernel)
theorem cd_X6_safest : sh_cd mX6_safest 0 := ⟨wc_X6_safest, ⟨by decide +kernel, by decide +kernel, by decide +kernel⟩, wi_X6, by decide +kernel⟩
abbrev mX6_ifTurns : sh_M := (yX6_ifTurns, cX6_ifTurns, 6, (some .int), (4, 123), (0, 0))
theorem wc_X6_ifTurns : Cond.code yX6_ifTurns cX6_ifTurns 6 (some .int) ∈ sh_ws := sh_inw 650 (by decide +kernel) (by decide +kernel)
theorem cd_X6_ifTurns : sh_cd mX6_ifTurns 2 := ⟨wc_X6_ifTurns, ⟨by decide +kernel, by decide +kernel, by decide +kernel⟩, wi_X6, by decide +kernel⟩
abbrev mX6_count : sh_M := (yX6_count, cX6_count, 2, (some .int), (5, 128), (0, 0))
theorem wc_X6_count : Cond.code yX6_count cX6_count 2 (some .int) ∈ sh_ws := sh_inw 655 (by decide +kernel) (by decide +kernel)
theorem cd_X6_count : sh_cd mX6_count 1 := ⟨wc_X6_count, ⟨by decide +kernel, by decide +kernel, by decide +kernel⟩, wi_X6, by decide +kernel⟩
abbrev mX6_takeOver : sh_M := (yX6_takeOver, cX6_takeOver, 2, (some .int), (5, 145), (0, 0))
theorem wc_X6_takeOver : Cond.code yX6_takeOver cX6_takeOver 2 (some .int) ∈ sh_ws := sh_inw 336 (by decide +kernel) (by decide +kernel)
theorem cd_X6_takeOver : sh_cd mX6_takeOver 1 := ⟨wc_X6_takeOver, ⟨by decide +kernel, by decide +kernel, by decide +kernel⟩, wi_X6, by decide +kernel⟩
abbrev mX6_tryThing : sh_M := (yX6_tryThing, cX6_tryThing, 4, (some .int), (5, 116), (0, 0))
theorem wc_X6_tryThing : Cond.code yX6_tryThing cX6_tryThing 4 (some .int) ∈ sh_ws := sh_inw 506 (by decide +kernel) (by decide +kernel)
theorem cd_X6_tryThing : sh_cd mX6_tryThing 1 := ⟨wc_X6_tryThing, ⟨by decide +kernel, by decide +kernel, by decide +kernel⟩, wi_X6, by decide +kernel⟩
abbrev mX6_cellsInShadowsOf : sh_M := (yX6_cellsInShadowsOf, cX6_cellsInShadowsOf, 2, (some .int), (4, 107), (0, 0))
theorem wc_X6_cellsInShadowsOf : Cond.code yX6_cellsInShadowsOf cX6_cellsInShadowsOf 2 (some .int) ∈ sh_ws := sh_inw 535 (by decide +kernel) (by decide +kernel)
theorem cd_X6_cellsInShadowsOf : sh_cd mX6_cellsInShadowsOf 1 := ⟨wc_X6_cellsInShadowsOf, ⟨by decide +kernel, by decide +kernel, by decide +kernel⟩, wi_X6, by decide +kernel⟩
abbrev mX6_cellsInShadowsBy : sh_M := (yX6_cellsInShadowsBy, cX6_cellsInShadowsBy, 3, (some .int), (3, 84), (0, 0))
theorem wc_X6_cellsInShadowsBy : Cond.code yX6_cellsInShadowsBy cX6_cellsInShadowsBy 3 (some .int) ∈ sh_ws := sh_inw 576 (by decide +kernel) (by decide +kernel)
theorem cd_X6_cellsInShadowsBy : sh_cd mX6_cellsInShadowsBy 1 := ⟨wc_X6_cellsInShadowsBy, ⟨by decide +kernel, by decide +kernel, by decide +kernel⟩, wi_X6, by decide +kernel⟩
abbrev mX6_cellsInAnyShadow : sh_M := (yX6_cellsInAnyShadow, cX6_cellsInAnyShadow, 2, (some .int), (4, 107), (0, 0))
theorem wc_X6_cellsInAnyShadow : Cond.code yX6_cellsInAnyShadow cX6_cellsInAnyShadow 2 (some .int) ∈ sh_ws := sh_inw 660 (by decide +kernel) (by decide +kernel)
theorem cd_X6_cellsInAnyShadow : sh_cd mX6_cellsInAnyShadow 0 := ⟨wc_X6_cellsInAnyShadow, ⟨by decide +kernel, by decide +kernel, by decide +kernel⟩, wi_X6, by decide +kernel⟩
abbrev mX6_stepsOrFarthest : sh_M := (yX6_stepsOrFarthest, cX6_stepsOrFarthest, 3, (some .int), (5, 131), (0, 0))
theorem wc_X6_stepsOrFarthest : Cond.code yX6_stepsOrFarthest cX6_stepsOrFarthest 3 (some .int) ∈ sh_ws := sh_inw 645 (by decide +kernel) (by decide +kernel)
theorem cd_X6_stepsOrFarthest : sh_cd mX6_stepsOrFarthest 1 := ⟨wc_X6_stepsOrFarthest, ⟨by decide +kernel, by decide +kernel, by decide +kernel⟩, wi_X6, by decide +kernel⟩
abbrev mX6_isCell : sh_M := (yX6_isCell, cX6_isCell, 1, (some .boolean), (0, 0), (0, 0))
theorem wc_X6_isCell : Cond.code yX6_isCell cX6_isCell 1 (some .boolean) ∈ sh_ws := sh_inw 328 (by decide +kernel) (by decide +kernel)
theorem cd_X6_isCell : sh_cd mX6_isCell 1 := ⟨wc_X6_isCell, ⟨by decide +kernel, by decide +kernel, by decide +kernel⟩, wi_X6, by decide +kernel⟩
abbrev mX6_isLamp : sh_M := (yX6_isLamp, cX6_isLamp, 1, (some .boolean), (0, 0), (0, 0))
theorem wc_X6_isLamp : Cond.code yX6_isLamp cX6_isLamp 1 (some .boolean) ∈ sh_ws := sh_inw 380 (by decide +kernel) (by decide +kernel)
theorem cd_X6_isLamp : sh_cd mX6_isLamp 1 := ⟨wc_X6_isLamp, ⟨by decide +kernel, by decide +kernel, by decide +kernel⟩, wi_X6, by decide +kernel⟩
abbrev mX6_replace : sh_M := (yX6_replace, cX6_replace, 6, (some .int), (0, 0), (0, 0))
theorem wc_X6_replace : Cond.code yX6_replace cX6_replace 6 (some .int) ∈ sh_ws := sh_inw 356 (by decide +kernel) (by decide +kernel)
theorem cd_X6_replace : sh_cd mX6_replace 5 := ⟨wc_X6_replace, ⟨by decide +kernel, by decide +kernel, by decide +kernel⟩, wi_X6, by decide +kernel⟩
abbrev mX6_copyRow : sh_M := (yX6_copyRow, cX6_copyRow, 2, none, (1, 60), (0, 0))
theorem wc_X6_copyRow : Cond.code yX6_copyRow cX6_copyRow 2 none ∈ sh_ws := sh_inw 309 (by decide +kernel) (by decide +kernel)
theorem cd_X6_copyRow : sh_cd mX6_copyRow 2 := ⟨wc_X6_copyRow, ⟨by decide +kernel, by decide +kernel, by decide +kernel⟩, wi_X6, by decide +kernel⟩
abbrev mX6_opposite : sh_M := (yX6_opposite, cX6_opposite, 1, (some .int), (0, 0), (0, 0))
theorem wc_X6_opposite : Cond.code yX6_opposite cX6_opposite 1 (some .int) ∈ sh_ws := sh_inw 554 (by decide +kernel) (by decide +kernel)
theorem cd_X6_opposite : sh_cd mX6_opposite 1 := ⟨wc_X6_opposite, ⟨by decide +kernel, by decide +kernel, by decide +kernel⟩, wi_X6, by decide +kernel⟩
abbrev mX6_cellsToEdge : sh_M := (yX6_cellsToEdge, cX6_cellsToEdge, 2, (some .int), (0, 0), (0, 0))
theorem wc_X6_cellsToEdge : Cond.code yX6_cellsToEdge cX6_cellsToEdge 2 (some .int) ∈ sh_ws := sh_inw 412 (by decide +kernel) (by decide +kernel)
theorem cd_X6_cellsToEdge : sh_cd mX6_cellsToEdge 2 := ⟨wc_X6_cellsToEdge, ⟨by decide +kernel, by decide +kernel, by decide +kernel⟩, wi_X6, by decide +kernel⟩
abbrev mX6_cellAlong : sh_M := (yX6_cellAlong, cX6_cellAlong, 3, (some .int), (0, 0), (0, 0))
theorem wc_X6_cellAlong : Cond.code yX6_cellAlong cX6_cellAlong 3 (some .int) ∈ sh_ws := sh_inw 409 (by decide +kernel) (by decide +kernel)
theorem cd_X6_cellAlong : sh_cd mX6_cellAlong 3 := ⟨wc_X6_cellAlong, ⟨by decide +kernel, by decide +kernel, by decide +kernel⟩, wi_X6, by decide +kernel⟩
abbrev mX6_distanceAlong : sh_M := (yX6_distanceAlong, cX6_distanceAlong, 5, (some .int), (0, 0), (0, 0))
theorem wc_X6_distanceAlong : Cond.code yX6_distanceAlong cX6_distanceAlong 5 (some .int) ∈ sh_ws := sh_inw 558 (by decide +kernel) (by decide +kernel)
theorem cd_X6_distanceAlong : sh_cd mX6_distanceAlong 3 := ⟨wc_X6_distanceAlong, ⟨by decide +kernel, by decide +kernel, by decide +kernel⟩, wi_X6, by decide +kernel⟩
abbrev mX7_init : sh_M := (yX7_init, cX7_init, 2, none, (1, 30), (10, 721))
theorem wc_X7_init : Cond.code yX7_init cX7_init 2 none ∈ sh_ws := sh_inw 670 (by decide +kernel) (by decide +kernel)
theorem wi_X7 : Cond.initialized RX7 ∈ sh_ws := sh_inw 64 (by decide +kernel) (by decide +kernel)
theorem cd_X7_init : sh_cd mX7_init 0 := ⟨wc_X7_init, ⟨by decide +kernel, by decide +kernel, by decide +kernel⟩, wi_X7, by decide +kernel⟩
abbrev mX7_in : sh_M := (yX7_in, cX7_in, 3, (some .boolean), (0, 0), (0, 0))
theorem wc_X7_in : Cond.code yX7_in cX7_in 3 (some .boolean) ∈ sh_ws := sh_inw 770 (by decide +kernel) (by decide +kernel)
theorem cd_X7_in : sh_cd mX7_in 3 := ⟨wc_X7_in, ⟨by decide +kernel, by decide +kernel, by decide +kernel⟩, wi_X7, by decide +kernel⟩
abbrev mX7_isCell : sh_M := (yX7_isCell, cX7_isCell, 1, (some .boolean), (1, 22), (0, 0))
theorem wc_X7_isCell : Cond.code yX7_isCell cX7_isCell 1 (some .boolean) ∈ sh_ws := sh_inw 767 (by decide +kernel) (by decide +kernel)
theorem cd_X7_isCell : sh_cd mX7_isCell 1 := ⟨wc_X7_isCell, ⟨by decide +kernel, by decide +kernel, by decide +kernel⟩, wi_X7, by decide +kernel⟩
abbrev mX7_isRunner : sh_M := (yX7_isRunner, cX7_isRunner, 2, (some .boolean), (1, 22), (0, 0))
theorem wc_X7_isRunner : Cond.code yX7_isRunner cX7_isRunner 2 (some .boolean) ∈ sh_ws := sh_inw 798 (by decide +kernel) (by decide +kernel)
theorem cd_X7_isRunner : sh_cd mX7_isRunner 1 := ⟨wc_X7_isRunner, ⟨by decide +kernel, by decide +kernel, by decide +kernel⟩, wi_X7, by decide +kernel⟩
abbrev mX7_isLamp : sh_M := (yX7_isLamp, cX7_isLamp, 1, (some .boolean), (1, 22), (0, 0))
theorem wc_X7_isLamp : Cond.code yX7_isLamp cX7_isLamp 1 (some .boolean) ∈ sh_ws := sh_inw 809 (by decide +kernel) (by decide +kernel)
theorem cd_X7_isLamp : sh_cd mX7_isLamp 1 := ⟨wc_X7_isLamp, ⟨by decide +kernel, by decide +kernel, by decide +kernel⟩, wi_X7, by decide +kernel⟩
abbrev mX7_of : sh_M := (yX7_of, cX7_of, 3, (some .int), (0, 0), (0, 0))
theorem wc_X7_of : Cond.code yX7_of cX7_of 3 (some .int) ∈ sh_ws := sh_inw 778 (by decide +kernel) (by decide +kernel)
theorem cd_X7_of : sh_cd mX7_of 2 := ⟨wc_X7_of, ⟨by decide +kernel, by decide +kernel, by decide +kernel⟩, wi_X7, by decide +kernel⟩
abbrev mX7_put : sh_M := (yX7_put, cX7_put, 4, none, (0, 0), (0, 0))
theorem wc_X7_put : Cond.code yX7_put cX7_put 4 none ∈ sh_ws := sh_inw 782 (by decide +kernel) (by decide +kernel)
theorem cd_X7_put : sh_cd mX7_put 3 := ⟨wc_X7_put, ⟨by decide +kernel, by decide +kernel, by decide +kernel⟩, wi_X7, by decide +kernel⟩
abbrev mX7_ofLamp : sh_M := (yX7_ofLamp, cX7_ofLamp, 3, (some .int), (0, 0), (0, 0))
theorem wc_X7_ofLamp : Cond.code yX7_ofLamp cX7_ofLamp 3 (some .int) ∈ sh_ws := sh_inw 813 (by decide +kernel) (by decide +kernel)
theorem cd_X7_ofLamp : sh_cd mX7_ofLamp 2 := ⟨wc_X7_ofLamp, ⟨by decide +kernel, by decide +kernel, by decide +kernel⟩, wi_X7, by decide +kernel⟩
abbrev mX7_putLamp : sh_M := (yX7_putLamp, cX7_putLamp, 4, none, (0, 0), (0, 0))
theorem wc_X7_putLamp : Cond.code yX7_putLamp cX7_putLamp 4 none ∈ sh_ws := sh_inw 675 (by decide +kernel) (by decide +kernel)
theorem cd_X7_putLamp : sh_cd mX7_putLamp 3 := ⟨wc_X7_putLamp, ⟨by decide +kernel, by decide +kernel, by decide +kernel⟩, wi_X7, by decide +kernel⟩
abbrev mX7_putAside : sh_M := (yX7_putAside, cX7_putAside, 2, none, (0, 0), (0, 0))
theorem wc_X7_putAside : Cond.code yX7_putAside cX7_putAside 2 none ∈ sh_ws := sh_inw 752 (by decide +kernel) (by decide +kernel)
theorem cd_X7_putAside : sh_cd mX7_putAside 0 := ⟨wc_X7_putAside, ⟨by decide +kernel, by decide +kernel, by decide +kernel⟩, wi_X7, by decide +kernel⟩
abbrev mX7_putBack : sh_M := (yX7_putBack, cX7_putBack, 2, none, (0, 0), (0, 0))
theorem wc_X7_putBack : Cond.code yX7_putBack cX7_putBack 2 none ∈ sh_ws := sh_inw 929 (by decide +kernel) (by decide +kernel)
theorem cd_X7_putBack : sh_cd mX7_putBack 0 := ⟨wc_X7_putBack, ⟨by decide +kernel, by decide +kernel, by decide +kernel⟩, wi_X7, by decide +kernel⟩
abbrev mX7_record : sh_M := (yX7_record, cX7_record, 2, none, (0, 0), (0, 0))
theorem wc_X7_record : Cond.code yX7_record cX7_record 2 none ∈ sh_ws := sh_inw 756 (by decide +kernel) (by decide +kernel)
theorem cd_X7_record : sh_cd mX7_record 0 := ⟨wc_X7_record, ⟨by decide +kernel, by decide +kernel, by decide +kernel⟩, wi_X7, by decide +kernel⟩
abbrev mX7_acted : sh_M := (yX7_acted, cX7_acted, 2, (some .int), (1, 21), (0, 0))
theorem wc_X7_acted : Cond.code yX7_acted cX7_acted 2 (some .int) ∈ sh_ws := sh_inw 786 (by decide +kernel) (by decide +kernel)
theorem cd_X7_acted : sh_cd mX7_acted 1 := ⟨wc_X7_acted, ⟨by decide +kernel, by decide +kernel, by decide +kernel⟩, wi_X7, by decide +kernel⟩
abbrev mX7_undo : sh_M := (yX7_undo, cX7_undo, 2, (some .int), (0, 0), (0, 0))
theorem wc_X7_undo : Cond.code yX7_undo cX7_undo 2 (some .int) ∈ sh_ws := sh_inw 740 (by decide +kernel) (by decide +kernel)
theorem cd_X7_undo : sh_cd mX7_undo 0 := ⟨wc_X7_undo, ⟨by decide +kernel, by decide +kernel, by decide +kernel⟩, wi_X7, by decide +kernel⟩
abbrev mX7_keep : sh_M := (yX7_keep, cX7_keep, 2, (some .int), (0, 0), (0, 0))
theorem wc_X7_keep : Cond.code yX7_keep cX7_keep 2 (some .int) ∈ sh_ws := sh_inw 744 (by decide +kernel) (by decide +kernel)
theorem cd_X7_keep : sh_cd mX7_keep 0 := ⟨wc_X7_keep, ⟨by decide +kernel, by decide +kernel, by decide +kernel⟩, wi_X7, by decide +kernel⟩
abbrev mX7_restore : sh_M := (yX7_restore, cX7_restore, 2, (some .int), (1, 21), (0, 0))
theorem wc_X7_restore : Cond.code yX7_restore cX7_restore 2 (some .int) ∈ sh_ws := sh_inw 748 (by decide +kernel) (by decide +kernel)
theorem cd_X7_restore : sh_cd mX7_restore 0 := ⟨wc_X7_restore, ⟨by decide +kernel, by decide +kernel, by decide +kernel⟩, wi_X7, by decide +kernel⟩
abbrev mX7_next : sh_M := (yX7_next, cX7_next, 2, (some .int), (0, 0), (0, 0))
theorem wc_X7_next : Cond.code yX7_next cX7_next 2 (some .int) ∈ sh_ws := sh_inw 853 (by decide +kernel) (by decide +kernel)
theorem cd_X7_next : sh_cd mX7_next 2 := ⟨wc_X7_next, ⟨by decide +kernel, by decide +kernel, by decide +kernel⟩, wi_X7, by decide +kernel⟩
abbrev mX7_runnerAt : sh_M := (yX7_runnerAt, cX7_runnerAt, 4, (some .int), (1, 22), (0, 0))
theorem wc_X7_runnerAt : Cond.code yX7_runnerAt cX7_runnerAt 4 (some .int) ∈ sh_ws := sh_inw 774 (by decide +kernel) (by decide +kernel)
theorem cd_X7_runnerAt : sh_cd mX7_runnerAt 1 := ⟨wc_X7_runnerAt, ⟨by decide +kernel, by decide +kernel, by decide +kernel⟩, wi_X7, by decide +kernel⟩
abbrev mX7_follow : sh_M := (yX7_follow, cX7_follow, 5, none, (2, 45), (0, 0))
theorem wc_X7_follow : Cond.code yX7_follow cX7_follow 5 none ∈ sh_ws := sh_inw 869 (by decide +kernel) (by decide +kernel)
theorem cd_X7_follow : sh_cd mX7_follow 2 := ⟨wc_X7_follow, ⟨by decide +kernel, by decide +kernel, by decide +kernel⟩, wi_X7, by decide +kernel⟩
abbrev mX7_isShaded : sh_M := (yX7_isShaded, cX7_isShaded, 6, (some .boolean), (3, 69), (0, 0))
theorem wc_X7_isShaded : Cond.code yX7_isShaded cX7_isShaded 6 (some .boolean) ∈ sh_ws := sh_inw 865 (by decide +kernel) (by decide +kernel)
theorem cd_X7_isShaded : sh_cd mX7_isShaded 3 := ⟨wc_X7_isShaded, ⟨by decide +kernel, by decide +kernel, by decide +kernel⟩, wi_X7, by decide +kernel⟩
abbrev mX7_isInShadowOf : sh_M := (yX7_isInShadowOf, cX7_isInShadowOf, 5, (some .boolean), (4, 94), (0, 0))
theorem wc_X7_isInShadowOf : Cond.code yX7_isInShadowOf cX7_isInShadowOf 5 (some .boolean) ∈ sh_ws := sh_inw 861 (by decide +kernel) (by decide +kernel)
theorem cd_X7_isInShadowOf : sh_cd mX7_isInShadowOf 2 := ⟨wc_X7_isInShadowOf, ⟨by decide +kernel, by decide +kernel, by decide +kernel⟩, wi_X7, by decide +kernel⟩
abbrev mX7_hasShadow : sh_M := (yX7_hasShadow, cX7_hasShadow, 4, (some .boolean), (3, 69), (0, 0))
theorem wc_X7_hasShadow : Cond.code yX7_hasShadow cX7_hasShadow 4 (some .boolean) ∈ sh_ws := sh_inw 973 (by decide +kernel) (by decide +kernel)
theorem cd_X7_hasShadow : sh_cd mX7_hasShadow 1 := ⟨wc_X7_hasShadow, ⟨by decide +kernel, by decide +kernel, by decide +kernel⟩, wi_X7, by decide +kernel⟩
abbrev mX7_go : sh_M := (yX7_go, cX7_go, 3, none, (2, 45), (0, 0))
theorem wc_X7_go : Cond.code yX7_go cX7_go 3 none ∈ sh_ws := sh_inw 850 (by decide +kernel) (by decide +kernel)
theorem cd_X7_go : sh_cd mX7_go 1 := ⟨wc_X7_go, ⟨by decide +kernel, by decide +kernel, by decide +kernel⟩, wi_X7, by decide +kernel⟩
abbrev mX7_tagNow : sh_M := (yX7_tagNow, cX7_tagNow, 4, (some .int), (5, 118), (0, 0))
theorem wc_X7_tagNow : Cond.code yX7_tagNow cX7_tagNow 4 (some .int) ∈ sh_ws := sh_inw 857 (by decide +kernel) (by decide +kernel)
theorem cd_X7_tagNow : sh_cd mX7_tagNow 0 := ⟨wc_X7_tagNow, ⟨by decide +kernel, by decide +kernel, by decide +kernel⟩, wi_X7, by decide +kernel⟩
abbrev mX7_tag : sh_M := (yX7_tag, cX7_tag, 3, none, (1, 23), (0, 0))
theorem wc_X7_tag : Cond.code yX7_tag cX7_tag 3 none ∈ sh_ws := sh_inw 873 (by decide +kernel) (by decide +kernel)
theorem cd_X7_tag : sh_cd mX7_tag 1 := ⟨wc_X7_tag, ⟨by decide +kernel, by decide +kernel, by decide +kernel⟩, wi_X7, by decide +kernel⟩
abbrev mX7_turnPlatform : sh_M := (yX7_turnPlatform, cX7_turnPlatform, 3, none, (1, 23), (0, 0))
theorem wc_X7_turnPlatform : Cond.code yX7_turnPlatform cX7_turnPlatform 3 none ∈ sh_ws := sh_inw 877 (by decide +kernel) (by decide +kernel)
theorem cd_X7_turnPlatform : sh_cd mX7_turnPlatform 0 := ⟨wc_X7_turnPlatform, ⟨by decide +kernel, by decide +kernel, by decide +kernel⟩, wi_X7, by decide +kernel⟩
abbrev mX7_turn : sh_M := (yX7_turn, cX7_turn, 3, none, (6, 141), (0, 0))
theorem wc_X7_turn : Cond.code yX7_turn cX7_turn 3 none ∈ sh_ws := sh_inw 846 (by decide +kernel) (by decide +kernel)
theorem cd_X7_turn : sh_cd mX7_turn 0 := ⟨wc_X7_turn, ⟨by decide +kernel, by decide +kernel, by decide +kernel⟩, wi_X7, by decide +kernel⟩
abbrev mX7_comeNow : sh_M := (yX7_comeNow, cX7_comeNow, 5, (some .int), (2, 45), (0, 0))
theorem wc_X7_comeNow : Cond.code yX7_comeNow cX7_comeNow 5 (some .int) ∈ sh_ws := sh_inw 764 (by decide +kernel) (by decide +kernel)
theorem cd_X7_comeNow : sh_cd mX7_comeNow 2 := ⟨wc_X7_comeNow, ⟨by decide +kernel, by decide +kernel, by decide +kernel⟩, wi_X7, by decide +kernel⟩
abbrev mX7_headNow : sh_M := (yX7_headNow, cX7_headNow, 5, (some .int), (2, 43), (0, 0))
theorem wc_X7_headNow : Cond.code yX7_headNow cX7_headNow 5 (some .int) ∈ sh_ws := sh_inw 794 (by decide +kernel) (by decide +kernel)
theorem cd_X7_headNow : sh_cd mX7_headNow 2 := ⟨wc_X7_headNow, ⟨by decide +kernel, by decide +kernel, by decide +kernel⟩, wi_X7, by decide +kernel⟩
abbrev mX7_lampsOn : sh_M := (yX7_lampsOn, cX7_lampsOn, 1, (some .int), (1, 22), (0, 0))
theorem wc_X7_lampsOn : Cond.code yX7_lampsOn cX7_lampsOn 1 (some .int) ∈ sh_ws := sh_inw 817 (by decide +kernel) (by decide +kernel)
theorem cd_X7_lampsOn : sh_cd mX7_lampsOn 0 := ⟨wc_X7_lampsOn, ⟨by decide +kernel, by decide +kernel, by decide +kernel⟩, wi_X7, by decide +kernel⟩
abbrev mX7_lightNow : sh_M := (yX7_lightNow, cX7_lightNow, 3, (some .int), (2, 42), (0, 0))
theorem wc_X7_lightNow : Cond.code yX7_lightNow cX7_lightNow 3 (some .int) ∈ sh_ws := sh_inw 806 (by decide +kernel) (by decide +kernel)
theorem cd_X7_lightNow : sh_cd mX7_lightNow 2 := ⟨wc_X7_lightNow, ⟨by decide +kernel, by decide +kernel, by decide +kernel⟩, wi_X7, by decide +kernel⟩
abbrev mX7_setLampNow : sh_M := (yX7_setLampNow, cX7_setLampNow, 6, (some .int), (2, 42), (0, 0))
theorem wc_X7_setLampNow : Cond.code yX7_setLampNow cX7_setLampNow 6 (some .int) ∈ sh_ws := sh_inw 825 (by decide +kernel) (by decide +kernel)
theorem cd_X7_setLampNow : sh_cd mX7_setLampNow 3 := ⟨wc_X7_setLampNow, ⟨by decide +kernel, by decide +kernel, by decide +kernel⟩, wi_X7, by decide +kernel⟩
abbrev mX7_setNow : sh_M := (yX7_setNow, cX7_setNow, 4, (some .int), (1, 22), (0, 0))
theorem wc_X7_setNow : Cond.code yX7_setNow cX7_setNow 4 (some .int) ∈ sh_ws := sh_inw 833 (by decide +kernel) (by decide +kernel)
theorem cd_X7_setNow : sh_cd mX7_setNow 2 := ⟨wc_X7_setNow, ⟨by decide +kernel, by decide +kernel, by decide +kernel⟩, wi_X7, by decide +kernel⟩
abbrev mX7_passNow : sh_M := (yX7_passNow, cX7_passNow, 4, (some .int), (7, 163), (0, 0))
theorem wc_X7_passNow : Cond.code yX7_passNow cX7_passNow 4 (some .int) ∈ sh_ws := sh_inw 841 (by decide +kernel) (by decide +kernel)
theorem cd_X7_passNow : sh_cd mX7_passNow 1 := ⟨wc_X7_passNow, ⟨by decide +kernel, by decide +kernel, by decide +kernel⟩, wi_X7, by decide +kernel⟩
abbrev mX7_come : sh_M := (yX7_come, cX7_come, 3, (some .int), (3, 69), (0, 0))
theorem wc_X7_come : Cond.code yX7_come cX7_come 3 (some .int) ∈ sh_ws := sh_inw 760 (by decide +kernel) (by decide +kernel)
theorem cd_X7_come : sh_cd mX7_come 2 := ⟨wc_X7_come, ⟨by decide +kernel, by decide +kernel, by decide +kernel⟩, wi_X7, by decide +kernel⟩
abbrev mX7_head : sh_M := (yX7_head, cX7_head, 3, (some .int), (3, 67), (0, 0))
theorem wc_X7_head : Cond.code yX7_head cX7_head 3 (some .int) ∈ sh_ws := sh_inw 790 (by decide +kernel) (by decide +kernel)
theorem cd_X7_head : sh_cd mX7_head 2 := ⟨wc_X7_head, ⟨by decide +kernel, by decide +kernel, by decide +kernel⟩, wi_X7, by decide +kernel⟩
abbrev mX7_light : sh_M := (yX7_light, cX7_light, 3, (some .int), (3, 64), (0, 0))
theorem wc_X7_light : Cond.code yX7_light cX7_light 3 (some .int) ∈ sh_ws := sh_inw 802 (by decide +kernel) (by decide +kernel)
theorem cd_X7_light : sh_cd mX7_light 2 := ⟨wc_X7_light, ⟨by decide +kernel, by decide +kernel, by decide +kernel⟩, wi_X7, by decide +kernel⟩
abbrev mX7_setLamp : sh_M := (yX7_setLamp, cX7_setLamp, 4, (some .int), (3, 67), (0, 0))
theorem wc_X7_setLamp : Cond.code yX7_setLamp cX7_setLamp 4 (some .int) ∈ sh_ws := sh_inw 821 (by decide +kernel) (by decide +kernel)
theorem cd_X7_setLamp : sh_cd mX7_setLamp 3 := ⟨wc_X7_setLamp, ⟨by decide +kernel, by decide +kernel, by decide +kernel⟩, wi_X7, by decide +kernel⟩
abbrev mX7_set : sh_M := (yX7_set, cX7_set, 3, (some .int), (2, 45), (0, 0))
theorem wc_X7_set : Cond.code yX7_set cX7_set 3 (some .int) ∈ sh_ws := sh_inw 829 (by decide +kernel) (by decide +kernel)
theorem cd_X7_set : sh_cd mX7_set 2 := ⟨wc_X7_set, ⟨by decide +kernel, by decide +kernel, by decide +kernel⟩, wi_X7, by decide +kernel⟩
abbrev mX7_pass : sh_M := (yX7_pass, cX7_pass, 2, (some .int), (8, 186), (0, 0))
theorem wc_X7_pass : Cond.code yX7_pass cX7_pass 2 (some .int) ∈ sh_ws := sh_inw 837 (by decide +kernel) (by decide +kernel)
theorem cd_X7_pass : sh_cd mX7_pass 1 := ⟨wc_X7_pass, ⟨by decide +kernel, by decide +kernel, by decide +kernel⟩, wi_X7, by decide +kernel⟩
abbrev mX7_type : sh_M := (yX7_type, cX7_type, 2, (some .int), (0, 0), (0, 0))
theorem wc_X7_type : Cond.code yX7_type cX7_type 2 (some .int) ∈ sh_ws := sh_inw 881 (by decide +kernel) (by decide +kernel)
theorem cd_X7_type : sh_cd mX7_type 1 := ⟨wc_X7_type, ⟨by decide +kernel, by decide +kernel, by decide +kernel⟩, wi_X7, by decide +kernel⟩
abbrev mX7_clearText : sh_M := (yX7_clearText, cX7_clearText, 2, (some .int), (0, 0), (0, 0))
theorem wc_X7_clearText : Cond.code yX7_clearText cX7_clearText 2 (some .int) ∈ sh_ws := sh_inw 885 (by decide +kernel) (by decide +kernel)
theorem cd_X7_clearText : sh_cd mX7_clearText 0 := ⟨wc_X7_clearText, ⟨by decide +kernel, by decide +kernel, by decide +kernel⟩, wi_X7, by decide +kernel⟩
abbrev mX7_code : sh_M := (yX7_code, cX7_code, 1, (some .int), (0, 0), (0, 0))
theorem wc_X7_code : Cond.code yX7_code cX7_code 1 (some .int) ∈ sh_ws := sh_inw 901 (by decide +kernel) (by decide +kernel)
theorem cd_X7_code : sh_cd mX7_code 0 := ⟨wc_X7_code, ⟨by decide +kernel, by decide +kernel, by decide +kernel⟩, wi_X7, by decide +kernel⟩
abbrev mX7_takes : sh_M := (yX7_takes, cX7_takes, 3, (some .boolean), (0, 0), (0, 0))
theorem wc_X7_takes : Cond.code yX7_takes cX7_takes 3 (some .boolean) ∈ sh_ws := sh_inw 905 (by decide +kernel) (by decide +kernel)
theorem cd_X7_takes : sh_cd mX7_takes 1 := ⟨wc_X7_takes, ⟨by decide +kernel, by decide +kernel, by decide +kernel⟩, wi_X7, by decide +kernel⟩
abbrev mX7_isDigit : sh_M := (yX7_isDigit, cX7_isDigit, 1, (some .boolean), (1, 22), (0, 0))
theorem wc_X7_isDigit : Cond.code yX7_isDigit cX7_isDigit 1 (some .boolean) ∈ sh_ws := sh_inw 917 (by decide +kernel) (by decide +kernel)
theorem cd_X7_isDigit : sh_cd mX7_isDigit 0 := ⟨wc_X7_isDigit, ⟨by decide +kernel, by decide +kernel, by decide +kernel⟩, wi_X7, by decide +kernel⟩
abbrev mX7_reads : sh_M := (yX7_reads, cX7_reads, 3, (some .boolean), (2, 42), (0, 0))
theorem wc_X7_reads : Cond.code yX7_reads cX7_reads 3 (some .boolean) ∈ sh_ws := sh_inw 913 (by decide +kernel) (by decide +kernel)
theorem cd_X7_reads : sh_cd mX7_reads 2 := ⟨wc_X7_reads, ⟨by decide +kernel, by decide +kernel, by decide +kernel⟩, wi_X7, by decide +kernel⟩
abbrev mX7_readsDirection : sh_M := (yX7_readsDirection, cX7_readsDirection, 2, (some .boolean), (1, 22), (0, 0))
theorem wc_X7_readsDirection : Cond.code yX7_readsDirection cX7_readsDirection 2 (some .boolean) ∈ sh_ws := sh_inw 921 (by decide +kernel) (by decide +kernel)
theorem cd_X7_readsDirection : sh_cd mX7_readsDirection 0 := ⟨wc_X7_readsDirection, ⟨by decide +kernel, by decide +kernel, by decide +kernel⟩, wi_X7, by decide +kernel⟩
abbrev mX7_readsRest : sh_M := (yX7_readsRest, cX7_readsRest, 3, (some .boolean), (3, 64), (0, 0))
theorem wc_X7_readsRest : Cond.code yX7_readsRest cX7_readsRest 3 (some .boolean) ∈ sh_ws := sh_inw 909 (by decide +kernel) (by decide +kernel)
theorem cd_X7_readsRest : sh_cd mX7_readsRest 1 := ⟨wc_X7_readsRest, ⟨by decide +kernel, by decide +kernel, by decide +kernel⟩, wi_X7, by decide +kernel⟩
abbrev mX7_readsThing : sh_M := (yX7_readsThing, cX7_readsThing, 3, (some .boolean), (4, 86), (0, 0))
theorem wc_X7_readsThing : Cond.code yX7_readsThing cX7_readsThing 3 (some .boolean) ∈ sh_ws := sh_inw 897 (by decide +kernel) (by decide +kernel)
theorem cd_X7_readsThing : sh_cd mX7_readsThing 0 := ⟨wc_X7_readsThing, ⟨by decide +kernel, by decide +kernel, by decide +kernel⟩, wi_X7, by decide +kernel⟩
abbrev mX7_faultNow : sh_M := (yX7_faultNow, cX7_faultNow, 2, (some .int), (5, 108), (0, 0))
theorem wc_X7_faultNow : Cond.code yX7_faultNow cX7_faultNow 2 (some .int) ∈ sh_ws := sh_inw 893 (by decide +kernel) (by decide +kernel)
theorem cd_X7_faultNow : sh_cd mX7_faultNow 0 := ⟨wc_X7_faultNow, ⟨by decide +kernel, by decide +kernel, by decide +kernel⟩, wi_X7, by decide +kernel⟩
abbrev mX7_doThing : sh_M := (yX7_doThing, cX7_doThing, 2, (some .int), (8, 186), (0, 0))
theorem wc_X7_doThing : Cond.code yX7_doThing cX7_doThing 2 (some .int) ∈ sh_ws := sh_inw 925 (by decide +kernel) (by decide +kernel)
theorem cd_X7_doThing : sh_cd mX7_doThing 1 := ⟨wc_X7_doThing, ⟨by decide +kernel, by decide +kernel, by decide +kernel⟩, wi_X7, by decide +kernel⟩
abbrev mX7_perform : sh_M := (yX7_perform, cX7_perform, 4, (some .int), (9, 207), (0, 0))
theorem wc_X7_perform : Cond.code yX7_perform cX7_perform 4 (some .int) ∈ sh_ws := sh_inw 889 (by decide +kernel) (by decide +kernel)
theorem cd_X7_perform : sh_cd mX7_perform 0 := ⟨wc_X7_perform, ⟨by decide +kernel, by decide +kernel, by decide +kernel⟩, wi_X7, by decide +kernel⟩
abbrev mX7_stopped : sh_M := (yX7_stopped, cX7_stopped, 2, (some .int), (0, 0), (0, 0))
theorem wc_X7_stopped : Cond.code yX7_stopped cX7_stopped 2 (some .int) ∈ sh_ws := sh_inw 933 (by decide +kernel) (by decide +kernel)
theorem cd_X7_stopped : sh_cd mX7_stopped 1 := ⟨wc_X7_stopped, ⟨by decide +kernel, by decide +kernel, by decide +kernel⟩, wi_X7, by decide +kernel⟩
abbrev mX7_shadowsOn : sh_M := (yX7_shadowsOn, cX7_shadowsOn, 7, (some .int), (4, 94), (0, 0))
theorem wc_X7_shadowsOn : Cond.code yX7_shadowsOn cX7_shadowsOn 7 (some .int) ∈ sh_ws := sh_inw 945 (by decide +kernel) (by decide +kernel)
theorem cd_X7_shadowsOn : sh_cd mX7_shadowsOn 3 := ⟨wc_X7_shadowsOn, ⟨by decide +kernel, by decide +kernel, by decide +kernel⟩, wi_X7, by decide +kernel⟩
abbrev mX7_dark : sh_M := (yX7_dark, cX7_dark, 5, (some .int), (5, 120), (0, 0))
theorem wc_X7_dark : Cond.code yX7_dark cX7_dark 5 (some .int) ∈ sh_ws := sh_inw 941 (by decide +kernel) (by decide +kernel)
theorem cd_X7_dark : sh_cd mX7_dark 2 := ⟨wc_X7_dark, ⟨by decide +kernel, by decide +kernel, by decide +kernel⟩, wi_X7, by decide +kernel⟩
abbrev mX7_runner : sh_M := (yX7_runner, cX7_runner, 3, (some .int), (6, 144), (0, 0))
theorem wc_X7_runner : Cond.code yX7_runner cX7_runner 3 (some .int) ∈ sh_ws := sh_inw 937 (by decide +kernel) (by decide +kernel)
theorem cd_X7_runner : sh_cd mX7_runner 2 := ⟨wc_X7_runner, ⟨by decide +kernel, by decide +kernel, by decide +kernel⟩, wi_X7, by decide +kernel⟩
abbrev mX7_lamp : sh_M := (yX7_lamp, cX7_lamp, 3, (some .int), (6, 144), (0, 0))
theorem wc_X7_lamp : Cond.code yX7_lamp cX7_lamp 3 (some .int) ∈ sh_ws := sh_inw 949 (by decide +kernel) (by decide +kernel)
theorem cd_X7_lamp : sh_cd mX7_lamp 2 := ⟨wc_X7_lamp, ⟨by decide +kernel, by decide +kernel, by decide +kernel⟩, wi_X7, by decide +kernel⟩
abbrev mX7_shadow : sh_M := (yX7_shadow, cX7_shadow, 4, (some .int), (3, 69), (0, 0))
theorem wc_X7_shadow : Cond.code yX7_shadow cX7_shadow 4 (some .int) ∈ sh_ws := sh_inw 953 (by decide +kernel) (by decide +kernel)
theorem cd_X7_shadow : sh_cd mX7_shadow 3 := ⟨wc_X7_shadow, ⟨by decide +kernel, by decide +kernel, by decide +kernel⟩, wi_X7, by decide +kernel⟩
abbrev mX7_darkness : sh_M := (yX7_darkness, cX7_darkness, 2, (some .int), (5, 120), (0, 0))
theorem wc_X7_darkness : Cond.code yX7_darkness cX7_darkness 2 (some .int) ∈ sh_ws := sh_inw 957 (by decide +kernel) (by decide +kernel)
theorem cd_X7_darkness : sh_cd mX7_darkness 1 := ⟨wc_X7_darkness, ⟨by decide +kernel, by decide +kernel, by decide +kernel⟩, wi_X7, by decide +kernel⟩
abbrev mX7_looked : sh_M := (yX7_looked, cX7_looked, 7, (some .int), (2, 45), (0, 0))
theorem wc_X7_looked : Cond.code yX7_looked cX7_looked 7 (some .int) ∈ sh_ws := sh_inw 961 (by decide +kernel) (by decide +kernel)
theorem cd_X7_looked : sh_cd mX7_looked 1 := ⟨wc_X7_looked, ⟨by decide +kernel, by decide +kernel, by decide +kernel⟩, wi_X7, by decide +kernel⟩
abbrev mX7_at : sh_M := (yX7_at, cX7_at, 2, (some .int), (2, 45), (0, 0))
theorem wc_X7_at : Cond.code yX7_at cX7_at 2 (some .int) ∈ sh_ws := sh_inw 965 (by decide +kernel) (by decide +kernel)
theorem cd_X7_at : sh_cd mX7_at 1 := ⟨wc_X7_at, ⟨by decide +kernel, by decide +kernel, by decide +kernel⟩, wi_X7, by decide +kernel⟩
abbrev mX7_reason : sh_M := (yX7_reason, cX7_reason, 2, (some .int), (6, 141), (0, 0))
theorem wc_X7_reason : Cond.code yX7_reason cX7_reason 2 (some .int) ∈ sh_ws := sh_inw 969 (by decide +kernel) (by decide +kernel)
theorem cd_X7_reason : sh_cd mX7_reason 1 := ⟨wc_X7_reason, ⟨by decide +kernel, by decide +kernel, by decide +kernel⟩, wi_X7, by decide +kernel⟩
abbrev mX7_way : sh_M := (yX7_way, cX7_way, 8, (some .int), (5, 118), (0, 0))
theorem wc_X7_way : Cond.code yX7_way cX7_way 8 (some .int) ∈ sh_ws := sh_inw 985 (by decide +kernel) (by decide +kernel)
theorem cd_X7_way : sh_cd mX7_way 1 := ⟨wc_X7_way, ⟨by decide +kernel, by decide +kernel, by decide +kernel⟩, wi_X7, by decide +kernel⟩
abbrev mX7_isSought : sh_M := (yX7_isSought, cX7_isSought, 2, (some .boolean), (4, 92), (0, 0))
theorem wc_X7_isSought : Cond.code yX7_isSought cX7_isSought 2 (some .boolean) ∈ sh_ws := sh_inw 981 (by decide +kernel) (by decide +kernel)
theorem cd_X7_isSought : sh_cd mX7_isSought 1 := ⟨wc_X7_isSought, ⟨by decide +kernel, by decide +kernel, by decide +kernel⟩, wi_X7, by decide +kernel⟩
abbrev mX7_stepsTo : sh_M := (yX7_stepsTo, cX7_stepsTo, 2, (some .int), (6, 145), (0, 0))
theorem wc_X7_stepsTo : Cond.code yX7_stepsTo cX7_stepsTo 2 (some .int) ∈ sh_ws := sh_inw 977 (by decide +kernel) (by decide +kernel)
theorem cd_X7_stepsTo : sh_cd mX7_stepsTo 1 := ⟨wc_X7_stepsTo, ⟨by decide +kernel, by decide +kernel, by decide +kernel⟩, wi_X7, by decide +kernel⟩
abbrev mX7_safest : sh_M := (yX7_safest, cX7_safest, 7, (some .int), (6, 145), (0, 0))
theorem wc_X7_safest : Cond.code yX7_safest cX7_safest 7 (some .int) ∈ sh_ws := sh_inw 989 (by decide +kernel) (by decide +kernel)
theorem cd_X7_safest : sh_cd mX7_safest 0 := ⟨wc_X7_safest, ⟨by decide +kernel, by decide +kernel, by decide +kernel⟩, wi_X7, by decide +kernel⟩
abbrev mX7_ifTurns : sh_M := (yX7_ifTurns, cX7_ifTurns, 5, (some .int), (7, 163), (0, 0))
theorem wc_X7_ifTurns : Cond.code yX7_ifTurns cX7_ifTurns 5 (some .int) ∈ sh_ws := sh_inw 993 (by decide +kernel) (by decide +kernel)
theorem cd_X7_ifTurns : sh_cd mX7_ifTurns 2 := ⟨wc_X7_ifTurns, ⟨by decide +kernel, by decide +kernel, by decide +kernel⟩, wi_X7, by decide +kernel⟩
abbrev mX7_withoutShadow : sh_M := (yX7_withoutShadow, cX7_withoutShadow, 3, (some .int), (4, 92), (0, 0))
theorem wc_X7_withoutShadow : Cond.code yX7_withoutShadow cX7_withoutShadow 3 (some .int) ∈ sh_ws := sh_inw 1001 (by decide +kernel) (by decide +kernel)
theorem cd_X7_withoutShadow : sh_cd mX7_withoutShadow 0 := ⟨wc_X7_withoutShadow, ⟨by decide +kernel, by decide +kernel, by decide +kernel⟩, wi_X7, by decide +kernel⟩
abbrev mX7_count : sh_M := (yX7_count, cX7_count, 2, (some .int), (6, 144), (0, 0))
theorem wc_X7_count : Cond.code yX7_count cX7_count 2 (some .int) ∈ sh_ws := sh_inw 997 (by decide +kernel) (by decide +kernel)
theorem cd_X7_count : sh_cd mX7_count 1 := ⟨wc_X7_count, ⟨by decide +kernel, by decide +kernel, by decide +kernel⟩, wi_X7, by decide +kernel⟩
abbrev mL_law : sh_M := (yL_law, cL_law, 4, (some .boolean), (12, 460), (600000, 7302249))
theorem wa_boolean : Cond.arrayClass (newarray.typeOf .boolean) ∈ sh_ws := sh_inw 266 (by decide +kernel) (by decide +kernel)
theorem wf_X0_9 : Cond.fieldLink RX0 9 "ShadowTag$Board" "dark" "[Z" ∈ sh_ws := sh_inw 250 (by decide +kernel) (by decide +kernel)
theorem fl_X0_9 : sh_FL RX0 9 0 0 5 true := ⟨RX0, TX0, cl_X0, by decide, wf_X0_9, rfl⟩
theorem wf_X0_15 : Cond.fieldLink RX0 15 "ShadowTag$Board" "barred" "[Z" ∈ sh_ws := sh_inw 251 (by decide +kernel) (by decide +kernel)
theorem fl_X0_15 : sh_FL RX0 15 0 1 5 true := ⟨RX0, TX0, cl_X0, by decide, wf_X0_15, rfl⟩
theorem wa_int : Cond.arrayClass (newarray.typeOf .int) ∈ sh_ws := sh_inw 142 (by decide +kernel) (by decide +kernel)
theorem wf_X0_18 : Cond.fieldLink RX0 18 "ShadowTag$Board" "steps" "[I" ∈ sh_ws := sh_inw 252 (by decide +kernel) (by decide +kernel)
theorem fl_X0_18 : sh_FL RX0 18 0 2 5 true := ⟨RX0, TX0, cl_X0, by decide, wf_X0_18, rfl⟩
theorem wf_X0_22 : Cond.fieldLink RX0 22 "ShadowTag$Board" "queue" "[I" ∈ sh_ws := sh_inw 253 (by decide +kernel) (by decide +kernel)
theorem fl_X0_22 : sh_FL RX0 22 0 3 5 true := ⟨RX0, TX0, cl_X0, by decide, wf_X0_22, rfl⟩
theorem wf_X0_25 : Cond.fieldLink RX0 25 "ShadowTag$Board" "queued" "I" ∈ sh_ws := sh_inw 254 (by decide +kernel) (by decide +kernel)
theorem fl_X0_25 : sh_FL RX0 25 0 4 5 false := ⟨RX0, TX0, cl_X0, by decide, wf_X0_25, rfl⟩
theorem wm_X0_3 : Cond.methodLink RX0 3 objectInit ∈ sh_ws := sh_inw 249 (by decide +kernel) (by decide +kernel)
theorem wo_1 : Cond.instanceMethod objectInit ∈ sh_ws := sh_inw 73 (by decide +kernel) (by decide +kernel)
theorem wo_2 : Cond.code objectInit ⟨#[0xb1]⟩ 1 none ∈ sh_ws := sh_inw 74 (by decide +kernel) (by decide +kernel)
theorem wt_X6_isCell : Cond.static yX6_isCell ∈ sh_ws := sh_inw 327 (by decide +kernel) (by decide +kernel)
theorem lk_X0_29 : sh_LSN RX0 29 mX6_isCell 1 := ⟨cd_X6_isCell, ⟨RX6, by decide +kernel⟩, wt_X6_isCell⟩
theorem wm_X0_33 : Cond.methodLink RX0 33 yX0_enter ∈ sh_ws := sh_inw 632 (by decide +kernel) (by decide +kernel)
theorem wv_X0_enter : Cond.instanceMethod yX0_enter ∈ sh_ws := sh_inw 634 (by decide +kernel) (by decide +kernel)
theorem ws_X0_enter : Cond.selects RX0 yX0_enter yX0_enter ∈ sh_ws := sh_inw 13 (by decide +kernel) (by decide +kernel)
theorem lk_X0_33 : sh_LV RX0 33 mX0_enter 2 0 5 := ⟨cd_X0_enter, wm_X0_33, wv_X0_enter, ws_X0_enter, TX0, cl_X0⟩
theorem wt_X6_cellsToEdge : Cond.static yX6_cellsToEdge ∈ sh_ws := sh_inw 411 (by decide +kernel) (by decide +kernel)
theorem lk_X0_37 : sh_LSN RX0 37 mX6_cellsToEdge 2 := ⟨cd_X6_cellsToEdge, ⟨RX6, by decide +kernel⟩, wt_X6_cellsToEdge⟩
theorem wt_X6_cellAlong : Cond.static yX6_cellAlong ∈ sh_ws := sh_inw 408 (by decide +kernel) (by decide +kernel)
theorem lk_X0_41 : sh_LSN RX0 41 mX6_cellAlong 3 := ⟨cd_X6_cellAlong, ⟨RX6, by decide +kernel⟩, wt_X6_cellAlong⟩
theorem wa_char : Cond.arrayClass (newarray.typeOf .char) ∈ sh_ws := sh_inw 243 (by decide +kernel) (by decide +kernel)
theorem wf_X1_9 : Cond.fieldLink RX1 9 "ShadowTag$Game" "signs" "[C" ∈ sh_ws := sh_inw 216 (by decide +kernel) (by decide +kernel)
theorem fl_X1_9 : sh_FL RX1 9 1 0 7 true := ⟨RX1, TX1, cl_X1, by decide, wf_X1_9, rfl⟩
theorem wf_X1_15 : Cond.fieldLink RX1 15 "ShadowTag$Game" "length" "I" ∈ sh_ws := sh_inw 217 (by decide +kernel) (by decide +kernel)
theorem fl_X1_15 : sh_FL RX1 15 1 1 7 false := ⟨RX1, TX1, cl_X1, by decide, wf_X1_15, rfl⟩
theorem wf_X1_19 : Cond.fieldLink RX1 19 "ShadowTag$Game" "position" "I" ∈ sh_ws := sh_inw 219 (by decide +kernel) (by decide +kernel)
theorem fl_X1_19 : sh_FL RX1 19 1 2 7 false := ⟨RX1, TX1, cl_X1, by decide, wf_X1_19, rfl⟩
theorem wf_X1_22 : Cond.fieldLink RX1 22 "ShadowTag$Game" "kind" "[I" ∈ sh_ws := sh_inw 220 (by decide +kernel) (by decide +kernel)
theorem fl_X1_22 : sh_FL RX1 22 1 3 7 true := ⟨RX1, TX1, cl_X1, by decide, wf_X1_22, rfl⟩
theorem wf_X1_26 : Cond.fieldLink RX1 26 "ShadowTag$Game" "first" "[I" ∈ sh_ws := sh_inw 222 (by decide +kernel) (by decide +kernel)
theorem fl_X1_26 : sh_FL RX1 26 1 4 7 true := ⟨RX1, TX1, cl_X1, by decide, wf_X1_26, rfl⟩
theorem wf_X1_29 : Cond.fieldLink RX1 29 "ShadowTag$Game" "second" "[I" ∈ sh_ws := sh_inw 224 (by decide +kernel) (by decide +kernel)
theorem fl_X1_29 : sh_FL RX1 29 1 5 7 true := ⟨RX1, TX1, cl_X1, by decide, wf_X1_29, rfl⟩
theorem wf_X1_32 : Cond.fieldLink RX1 32 "ShadowTag$Game" "things" "I" ∈ sh_ws := sh_inw 226 (by decide +kernel) (by decide +kernel)
theorem fl_X1_32 : sh_FL RX1 32 1 6 7 false := ⟨RX1, TX1, cl_X1, by decide, wf_X1_32, rfl⟩
theorem wm_X1_3 : Cond.methodLink RX1 3 objectInit ∈ sh_ws := sh_inw 215 (by decide +kernel) (by decide +kernel)
theorem wm_X1_35 : Cond.methodLink RX1 35 yX1_readThing ∈ sh_ws := sh_inw 471 (by decide +kernel) (by decide +kernel)
theorem wv_X1_readThing : Cond.instanceMethod yX1_readThing ∈ sh_ws := sh_inw 473 (by decide +kernel) (by decide +kernel)
theorem ws_X1_readThing : Cond.selects RX1 yX1_readThing yX1_readThing ∈ sh_ws := sh_inw 2 (by decide +kernel) (by decide +kernel)
theorem lk_X1_35 : sh_LV RX1 35 mX1_readThing 1 1 7 := ⟨cd_X1_readThing, wm_X1_35, wv_X1_readThing, ws_X1_readThing, TX1, cl_X1⟩
theorem wm_X1_39 : Cond.methodLink RX1 39 yX1_readSign ∈ sh_ws := sh_inw 491 (by decide +kernel) (by decide +kernel)
theorem wv_X1_readSign : Cond.instanceMethod yX1_readSign ∈ sh_ws := sh_inw 493 (by decide +kernel) (by decide +kernel)
theorem ws_X1_readSign : Cond.selects RX1 yX1_readSign yX1_readSign ∈ sh_ws := sh_inw 7 (by decide +kernel) (by decide +kernel)
theorem lk_X1_39 : sh_LV RX1 39 mX1_readSign 1 1 7 := ⟨cd_X1_readSign, wm_X1_39, wv_X1_readSign, ws_X1_readSign, TX1, cl_X1⟩
theorem wm_X1_42 : Cond.methodLink RX1 42 yX1_nextSign ∈ sh_ws := sh_inw 475 (by decide +kernel) (by decide +kernel)
theorem wv_X1_nextSign : Cond.instanceMethod yX1_nextSign ∈ sh_ws := sh_inw 477 (by decide +kernel) (by decide +kernel)
theorem ws_X1_nextSign : Cond.selects RX1 yX1_nextSign yX1_nextSign ∈ sh_ws := sh_inw 3 (by decide +kernel) (by decide +kernel)
theorem lk_X1_42 : sh_LV RX1 42 mX1_nextSign 0 1 7 := ⟨cd_X1_nextSign, wm_X1_42, wv_X1_nextSign, ws_X1_nextSign, TX1, cl_X1⟩
theorem wm_X1_46 : Cond.methodLink RX1 46 yX1_readAs ∈ sh_ws := sh_inw 479 (by decide +kernel) (by decide +kernel)
theorem wv_X1_readAs : Cond.instanceMethod yX1_readAs ∈ sh_ws := sh_inw 481 (by decide +kernel) (by decide +kernel)
theorem ws_X1_readAs : Cond.selects RX1 yX1_readAs yX1_readAs ∈ sh_ws := sh_inw 4 (by decide +kernel) (by decide +kernel)
theorem lk_X1_46 : sh_LV RX1 46 mX1_readAs 3 1 7 := ⟨cd_X1_readAs, wm_X1_46, wv_X1_readAs, ws_X1_readAs, TX1, cl_X1⟩
theorem wm_X1_50 : Cond.methodLink RX1 50 yX1_readNumber ∈ sh_ws := sh_inw 483 (by decide +kernel) (by decide +kernel)
theorem wv_X1_readNumber : Cond.instanceMethod yX1_readNumber ∈ sh_ws := sh_inw 485 (by decide +kernel) (by decide +kernel)
theorem ws_X1_readNumber : Cond.selects RX1 yX1_readNumber yX1_readNumber ∈ sh_ws := sh_inw 5 (by decide +kernel) (by decide +kernel)
theorem lk_X1_50 : sh_LV RX1 50 mX1_readNumber 4 1 7 := ⟨cd_X1_readNumber, wm_X1_50, wv_X1_readNumber, ws_X1_readNumber, TX1, cl_X1⟩
theorem wm_X1_54 : Cond.methodLink RX1 54 yX1_readDirection ∈ sh_ws := sh_inw 495 (by decide +kernel) (by decide +kernel)
theorem wv_X1_readDirection : Cond.instanceMethod yX1_readDirection ∈ sh_ws := sh_inw 497 (by decide +kernel) (by decide +kernel)
theorem ws_X1_readDirection : Cond.selects RX1 yX1_readDirection yX1_readDirection ∈ sh_ws := sh_inw 8 (by decide +kernel) (by decide +kernel)
theorem lk_X1_54 : sh_LV RX1 54 mX1_readDirection 1 1 7 := ⟨cd_X1_readDirection, wm_X1_54, wv_X1_readDirection, ws_X1_readDirection, TX1, cl_X1⟩
theorem wm_X1_57 : Cond.methodLink RX1 57 yX1_readOnOrOff ∈ sh_ws := sh_inw 499 (by decide +kernel) (by decide +kernel)
theorem wv_X1_readOnOrOff : Cond.instanceMethod yX1_readOnOrOff ∈ sh_ws := sh_inw 501 (by decide +kernel) (by decide +kernel)
theorem ws_X1_readOnOrOff : Cond.selects RX1 yX1_readOnOrOff yX1_readOnOrOff ∈ sh_ws := sh_inw 9 (by decide +kernel) (by decide +kernel)
theorem lk_X1_57 : sh_LV RX1 57 mX1_readOnOrOff 1 1 7 := ⟨cd_X1_readOnOrOff, wm_X1_57, wv_X1_readOnOrOff, ws_X1_readOnOrOff, TX1, cl_X1⟩
theorem wm_X1_60 : Cond.methodLink RX1 60 yX1_nextDigit ∈ sh_ws := sh_inw 487 (by decide +kernel) (by decide +kernel)
theorem wv_X1_nextDigit : Cond.instanceMethod yX1_nextDigit ∈ sh_ws := sh_inw 489 (by decide +kernel) (by decide +kernel)
theorem ws_X1_nextDigit : Cond.selects RX1 yX1_nextDigit yX1_nextDigit ∈ sh_ws := sh_inw 6 (by decide +kernel) (by decide +kernel)
theorem lk_X1_60 : sh_LV RX1 60 mX1_nextDigit 0 1 7 := ⟨cd_X1_nextDigit, wm_X1_60, wv_X1_nextDigit, ws_X1_nextDigit, TX1, cl_X1⟩
theorem wk_X2_9 : Cond.classLink RX2 9 RX4 ∈ sh_ws := sh_inw 196 (by decide +kernel) (by decide +kernel)
theorem wn_X4 : Cond.instantiable RX4 5 ∈ sh_ws := sh_inw 76 (by decide +kernel) (by decide +kernel)
theorem wf_X2_11 : Cond.fieldLink RX2 11 "ShadowTag$History" "ring" "[LShadowTag$Platform;" ∈ sh_ws := sh_inw 199 (by decide +kernel) (by decide +kernel)
theorem fl_X2_11 : sh_FL RX2 11 2 0 3 true := ⟨RX2, TX2, cl_X2, by decide, wf_X2_11, rfl⟩
theorem wf_X2_17 : Cond.fieldLink RX2 17 "ShadowTag$History" "oldest" "I" ∈ sh_ws := sh_inw 200 (by decide +kernel) (by decide +kernel)
theorem fl_X2_17 : sh_FL RX2 17 2 1 3 false := ⟨RX2, TX2, cl_X2, by decide, wf_X2_17, rfl⟩
theorem wf_X2_21 : Cond.fieldLink RX2 21 "ShadowTag$History" "states" "I" ∈ sh_ws := sh_inw 201 (by decide +kernel) (by decide +kernel)
theorem fl_X2_21 : sh_FL RX2 21 2 2 3 false := ⟨RX2, TX2, cl_X2, by decide, wf_X2_21, rfl⟩
theorem wm_X2_3 : Cond.methodLink RX2 3 objectInit ∈ sh_ws := sh_inw 195 (by decide +kernel) (by decide +kernel)
theorem wv_X4_init : Cond.instanceMethod yX4_init ∈ sh_ws := sh_inw 78 (by decide +kernel) (by decide +kernel)
theorem lk_X2_24 : sh_LIN RX2 24 mX4_init 0 := ⟨cd_X4_init, ⟨RX6, by decide +kernel⟩, wv_X4_init, rfl, rfl⟩
theorem wm_X2_25 : Cond.methodLink RX2 25 yX4_copyFrom ∈ sh_ws := sh_inw 341 (by decide +kernel) (by decide +kernel)
theorem wv_X4_copyFrom : Cond.instanceMethod yX4_copyFrom ∈ sh_ws := sh_inw 300 (by decide +kernel) (by decide +kernel)
theorem ws_X4_copyFrom : Cond.selects RX4 yX4_copyFrom yX4_copyFrom ∈ sh_ws := sh_inw 301 (by decide +kernel) (by decide +kernel)
theorem lk_X2_25 : sh_LV RX2 25 mX4_copyFrom 1 4 5 := ⟨cd_X4_copyFrom, wm_X2_25, wv_X4_copyFrom, ws_X4_copyFrom, TX4, cl_X4⟩
theorem wf_X3_9 : Cond.fieldLink RX3 9 "ShadowTag$Lamps" "side" "[I" ∈ sh_ws := sh_inw 149 (by decide +kernel) (by decide +kernel)
theorem fl_X3_9 : sh_FL RX3 9 3 0 4 true := ⟨RX3, TX3, cl_X3, by decide, wf_X3_9, rfl⟩
theorem wf_X3_15 : Cond.fieldLink RX3 15 "ShadowTag$Lamps" "reach" "[I" ∈ sh_ws := sh_inw 152 (by decide +kernel) (by decide +kernel)
theorem fl_X3_15 : sh_FL RX3 15 3 1 4 true := ⟨RX3, TX3, cl_X3, by decide, wf_X3_15, rfl⟩
theorem wf_X3_18 : Cond.fieldLink RX3 18 "ShadowTag$Lamps" "swing" "[I" ∈ sh_ws := sh_inw 155 (by decide +kernel) (by decide +kernel)
theorem fl_X3_18 : sh_FL RX3 18 3 2 4 true := ⟨RX3, TX3, cl_X3, by decide, wf_X3_18, rfl⟩
theorem wf_X3_21 : Cond.fieldLink RX3 21 "ShadowTag$Lamps" "on" "[I" ∈ sh_ws := sh_inw 157 (by decide +kernel) (by decide +kernel)
theorem fl_X3_21 : sh_FL RX3 21 3 3 4 true := ⟨RX3, TX3, cl_X3, by decide, wf_X3_21, rfl⟩
theorem wm_X3_3 : Cond.methodLink RX3 3 objectInit ∈ sh_ws := sh_inw 148 (by decide +kernel) (by decide +kernel)
theorem wt_X6_copyRow : Cond.static yX6_copyRow ∈ sh_ws := sh_inw 308 (by decide +kernel) (by decide +kernel)
theorem lk_X3_24 : sh_LSN RX3 24 mX6_copyRow 2 := ⟨cd_X6_copyRow, ⟨RX6, by decide +kernel⟩, wt_X6_copyRow⟩
theorem wt_X6_replace : Cond.static yX6_replace ∈ sh_ws := sh_inw 355 (by decide +kernel) (by decide +kernel)
theorem lk_X3_28 : sh_LSN RX3 28 mX6_replace 5 := ⟨cd_X6_replace, ⟨RX6, by decide +kernel⟩, wt_X6_replace⟩
theorem wm_X3_32 : Cond.methodLink RX3 32 yX3_burning ∈ sh_ws := sh_inw 366 (by decide +kernel) (by decide +kernel)
theorem wv_X3_burning : Cond.instanceMethod yX3_burning ∈ sh_ws := sh_inw 367 (by decide +kernel) (by decide +kernel)
theorem ws_X3_burning : Cond.selects RX3 yX3_burning yX3_burning ∈ sh_ws := sh_inw 368 (by decide +kernel) (by decide +kernel)
theorem lk_X3_32 : sh_LV RX3 32 mX3_burning 0 3 4 := ⟨cd_X3_burning, wm_X3_32, wv_X3_burning, ws_X3_burning, TX3, cl_X3⟩
theorem wt_X6_isLamp : Cond.static yX6_isLamp ∈ sh_ws := sh_inw 379 (by decide +kernel) (by decide +kernel)
theorem lk_X3_36 : sh_LSN RX3 36 mX6_isLamp 1 := ⟨cd_X6_isLamp, ⟨RX6, by decide +kernel⟩, wt_X6_isLamp⟩
theorem wk_X4_9 : Cond.classLink RX4 9 RX5 ∈ sh_ws := sh_inw 81 (by decide +kernel) (by decide +kernel)
theorem wn_X5 : Cond.instantiable RX5 12 ∈ sh_ws := sh_inw 82 (by decide +kernel) (by decide +kernel)
theorem wf_X4_12 : Cond.fieldLink RX4 12 "ShadowTag$Platform" "runners" "LShadowTag$Runners;" ∈ sh_ws := sh_inw 169 (by decide +kernel) (by decide +kernel)
theorem fl_X4_12 : sh_FL RX4 12 4 0 5 true := ⟨RX4, TX4, cl_X4, by decide, wf_X4_12, rfl⟩
theorem wk_X4_18 : Cond.classLink RX4 18 RX3 ∈ sh_ws := sh_inw 143 (by decide +kernel) (by decide +kernel)
theorem wn_X3 : Cond.instantiable RX3 4 ∈ sh_ws := sh_inw 144 (by decide +kernel) (by decide +kernel)
theorem wf_X4_21 : Cond.fieldLink RX4 21 "ShadowTag$Platform" "lamps" "LShadowTag$Lamps;" ∈ sh_ws := sh_inw 171 (by decide +kernel) (by decide +kernel)
theorem fl_X4_21 : sh_FL RX4 21 4 1 5 true := ⟨RX4, TX4, cl_X4, by decide, wf_X4_21, rfl⟩
theorem wf_X4_25 : Cond.fieldLink RX4 25 "ShadowTag$Platform" "settings" "[I" ∈ sh_ws := sh_inw 173 (by decide +kernel) (by decide +kernel)
theorem fl_X4_25 : sh_FL RX4 25 4 2 5 true := ⟨RX4, TX4, cl_X4, by decide, wf_X4_25, rfl⟩
theorem wf_X4_29 : Cond.fieldLink RX4 29 "ShadowTag$Platform" "turn" "I" ∈ sh_ws := sh_inw 175 (by decide +kernel) (by decide +kernel)
theorem fl_X4_29 : sh_FL RX4 29 4 3 5 false := ⟨RX4, TX4, cl_X4, by decide, wf_X4_29, rfl⟩
theorem wf_X4_33 : Cond.fieldLink RX4 33 "ShadowTag$Platform" "spins" "I" ∈ sh_ws := sh_inw 177 (by decide +kernel) (by decide +kernel)
theorem fl_X4_33 : sh_FL RX4 33 4 4 5 false := ⟨RX4, TX4, cl_X4, by decide, wf_X4_33, rfl⟩
theorem wm_X4_3 : Cond.methodLink RX4 3 objectInit ∈ sh_ws := sh_inw 80 (by decide +kernel) (by decide +kernel)
theorem wv_X5_init : Cond.instanceMethod yX5_init ∈ sh_ws := sh_inw 84 (by decide +kernel) (by decide +kernel)
theorem lk_X4_11 : sh_LIN RX4 11 mX5_init 0 := ⟨cd_X5_init, ⟨RX6, by decide +kernel⟩, wv_X5_init, rfl, rfl⟩
theorem wv_X3_init : Cond.instanceMethod yX3_init ∈ sh_ws := sh_inw 146 (by decide +kernel) (by decide +kernel)
theorem lk_X4_20 : sh_LIN RX4 20 mX3_init 0 := ⟨cd_X3_init, ⟨RX6, by decide +kernel⟩, wv_X3_init, rfl, rfl⟩
theorem wm_X4_36 : Cond.methodLink RX4 36 yX5_copyFrom ∈ sh_ws := sh_inw 303 (by decide +kernel) (by decide +kernel)
theorem wv_X5_copyFrom : Cond.instanceMethod yX5_copyFrom ∈ sh_ws := sh_inw 304 (by decide +kernel) (by decide +kernel)
theorem ws_X5_copyFrom : Cond.selects RX5 yX5_copyFrom yX5_copyFrom ∈ sh_ws := sh_inw 305 (by decide +kernel) (by decide +kernel)
theorem lk_X4_36 : sh_LV RX4 36 mX5_copyFrom 1 5 12 := ⟨cd_X5_copyFrom, wm_X4_36, wv_X5_copyFrom, ws_X5_copyFrom, TX5, cl_X5⟩
theorem wm_X4_40 : Cond.methodLink RX4 40 yX3_copyFrom ∈ sh_ws := sh_inw 316 (by decide +kernel) (by decide +kernel)
theorem wv_X3_copyFrom : Cond.instanceMethod yX3_copyFrom ∈ sh_ws := sh_inw 317 (by decide +kernel) (by decide +kernel)
theorem ws_X3_copyFrom : Cond.selects RX3 yX3_copyFrom yX3_copyFrom ∈ sh_ws := sh_inw 318 (by decide +kernel) (by decide +kernel)
theorem lk_X4_40 : sh_LV RX4 40 mX3_copyFrom 1 3 4 := ⟨cd_X3_copyFrom, wm_X4_40, wv_X3_copyFrom, ws_X3_copyFrom, TX3, cl_X3⟩
theorem lk_X4_43 : sh_LSN RX4 43 mX6_copyRow 2 := ⟨cd_X6_copyRow, ⟨RX6, by decide +kernel⟩, wt_X6_copyRow⟩
theorem wl_X4_47 : Cond.constant RX4 47 (Int32.ofInt 99999) ∈ sh_ws := sh_inw 394 (by decide +kernel) (by decide +kernel)
theorem wf_X4_48 : Cond.fieldLink RX4 48 "ShadowTag$Runners" "tags" "I" ∈ sh_ws := sh_inw 111 (by decide +kernel) (by decide +kernel)
theorem fl_X4_48 : sh_FL RX4 48 5 9 12 false := ⟨RX5, TX5, cl_X5, by decide, wf_X4_48, rfl⟩
theorem wm_X4_51 : Cond.methodLink RX4 51 yX4_takeTurn ∈ sh_ws := sh_inw 395 (by decide +kernel) (by decide +kernel)
theorem wv_X4_takeTurn : Cond.instanceMethod yX4_takeTurn ∈ sh_ws := sh_inw 396 (by decide +kernel) (by decide +kernel)
theorem ws_X4_takeTurn : Cond.selects RX4 yX4_takeTurn yX4_takeTurn ∈ sh_ws := sh_inw 397 (by decide +kernel) (by decide +kernel)
theorem lk_X4_51 : sh_LV RX4 51 mX4_takeTurn 0 4 5 := ⟨cd_X4_takeTurn, wm_X4_51, wv_X4_takeTurn, ws_X4_takeTurn, TX4, cl_X4⟩
theorem wm_X4_55 : Cond.methodLink RX4 55 yX5_stepAll ∈ sh_ws := sh_inw 399 (by decide +kernel) (by decide +kernel)
theorem wv_X5_stepAll : Cond.instanceMethod yX5_stepAll ∈ sh_ws := sh_inw 400 (by decide +kernel) (by decide +kernel)
theorem ws_X5_stepAll : Cond.selects RX5 yX5_stepAll yX5_stepAll ∈ sh_ws := sh_inw 401 (by decide +kernel) (by decide +kernel)
theorem lk_X4_55 : sh_LV RX4 55 mX5_stepAll 0 5 12 := ⟨cd_X5_stepAll, wm_X4_55, wv_X5_stepAll, ws_X5_stepAll, TX5, cl_X5⟩
theorem wm_X4_58 : Cond.methodLink RX4 58 yX4_firstCaught ∈ sh_ws := sh_inw 413 (by decide +kernel) (by decide +kernel)
theorem wv_X4_firstCaught : Cond.instanceMethod yX4_firstCaught ∈ sh_ws := sh_inw 414 (by decide +kernel) (by decide +kernel)
theorem ws_X4_firstCaught : Cond.selects RX4 yX4_firstCaught yX4_firstCaught ∈ sh_ws := sh_inw 415 (by decide +kernel) (by decide +kernel)
theorem lk_X4_58 : sh_LV RX4 58 mX4_firstCaught 0 4 5 := ⟨cd_X4_firstCaught, wm_X4_58, wv_X4_firstCaught, ws_X4_firstCaught, TX4, cl_X4⟩
theorem wm_X4_62 : Cond.methodLink RX4 62 yX5_handOver ∈ sh_ws := sh_inw 427 (by decide +kernel) (by decide +kernel)
theorem wv_X5_handOver : Cond.instanceMethod yX5_handOver ∈ sh_ws := sh_inw 428 (by decide +kernel) (by decide +kernel)
theorem ws_X5_handOver : Cond.selects RX5 yX5_handOver yX5_handOver ∈ sh_ws := sh_inw 429 (by decide +kernel) (by decide +kernel)
theorem lk_X4_62 : sh_LV RX4 62 mX5_handOver 2 5 12 := ⟨cd_X5_handOver, wm_X4_62, wv_X5_handOver, ws_X5_handOver, TX5, cl_X5⟩
theorem wm_X4_66 : Cond.methodLink RX4 66 yX5_shortenRespites ∈ sh_ws := sh_inw 431 (by decide +kernel) (by decide +kernel)
theorem wv_X5_shortenRespites : Cond.instanceMethod yX5_shortenRespites ∈ sh_ws := sh_inw 432 (by decide +kernel) (by decide +kernel)
theorem ws_X5_shortenRespites : Cond.selects RX5 yX5_shortenRespites yX5_shortenRespites ∈ sh_ws := sh_inw 433 (by decide +kernel) (by decide +kernel)
theorem lk_X4_66 : sh_LV RX4 66 mX5_shortenRespites 0 5 12 := ⟨cd_X5_shortenRespites, wm_X4_66, wv_X5_shortenRespites, ws_X5_shortenRespites, TX5, cl_X5⟩
theorem wm_X4_69 : Cond.methodLink RX4 69 yX5_addToAccounts ∈ sh_ws := sh_inw 435 (by decide +kernel) (by decide +kernel)
theorem wv_X5_addToAccounts : Cond.instanceMethod yX5_addToAccounts ∈ sh_ws := sh_inw 436 (by decide +kernel) (by decide +kernel)
theorem ws_X5_addToAccounts : Cond.selects RX5 yX5_addToAccounts yX5_addToAccounts ∈ sh_ws := sh_inw 437 (by decide +kernel) (by decide +kernel)
theorem lk_X4_69 : sh_LV RX4 69 mX5_addToAccounts 0 5 12 := ⟨cd_X5_addToAccounts, wm_X4_69, wv_X5_addToAccounts, ws_X5_addToAccounts, TX5, cl_X5⟩
theorem wm_X4_72 : Cond.methodLink RX4 72 yX3_swingAtTurn ∈ sh_ws := sh_inw 439 (by decide +kernel) (by decide +kernel)
theorem wv_X3_swingAtTurn : Cond.instanceMethod yX3_swingAtTurn ∈ sh_ws := sh_inw 440 (by decide +kernel) (by decide +kernel)
theorem ws_X3_swingAtTurn : Cond.selects RX3 yX3_swingAtTurn yX3_swingAtTurn ∈ sh_ws := sh_inw 441 (by decide +kernel) (by decide +kernel)
theorem lk_X4_72 : sh_LV RX4 72 mX3_swingAtTurn 1 3 4 := ⟨cd_X3_swingAtTurn, wm_X4_72, wv_X3_swingAtTurn, ws_X3_swingAtTurn, TX3, cl_X3⟩
theorem wm_X4_76 : Cond.methodLink RX4 76 yX5_spin ∈ sh_ws := sh_inw 443 (by decide +kernel) (by decide +kernel)
theorem wv_X5_spin : Cond.instanceMethod yX5_spin ∈ sh_ws := sh_inw 444 (by decide +kernel) (by decide +kernel)
theorem ws_X5_spin : Cond.selects RX5 yX5_spin yX5_spin ∈ sh_ws := sh_inw 445 (by decide +kernel) (by decide +kernel)
theorem lk_X4_76 : sh_LV RX4 76 mX5_spin 0 5 12 := ⟨cd_X5_spin, wm_X4_76, wv_X5_spin, ws_X5_spin, TX5, cl_X5⟩
theorem wf_X4_79 : Cond.fieldLink RX4 79 "ShadowTag$Runners" "catcher" "I" ∈ sh_ws := sh_inw 108 (by decide +kernel) (by decide +kernel)
theorem fl_X4_79 : sh_FL RX4 79 5 8 12 false := ⟨RX5, TX5, cl_X5, by decide, wf_X4_79, rfl⟩
theorem wf_X4_86 : Cond.fieldLink RX4 86 "ShadowTag$Runners" "cell" "[I" ∈ sh_ws := sh_inw 88 (by decide +kernel) (by decide +kernel)
theorem fl_X4_86 : sh_FL RX4 86 5 0 12 true := ⟨RX5, TX5, cl_X5, by decide, wf_X4_86, rfl⟩
theorem wf_X4_93 : Cond.fieldLink RX4 93 "ShadowTag$Runners" "respite" "[I" ∈ sh_ws := sh_inw 96 (by decide +kernel) (by decide +kernel)
theorem fl_X4_93 : sh_FL RX4 93 5 3 12 true := ⟨RX5, TX5, cl_X5, by decide, wf_X4_93, rfl⟩
theorem wm_X4_82 : Cond.methodLink RX4 82 yX5_has ∈ sh_ws := sh_inw 417 (by decide +kernel) (by decide +kernel)
theorem wv_X5_has : Cond.instanceMethod yX5_has ∈ sh_ws := sh_inw 351 (by decide +kernel) (by decide +kernel)
theorem ws_X5_has : Cond.selects RX5 yX5_has yX5_has ∈ sh_ws := sh_inw 352 (by decide +kernel) (by decide +kernel)
theorem lk_X4_82 : sh_LV RX4 82 mX5_has 1 5 12 := ⟨cd_X5_has, wm_X4_82, wv_X5_has, ws_X5_has, TX5, cl_X5⟩
theorem wm_X4_89 : Cond.methodLink RX4 89 yX4_shadowerOf ∈ sh_ws := sh_inw 418 (by decide +kernel) (by decide +kernel)
theorem wv_X4_shadowerOf : Cond.instanceMethod yX4_shadowerOf ∈ sh_ws := sh_inw 419 (by decide +kernel) (by decide +kernel)
theorem ws_X4_shadowerOf : Cond.selects RX4 yX4_shadowerOf yX4_shadowerOf ∈ sh_ws := sh_inw 420 (by decide +kernel) (by decide +kernel)
theorem lk_X4_89 : sh_LV RX4 89 mX4_shadowerOf 2 4 5 := ⟨cd_X4_shadowerOf, wm_X4_89, wv_X4_shadowerOf, ws_X4_shadowerOf, TX4, cl_X4⟩
theorem wm_X4_96 : Cond.methodLink RX4 96 yX4_isInShadow ∈ sh_ws := sh_inw 618 (by decide +kernel) (by decide +kernel)
theorem wv_X4_isInShadow : Cond.instanceMethod yX4_isInShadow ∈ sh_ws := sh_inw 594 (by decide +kernel) (by decide +kernel)
theorem ws_X4_isInShadow : Cond.selects RX4 yX4_isInShadow yX4_isInShadow ∈ sh_ws := sh_inw 595 (by decide +kernel) (by decide +kernel)
theorem lk_X4_96 : sh_LV RX4 96 mX4_isInShadow 3 4 5 := ⟨cd_X4_isInShadow, wm_X4_96, wv_X4_isInShadow, ws_X4_isInShadow, TX4, cl_X4⟩
theorem wf_X4_103 : Cond.fieldLink RX4 103 "ShadowTag$Lamps" "side" "[I" ∈ sh_ws := sh_inw 150 (by decide +kernel) (by decide +kernel)
theorem fl_X4_103 : sh_FL RX4 103 3 0 4 true := ⟨RX3, TX3, cl_X3, by decide, wf_X4_103, rfl⟩
theorem lk_X4_100 : sh_LSN RX4 100 mX6_isLamp 1 := ⟨cd_X6_isLamp, ⟨RX6, by decide +kernel⟩, wt_X6_isLamp⟩
theorem wt_X6_opposite : Cond.static yX6_opposite ∈ sh_ws := sh_inw 553 (by decide +kernel) (by decide +kernel)
theorem lk_X4_106 : sh_LSN RX4 106 mX6_opposite 1 := ⟨cd_X6_opposite, ⟨RX6, by decide +kernel⟩, wt_X6_opposite⟩
theorem wt_X6_distanceAlong : Cond.static yX6_distanceAlong ∈ sh_ws := sh_inw 557 (by decide +kernel) (by decide +kernel)
theorem lk_X4_110 : sh_LSN RX4 110 mX6_distanceAlong 3 := ⟨cd_X6_distanceAlong, ⟨RX6, by decide +kernel⟩, wt_X6_distanceAlong⟩
theorem wm_X4_114 : Cond.methodLink RX4 114 yX4_shadowLength ∈ sh_ws := sh_inw 548 (by decide +kernel) (by decide +kernel)
theorem wv_X4_shadowLength : Cond.instanceMethod yX4_shadowLength ∈ sh_ws := sh_inw 549 (by decide +kernel) (by decide +kernel)
theorem ws_X4_shadowLength : Cond.selects RX4 yX4_shadowLength yX4_shadowLength ∈ sh_ws := sh_inw 550 (by decide +kernel) (by decide +kernel)
theorem lk_X4_114 : sh_LV RX4 114 mX4_shadowLength 2 4 5 := ⟨cd_X4_shadowLength, wm_X4_114, wv_X4_shadowLength, ws_X4_shadowLength, TX4, cl_X4⟩
theorem wf_X4_117 : Cond.fieldLink RX4 117 "ShadowTag$Lamps" "on" "[I" ∈ sh_ws := sh_inw 158 (by decide +kernel) (by decide +kernel)
theorem fl_X4_117 : sh_FL RX4 117 3 3 4 true := ⟨RX3, TX3, cl_X3, by decide, wf_X4_117, rfl⟩
theorem wf_X4_120 : Cond.fieldLink RX4 120 "ShadowTag$Runners" "height" "[I" ∈ sh_ws := sh_inw 91 (by decide +kernel) (by decide +kernel)
theorem fl_X4_120 : sh_FL RX4 120 5 1 12 true := ⟨RX5, TX5, cl_X5, by decide, wf_X4_120, rfl⟩
theorem wf_X4_123 : Cond.fieldLink RX4 123 "ShadowTag$Lamps" "reach" "[I" ∈ sh_ws := sh_inw 153 (by decide +kernel) (by decide +kernel)
theorem fl_X4_123 : sh_FL RX4 123 3 1 4 true := ⟨RX3, TX3, cl_X3, by decide, wf_X4_123, rfl⟩
theorem wf_X4_134 : Cond.fieldLink RX4 134 "ShadowTag$Runners" "number" "I" ∈ sh_ws := sh_inw 105 (by decide +kernel) (by decide +kernel)
theorem fl_X4_134 : sh_FL RX4 134 5 7 12 false := ⟨RX5, TX5, cl_X5, by decide, wf_X4_134, rfl⟩
theorem lk_X4_126 : sh_LSN RX4 126 mX6_cellsToEdge 2 := ⟨cd_X6_cellsToEdge, ⟨RX6, by decide +kernel⟩, wt_X6_cellsToEdge⟩
theorem wm_X4_129 : Cond.methodLink RX4 129 Lib.Math.min.name ∈ sh_ws := sh_inw 555 (by decide +kernel) (by decide +kernel)
theorem wmin_1 : Cond.static Lib.Math.min.name ∈ sh_ws := sh_inw 311 (by decide +kernel) (by decide +kernel)
theorem wmin_2 : Cond.initialized "java/lang/Math" ∈ sh_ws := sh_inw 65 (by decide +kernel) (by decide +kernel)
theorem wmin_3 : Cond.code Lib.Math.min.name Lib.Math.min.code 2 (some .int) ∈ sh_ws := sh_inw 312 (by decide +kernel) (by decide +kernel)
theorem lk_X4_137 : sh_LSN RX4 137 mX6_cellAlong 3 := ⟨cd_X6_cellAlong, ⟨RX6, by decide +kernel⟩, wt_X6_cellAlong⟩
theorem wm_X4_140 : Cond.methodLink RX4 140 yX4_hasShadow ∈ sh_ws := sh_inw 665 (by decide +kernel) (by decide +kernel)
theorem wv_X4_hasShadow : Cond.instanceMethod yX4_hasShadow ∈ sh_ws := sh_inw 611 (by decide +kernel) (by decide +kernel)
theorem ws_X4_hasShadow : Cond.selects RX4 yX4_hasShadow yX4_hasShadow ∈ sh_ws := sh_inw 612 (by decide +kernel) (by decide +kernel)
theorem lk_X4_140 : sh_LV RX4 140 mX4_hasShadow 1 4 5 := ⟨cd_X4_hasShadow, wm_X4_140, wv_X4_hasShadow, ws_X4_hasShadow, TX4, cl_X4⟩
theorem lk_X4_143 : sh_LSN RX4 143 mX6_isCell 1 := ⟨cd_X6_isCell, ⟨RX6, by decide +kernel⟩, wt_X6_isCell⟩
theorem wm_X4_146 : Cond.methodLink RX4 146 yX5_standingOn ∈ sh_ws := sh_inw 426 (by decide +kernel) (by decide +kernel)
theorem wv_X5_standingOn : Cond.instanceMethod yX5_standingOn ∈ sh_ws := sh_inw 330 (by decide +kernel) (by decide +kernel)
theorem ws_X5_standingOn : Cond.selects RX5 yX5_standingOn yX5_standingOn ∈ sh_ws := sh_inw 331 (by decide +kernel) (by decide +kernel)
theorem lk_X4_146 : sh_LV RX4 146 mX5_standingOn 1 5 12 := ⟨cd_X5_standingOn, wm_X4_146, wv_X5_standingOn, ws_X5_standingOn, TX5, cl_X5⟩
theorem wm_X4_149 : Cond.methodLink RX4 149 yX4_darkenShadow ∈ sh_ws := sh_inw 544 (by decide +kernel) (by decide +kernel)
theorem wv_X4_darkenShadow : Cond.instanceMethod yX4_darkenShadow ∈ sh_ws := sh_inw 545 (by decide +kernel) (by decide +kernel)
theorem ws_X4_darkenShadow : Cond.selects RX4 yX4_darkenShadow yX4_darkenShadow ∈ sh_ws := sh_inw 546 (by decide +kernel) (by decide +kernel)
theorem lk_X4_149 : sh_LV RX4 149 mX4_darkenShadow 3 4 5 := ⟨cd_X4_darkenShadow, wm_X4_149, wv_X4_darkenShadow, ws_X4_darkenShadow, TX4, cl_X4⟩
theorem wm_X4_153 : Cond.methodLink RX4 153 yX0_darken ∈ sh_ws := sh_inw 559 (by decide +kernel) (by decide +kernel)
theorem wv_X0_darken : Cond.instanceMethod yX0_darken ∈ sh_ws := sh_inw 560 (by decide +kernel) (by decide +kernel)
theorem ws_X0_darken : Cond.selects RX0 yX0_darken yX0_darken ∈ sh_ws := sh_inw 561 (by decide +kernel) (by decide +kernel)
theorem lk_X4_153 : sh_LV RX4 153 mX0_darken 1 0 5 := ⟨cd_X0_darken, wm_X4_153, wv_X0_darken, ws_X0_darken, TX0, cl_X0⟩
theorem wf_X5_9 : Cond.fieldLink RX5 9 "ShadowTag$Runners" "cell" "[I" ∈ sh_ws := sh_inw 87 (by decide +kernel) (by decide +kernel)
theorem fl_X5_9 : sh_FL RX5 9 5 0 12 true := ⟨RX5, TX5, cl_X5, by decide, wf_X5_9, rfl⟩
theorem wf_X5_15 : Cond.fieldLink RX5 15 "ShadowTag$Runners" "height" "[I" ∈ sh_ws := sh_inw 90 (by decide +kernel) (by decide +kernel)
theorem fl_X5_15 : sh_FL RX5 15 5 1 12 true := ⟨RX5, TX5, cl_X5, by decide, wf_X5_15, rfl⟩
theorem wf_X5_18 : Cond.fieldLink RX5 18 "ShadowTag$Runners" "direction" "[I" ∈ sh_ws := sh_inw 93 (by decide +kernel) (by decide +kernel)
theorem fl_X5_18 : sh_FL RX5 18 5 2 12 true := ⟨RX5, TX5, cl_X5, by decide, wf_X5_18, rfl⟩
theorem wf_X5_21 : Cond.fieldLink RX5 21 "ShadowTag$Runners" "respite" "[I" ∈ sh_ws := sh_inw 95 (by decide +kernel) (by decide +kernel)
theorem fl_X5_21 : sh_FL RX5 21 5 3 12 true := ⟨RX5, TX5, cl_X5, by decide, wf_X5_21, rfl⟩
theorem wf_X5_24 : Cond.fieldLink RX5 24 "ShadowTag$Runners" "tagged" "[I" ∈ sh_ws := sh_inw 98 (by decide +kernel) (by decide +kernel)
theorem fl_X5_24 : sh_FL RX5 24 5 4 12 true := ⟨RX5, TX5, cl_X5, by decide, wf_X5_24, rfl⟩
theorem wf_X5_27 : Cond.fieldLink RX5 27 "ShadowTag$Runners" "tagging" "[I" ∈ sh_ws := sh_inw 100 (by decide +kernel) (by decide +kernel)
theorem fl_X5_27 : sh_FL RX5 27 5 5 12 true := ⟨RX5, TX5, cl_X5, by decide, wf_X5_27, rfl⟩
theorem wf_X5_30 : Cond.fieldLink RX5 30 "ShadowTag$Runners" "account" "[I" ∈ sh_ws := sh_inw 102 (by decide +kernel) (by decide +kernel)
theorem fl_X5_30 : sh_FL RX5 30 5 6 12 true := ⟨RX5, TX5, cl_X5, by decide, wf_X5_30, rfl⟩
theorem wf_X5_33 : Cond.fieldLink RX5 33 "ShadowTag$Runners" "number" "I" ∈ sh_ws := sh_inw 104 (by decide +kernel) (by decide +kernel)
theorem fl_X5_33 : sh_FL RX5 33 5 7 12 false := ⟨RX5, TX5, cl_X5, by decide, wf_X5_33, rfl⟩
theorem wf_X5_37 : Cond.fieldLink RX5 37 "ShadowTag$Runners" "catcher" "I" ∈ sh_ws := sh_inw 107 (by decide +kernel) (by decide +kernel)
theorem fl_X5_37 : sh_FL RX5 37 5 8 12 false := ⟨RX5, TX5, cl_X5, by decide, wf_X5_37, rfl⟩
theorem wf_X5_40 : Cond.fieldLink RX5 40 "ShadowTag$Runners" "tags" "I" ∈ sh_ws := sh_inw 110 (by decide +kernel) (by decide +kernel)
theorem fl_X5_40 : sh_FL RX5 40 5 9 12 false := ⟨RX5, TX5, cl_X5, by decide, wf_X5_40, rfl⟩
theorem wf_X5_43 : Cond.fieldLink RX5 43 "ShadowTag$Runners" "steps" "I" ∈ sh_ws := sh_inw 113 (by decide +kernel) (by decide +kernel)
theorem fl_X5_43 : sh_FL RX5 43 5 10 12 false := ⟨RX5, TX5, cl_X5, by decide, wf_X5_43, rfl⟩
theorem wf_X5_46 : Cond.fieldLink RX5 46 "ShadowTag$Runners" "stops" "I" ∈ sh_ws := sh_inw 115 (by decide +kernel) (by decide +kernel)
theorem fl_X5_46 : sh_FL RX5 46 5 11 12 false := ⟨RX5, TX5, cl_X5, by decide, wf_X5_46, rfl⟩
theorem wm_X5_3 : Cond.methodLink RX5 3 objectInit ∈ sh_ws := sh_inw 86 (by decide +kernel) (by decide +kernel)
theorem lk_X5_49 : sh_LSN RX5 49 mX6_copyRow 2 := ⟨cd_X6_copyRow, ⟨RX6, by decide +kernel⟩, wt_X6_copyRow⟩
theorem lk_X5_53 : sh_LSN RX5 53 mX6_isCell 1 := ⟨cd_X6_isCell, ⟨RX6, by decide +kernel⟩, wt_X6_isCell⟩
theorem wm_X5_57 : Cond.methodLink RX5 57 yX5_standingOn ∈ sh_ws := sh_inw 329 (by decide +kernel) (by decide +kernel)
theorem lk_X5_57 : sh_LV RX5 57 mX5_standingOn 1 5 12 := ⟨cd_X5_standingOn, wm_X5_57, wv_X5_standingOn, ws_X5_standingOn, TX5, cl_X5⟩
theorem wm_X5_61 : Cond.methodLink RX5 61 yX5_has ∈ sh_ws := sh_inw 350 (by decide +kernel) (by decide +kernel)
theorem lk_X5_61 : sh_LV RX5 61 mX5_has 1 5 12 := ⟨cd_X5_has, wm_X5_61, wv_X5_has, ws_X5_has, TX5, cl_X5⟩
theorem lk_X5_64 : sh_LSN RX5 64 mX6_replace 5 := ⟨cd_X6_replace, ⟨RX6, by decide +kernel⟩, wt_X6_replace⟩
theorem wm_X5_68 : Cond.methodLink RX5 68 yX5_step ∈ sh_ws := sh_inw 403 (by decide +kernel) (by decide +kernel)
theorem wv_X5_step : Cond.instanceMethod yX5_step ∈ sh_ws := sh_inw 405 (by decide +kernel) (by decide +kernel)
theorem ws_X5_step : Cond.selects RX5 yX5_step yX5_step ∈ sh_ws := sh_inw 1 (by decide +kernel) (by decide +kernel)
theorem lk_X5_68 : sh_LV RX5 68 mX5_step 1 5 12 := ⟨cd_X5_step, wm_X5_68, wv_X5_step, ws_X5_step, TX5, cl_X5⟩
theorem lk_X5_72 : sh_LSN RX5 72 mX6_cellAlong 3 := ⟨cd_X6_cellAlong, ⟨RX6, by decide +kernel⟩, wt_X6_cellAlong⟩
theorem lk_X5_76 : sh_LSN RX5 76 mX6_cellsToEdge 2 := ⟨cd_X6_cellsToEdge, ⟨RX6, by decide +kernel⟩, wt_X6_cellsToEdge⟩
theorem wk_X6_9 : Cond.classLink RX6 9 RX4 ∈ sh_ws := sh_inw 75 (by decide +kernel) (by decide +kernel)
theorem wf_X6_12 : Cond.fieldLink RX6 12 "ShadowTag" "platform" "LShadowTag$Platform;" ∈ sh_ws := sh_inw 267 (by decide +kernel) (by decide +kernel)
theorem fl_X6_12 : sh_FL RX6 12 6 0 9 true := ⟨RX6, TX6, cl_X6, by decide, wf_X6_12, rfl⟩
theorem wf_X6_16 : Cond.fieldLink RX6 16 "ShadowTag" "trial" "LShadowTag$Platform;" ∈ sh_ws := sh_inw 268 (by decide +kernel) (by decide +kernel)
theorem fl_X6_16 : sh_FL RX6 16 6 1 9 true := ⟨RX6, TX6, cl_X6, by decide, wf_X6_16, rfl⟩
theorem wf_X6_19 : Cond.fieldLink RX6 19 "ShadowTag" "snapshot" "LShadowTag$Platform;" ∈ sh_ws := sh_inw 269 (by decide +kernel) (by decide +kernel)
theorem fl_X6_19 : sh_FL RX6 19 6 2 9 true := ⟨RX6, TX6, cl_X6, by decide, wf_X6_19, rfl⟩
theorem wk_X6_22 : Cond.classLink RX6 22 RX2 ∈ sh_ws := sh_inw 190 (by decide +kernel) (by decide +kernel)
theorem wn_X2 : Cond.instantiable RX2 3 ∈ sh_ws := sh_inw 191 (by decide +kernel) (by decide +kernel)
theorem wf_X6_25 : Cond.fieldLink RX6 25 "ShadowTag" "history" "LShadowTag$History;" ∈ sh_ws := sh_inw 270 (by decide +kernel) (by decide +kernel)
theorem fl_X6_25 : sh_FL RX6 25 6 3 9 true := ⟨RX6, TX6, cl_X6, by decide, wf_X6_25, rfl⟩
theorem wk_X6_29 : Cond.classLink RX6 29 RX1 ∈ sh_ws := sh_inw 210 (by decide +kernel) (by decide +kernel)
theorem wn_X1 : Cond.instantiable RX1 7 ∈ sh_ws := sh_inw 211 (by decide +kernel) (by decide +kernel)
theorem wf_X6_32 : Cond.fieldLink RX6 32 "ShadowTag" "game" "LShadowTag$Game;" ∈ sh_ws := sh_inw 271 (by decide +kernel) (by decide +kernel)
theorem fl_X6_32 : sh_FL RX6 32 6 4 9 true := ⟨RX6, TX6, cl_X6, by decide, wf_X6_32, rfl⟩
theorem wk_X6_36 : Cond.classLink RX6 36 RX0 ∈ sh_ws := sh_inw 244 (by decide +kernel) (by decide +kernel)
theorem wn_X0 : Cond.instantiable RX0 5 ∈ sh_ws := sh_inw 245 (by decide +kernel) (by decide +kernel)
theorem wf_X6_39 : Cond.fieldLink RX6 39 "ShadowTag" "board" "LShadowTag$Board;" ∈ sh_ws := sh_inw 272 (by decide +kernel) (by decide +kernel)
theorem fl_X6_39 : sh_FL RX6 39 6 5 9 true := ⟨RX6, TX6, cl_X6, by decide, wf_X6_39, rfl⟩
theorem wf_X6_43 : Cond.fieldLink RX6 43 "ShadowTag" "hasSnapshot" "Z" ∈ sh_ws := sh_inw 273 (by decide +kernel) (by decide +kernel)
theorem fl_X6_43 : sh_FL RX6 43 6 6 9 false := ⟨RX6, TX6, cl_X6, by decide, wf_X6_43, rfl⟩
theorem wf_X6_47 : Cond.fieldLink RX6 47 "ShadowTag" "stopNumber" "I" ∈ sh_ws := sh_inw 274 (by decide +kernel) (by decide +kernel)
theorem fl_X6_47 : sh_FL RX6 47 6 7 9 false := ⟨RX6, TX6, cl_X6, by decide, wf_X6_47, rfl⟩
theorem wf_X6_51 : Cond.fieldLink RX6 51 "ShadowTag" "stopError" "I" ∈ sh_ws := sh_inw 275 (by decide +kernel) (by decide +kernel)
theorem fl_X6_51 : sh_FL RX6 51 6 8 9 false := ⟨RX6, TX6, cl_X6, by decide, wf_X6_51, rfl⟩
theorem wm_X6_3 : Cond.methodLink RX6 3 objectInit ∈ sh_ws := sh_inw 72 (by decide +kernel) (by decide +kernel)
theorem lk_X6_11 : sh_LIN RX6 11 mX4_init 0 := ⟨cd_X4_init, ⟨RX6, by decide +kernel⟩, wv_X4_init, rfl, rfl⟩
theorem wm_X6_24 : Cond.methodLink RX6 24 yX2_init ∈ sh_ws := sh_inw 192 (by decide +kernel) (by decide +kernel)
theorem wv_X2_init : Cond.instanceMethod yX2_init ∈ sh_ws := sh_inw 193 (by decide +kernel) (by decide +kernel)
theorem lk_X6_24 : sh_LI RX6 24 mX2_init 0 := ⟨cd_X2_init, wm_X6_24, wv_X2_init, rfl, rfl⟩
theorem wv_X1_init : Cond.instanceMethod yX1_init ∈ sh_ws := sh_inw 213 (by decide +kernel) (by decide +kernel)
theorem lk_X6_31 : sh_LIN RX6 31 mX1_init 0 := ⟨cd_X1_init, ⟨RX6, by decide +kernel⟩, wv_X1_init, rfl, rfl⟩
theorem wv_X0_init : Cond.instanceMethod yX0_init ∈ sh_ws := sh_inw 247 (by decide +kernel) (by decide +kernel)
theorem lk_X6_38 : sh_LIN RX6 38 mX0_init 0 := ⟨cd_X0_init, ⟨RX6, by decide +kernel⟩, wv_X0_init, rfl, rfl⟩
theorem wf_X6_58 : Cond.fieldLink RX6 58 "ShadowTag$Platform" "runners" "LShadowTag$Runners;" ∈ sh_ws := sh_inw 170 (by decide +kernel) (by decide +kernel)
theorem fl_X6_58 : sh_FL RX6 58 4 0 5 true := ⟨RX4, TX4, cl_X4, by decide, wf_X6_58, rfl⟩
theorem wm_X6_54 : Cond.methodLink RX6 54 yX4_copyFrom ∈ sh_ws := sh_inw 299 (by decide +kernel) (by decide +kernel)
theorem lk_X6_54 : sh_LV RX6 54 mX4_copyFrom 1 4 5 := ⟨cd_X4_copyFrom, wm_X6_54, wv_X4_copyFrom, ws_X4_copyFrom, TX4, cl_X4⟩
theorem wm_X6_62 : Cond.methodLink RX6 62 yX5_welcome ∈ sh_ws := sh_inw 322 (by decide +kernel) (by decide +kernel)
theorem wv_X5_welcome : Cond.instanceMethod yX5_welcome ∈ sh_ws := sh_inw 323 (by decide +kernel) (by decide +kernel)
theorem ws_X5_welcome : Cond.selects RX5 yX5_welcome yX5_welcome ∈ sh_ws := sh_inw 324 (by decide +kernel) (by decide +kernel)
theorem lk_X6_62 : sh_LV RX6 62 mX5_welcome 2 5 12 := ⟨cd_X5_welcome, wm_X6_62, wv_X5_welcome, ws_X5_welcome, TX5, cl_X5⟩
theorem wm_X6_68 : Cond.methodLink RX6 68 yX6_takeOver ∈ sh_ws := sh_inw 333 (by decide +kernel) (by decide +kernel)
theorem wv_X6_takeOver : Cond.instanceMethod yX6_takeOver ∈ sh_ws := sh_inw 335 (by decide +kernel) (by decide +kernel)
theorem ws_X6_takeOver : Cond.selects RX6 yX6_takeOver yX6_takeOver ∈ sh_ws := sh_inw 0 (by decide +kernel) (by decide +kernel)
theorem lk_X6_68 : sh_LV RX6 68 mX6_takeOver 1 6 9 := ⟨cd_X6_takeOver, wm_X6_68, wv_X6_takeOver, ws_X6_takeOver, TX6, cl_X6⟩
theorem wm_X6_72 : Cond.methodLink RX6 72 yX5_steer ∈ sh_ws := sh_inw 346 (by decide +kernel) (by decide +kernel)
theorem wv_X5_steer : Cond.instanceMethod yX5_steer ∈ sh_ws := sh_inw 347 (by decide +kernel) (by decide +kernel)
theorem ws_X5_steer : Cond.selects RX5 yX5_steer yX5_steer ∈ sh_ws := sh_inw 348 (by decide +kernel) (by decide +kernel)
theorem lk_X6_72 : sh_LV RX6 72 mX5_steer 2 5 12 := ⟨cd_X5_steer, wm_X6_72, wv_X5_steer, ws_X5_steer, TX5, cl_X5⟩
theorem wf_X6_75 : Cond.fieldLink RX6 75 "ShadowTag$Platform" "lamps" "LShadowTag$Lamps;" ∈ sh_ws := sh_inw 172 (by decide +kernel) (by decide +kernel)
theorem fl_X6_75 : sh_FL RX6 75 4 1 5 true := ⟨RX4, TX4, cl_X4, by decide, wf_X6_75, rfl⟩
theorem wm_X6_79 : Cond.methodLink RX6 79 yX3_switchTo ∈ sh_ws := sh_inw 361 (by decide +kernel) (by decide +kernel)
theorem wv_X3_switchTo : Cond.instanceMethod yX3_switchTo ∈ sh_ws := sh_inw 362 (by decide +kernel) (by decide +kernel)
theorem ws_X3_switchTo : Cond.selects RX3 yX3_switchTo yX3_switchTo ∈ sh_ws := sh_inw 363 (by decide +kernel) (by decide +kernel)
theorem lk_X6_79 : sh_LV RX6 79 mX3_switchTo 2 3 4 := ⟨cd_X3_switchTo, wm_X6_79, wv_X3_switchTo, ws_X3_switchTo, TX3, cl_X3⟩
theorem wm_X6_84 : Cond.methodLink RX6 84 yX3_adjust ∈ sh_ws := sh_inw 374 (by decide +kernel) (by decide +kernel)
theorem wv_X3_adjust : Cond.instanceMethod yX3_adjust ∈ sh_ws := sh_inw 375 (by decide +kernel) (by decide +kernel)
theorem ws_X3_adjust : Cond.selects RX3 yX3_adjust yX3_adjust ∈ sh_ws := sh_inw 376 (by decide +kernel) (by decide +kernel)
theorem lk_X6_84 : sh_LV RX6 84 mX3_adjust 3 3 4 := ⟨cd_X3_adjust, wm_X6_84, wv_X3_adjust, ws_X3_adjust, TX3, cl_X3⟩
theorem wf_X6_88 : Cond.fieldLink RX6 88 "ShadowTag$Platform" "settings" "[I" ∈ sh_ws := sh_inw 174 (by decide +kernel) (by decide +kernel)
theorem fl_X6_88 : sh_FL RX6 88 4 2 5 true := ⟨RX4, TX4, cl_X4, by decide, wf_X6_88, rfl⟩
theorem wm_X6_92 : Cond.methodLink RX6 92 yX6_replace ∈ sh_ws := sh_inw 385 (by decide +kernel) (by decide +kernel)
theorem lk_X6_92 : sh_LS RX6 92 mX6_replace 5 := ⟨cd_X6_replace, wm_X6_92, wt_X6_replace⟩
theorem wm_X6_96 : Cond.methodLink RX6 96 yX4_takeTurns ∈ sh_ws := sh_inw 390 (by decide +kernel) (by decide +kernel)
theorem wv_X4_takeTurns : Cond.instanceMethod yX4_takeTurns ∈ sh_ws := sh_inw 391 (by decide +kernel) (by decide +kernel)
theorem ws_X4_takeTurns : Cond.selects RX4 yX4_takeTurns yX4_takeTurns ∈ sh_ws := sh_inw 392 (by decide +kernel) (by decide +kernel)
theorem lk_X6_96 : sh_LV RX6 96 mX4_takeTurns 1 4 5 := ⟨cd_X4_takeTurns, wm_X6_96, wv_X4_takeTurns, ws_X4_takeTurns, TX4, cl_X4⟩
theorem wm_X6_99 : Cond.methodLink RX6 99 yX1_append ∈ sh_ws := sh_inw 451 (by decide +kernel) (by decide +kernel)
theorem wv_X1_append : Cond.instanceMethod yX1_append ∈ sh_ws := sh_inw 452 (by decide +kernel) (by decide +kernel)
theorem ws_X1_append : Cond.selects RX1 yX1_append yX1_append ∈ sh_ws := sh_inw 453 (by decide +kernel) (by decide +kernel)
theorem lk_X6_99 : sh_LV RX6 99 mX1_append 1 1 7 := ⟨cd_X1_append, wm_X6_99, wv_X1_append, ws_X1_append, TX1, cl_X1⟩
theorem wm_X6_103 : Cond.methodLink RX6 103 yX1_clear ∈ sh_ws := sh_inw 459 (by decide +kernel) (by decide +kernel)
theorem wv_X1_clear : Cond.instanceMethod yX1_clear ∈ sh_ws := sh_inw 460 (by decide +kernel) (by decide +kernel)
theorem ws_X1_clear : Cond.selects RX1 yX1_clear yX1_clear ∈ sh_ws := sh_inw 461 (by decide +kernel) (by decide +kernel)
theorem lk_X6_103 : sh_LV RX6 103 mX1_clear 0 1 7 := ⟨cd_X1_clear, wm_X6_103, wv_X1_clear, ws_X1_clear, TX1, cl_X1⟩
theorem wf_X6_110 : Cond.fieldLink RX6 110 "ShadowTag$Game" "things" "I" ∈ sh_ws := sh_inw 227 (by decide +kernel) (by decide +kernel)
theorem fl_X6_110 : sh_FL RX6 110 1 6 7 false := ⟨RX1, TX1, cl_X1, by decide, wf_X6_110, rfl⟩
theorem wm_X6_107 : Cond.methodLink RX6 107 yX1_read ∈ sh_ws := sh_inw 467 (by decide +kernel) (by decide +kernel)
theorem wv_X1_read : Cond.instanceMethod yX1_read ∈ sh_ws := sh_inw 468 (by decide +kernel) (by decide +kernel)
theorem ws_X1_read : Cond.selects RX1 yX1_read yX1_read ∈ sh_ws := sh_inw 469 (by decide +kernel) (by decide +kernel)
theorem lk_X6_107 : sh_LV RX6 107 mX1_read 0 1 7 := ⟨cd_X1_read, wm_X6_107, wv_X1_read, ws_X1_read, TX1, cl_X1⟩
theorem wm_X6_113 : Cond.methodLink RX6 113 yX6_tryThing ∈ sh_ws := sh_inw 503 (by decide +kernel) (by decide +kernel)
theorem wv_X6_tryThing : Cond.instanceMethod yX6_tryThing ∈ sh_ws := sh_inw 505 (by decide +kernel) (by decide +kernel)
theorem ws_X6_tryThing : Cond.selects RX6 yX6_tryThing yX6_tryThing ∈ sh_ws := sh_inw 10 (by decide +kernel) (by decide +kernel)
theorem lk_X6_113 : sh_LV RX6 113 mX6_tryThing 1 6 9 := ⟨cd_X6_tryThing, wm_X6_113, wv_X6_tryThing, ws_X6_tryThing, TX6, cl_X6⟩
theorem wf_X6_120 : Cond.fieldLink RX6 120 "ShadowTag$History" "states" "I" ∈ sh_ws := sh_inw 202 (by decide +kernel) (by decide +kernel)
theorem fl_X6_120 : sh_FL RX6 120 2 2 3 false := ⟨RX2, TX2, cl_X2, by decide, wf_X6_120, rfl⟩
theorem wm_X6_116 : Cond.methodLink RX6 116 yX2_takeBack ∈ sh_ws := sh_inw 515 (by decide +kernel) (by decide +kernel)
theorem wv_X2_takeBack : Cond.instanceMethod yX2_takeBack ∈ sh_ws := sh_inw 516 (by decide +kernel) (by decide +kernel)
theorem ws_X2_takeBack : Cond.selects RX2 yX2_takeBack yX2_takeBack ∈ sh_ws := sh_inw 517 (by decide +kernel) (by decide +kernel)
theorem lk_X6_116 : sh_LV RX6 116 mX2_takeBack 1 2 3 := ⟨cd_X2_takeBack, wm_X6_116, wv_X2_takeBack, ws_X2_takeBack, TX2, cl_X2⟩
theorem wf_X6_123 : Cond.fieldLink RX6 123 "ShadowTag$Runners" "number" "I" ∈ sh_ws := sh_inw 106 (by decide +kernel) (by decide +kernel)
theorem fl_X6_123 : sh_FL RX6 123 5 7 12 false := ⟨RX5, TX5, cl_X5, by decide, wf_X6_123, rfl⟩
theorem wf_X6_130 : Cond.fieldLink RX6 130 "ShadowTag$Runners" "cell" "[I" ∈ sh_ws := sh_inw 89 (by decide +kernel) (by decide +kernel)
theorem fl_X6_130 : sh_FL RX6 130 5 0 12 true := ⟨RX5, TX5, cl_X5, by decide, wf_X6_130, rfl⟩
theorem wf_X6_133 : Cond.fieldLink RX6 133 "ShadowTag$Runners" "height" "[I" ∈ sh_ws := sh_inw 92 (by decide +kernel) (by decide +kernel)
theorem fl_X6_133 : sh_FL RX6 133 5 1 12 true := ⟨RX5, TX5, cl_X5, by decide, wf_X6_133, rfl⟩
theorem wf_X6_136 : Cond.fieldLink RX6 136 "ShadowTag$Runners" "direction" "[I" ∈ sh_ws := sh_inw 94 (by decide +kernel) (by decide +kernel)
theorem fl_X6_136 : sh_FL RX6 136 5 2 12 true := ⟨RX5, TX5, cl_X5, by decide, wf_X6_136, rfl⟩
theorem wf_X6_139 : Cond.fieldLink RX6 139 "ShadowTag$Runners" "respite" "[I" ∈ sh_ws := sh_inw 97 (by decide +kernel) (by decide +kernel)
theorem fl_X6_139 : sh_FL RX6 139 5 3 12 true := ⟨RX5, TX5, cl_X5, by decide, wf_X6_139, rfl⟩
theorem wf_X6_142 : Cond.fieldLink RX6 142 "ShadowTag$Runners" "tagged" "[I" ∈ sh_ws := sh_inw 99 (by decide +kernel) (by decide +kernel)
theorem fl_X6_142 : sh_FL RX6 142 5 4 12 true := ⟨RX5, TX5, cl_X5, by decide, wf_X6_142, rfl⟩
theorem wf_X6_145 : Cond.fieldLink RX6 145 "ShadowTag$Runners" "tagging" "[I" ∈ sh_ws := sh_inw 101 (by decide +kernel) (by decide +kernel)
theorem fl_X6_145 : sh_FL RX6 145 5 5 12 true := ⟨RX5, TX5, cl_X5, by decide, wf_X6_145, rfl⟩
theorem wf_X6_148 : Cond.fieldLink RX6 148 "ShadowTag$Runners" "account" "[I" ∈ sh_ws := sh_inw 103 (by decide +kernel) (by decide +kernel)
theorem fl_X6_148 : sh_FL RX6 148 5 6 12 true := ⟨RX5, TX5, cl_X5, by decide, wf_X6_148, rfl⟩
theorem wm_X6_126 : Cond.methodLink RX6 126 yX5_has ∈ sh_ws := sh_inw 531 (by decide +kernel) (by decide +kernel)
theorem lk_X6_126 : sh_LV RX6 126 mX5_has 1 5 12 := ⟨cd_X5_has, wm_X6_126, wv_X5_has, ws_X5_has, TX5, cl_X5⟩
theorem wm_X6_151 : Cond.methodLink RX6 151 yX6_cellsInShadowsOf ∈ sh_ws := sh_inw 532 (by decide +kernel) (by decide +kernel)
theorem wv_X6_cellsInShadowsOf : Cond.instanceMethod yX6_cellsInShadowsOf ∈ sh_ws := sh_inw 534 (by decide +kernel) (by decide +kernel)
theorem ws_X6_cellsInShadowsOf : Cond.selects RX6 yX6_cellsInShadowsOf yX6_cellsInShadowsOf ∈ sh_ws := sh_inw 11 (by decide +kernel) (by decide +kernel)
theorem lk_X6_151 : sh_LV RX6 151 mX6_cellsInShadowsOf 1 6 9 := ⟨cd_X6_cellsInShadowsOf, wm_X6_151, wv_X6_cellsInShadowsOf, ws_X6_cellsInShadowsOf, TX6, cl_X6⟩
theorem wf_X6_157 : Cond.fieldLink RX6 157 "ShadowTag$Lamps" "side" "[I" ∈ sh_ws := sh_inw 151 (by decide +kernel) (by decide +kernel)
theorem fl_X6_157 : sh_FL RX6 157 3 0 4 true := ⟨RX3, TX3, cl_X3, by decide, wf_X6_157, rfl⟩
theorem wf_X6_160 : Cond.fieldLink RX6 160 "ShadowTag$Lamps" "reach" "[I" ∈ sh_ws := sh_inw 154 (by decide +kernel) (by decide +kernel)
theorem fl_X6_160 : sh_FL RX6 160 3 1 4 true := ⟨RX3, TX3, cl_X3, by decide, wf_X6_160, rfl⟩
theorem wf_X6_163 : Cond.fieldLink RX6 163 "ShadowTag$Lamps" "swing" "[I" ∈ sh_ws := sh_inw 156 (by decide +kernel) (by decide +kernel)
theorem fl_X6_163 : sh_FL RX6 163 3 2 4 true := ⟨RX3, TX3, cl_X3, by decide, wf_X6_163, rfl⟩
theorem wf_X6_166 : Cond.fieldLink RX6 166 "ShadowTag$Lamps" "on" "[I" ∈ sh_ws := sh_inw 159 (by decide +kernel) (by decide +kernel)
theorem fl_X6_166 : sh_FL RX6 166 3 3 4 true := ⟨RX3, TX3, cl_X3, by decide, wf_X6_166, rfl⟩
theorem wm_X6_154 : Cond.methodLink RX6 154 yX6_isLamp ∈ sh_ws := sh_inw 572 (by decide +kernel) (by decide +kernel)
theorem lk_X6_154 : sh_LS RX6 154 mX6_isLamp 1 := ⟨cd_X6_isLamp, wm_X6_154, wt_X6_isLamp⟩
theorem wm_X6_169 : Cond.methodLink RX6 169 yX6_cellsInShadowsBy ∈ sh_ws := sh_inw 573 (by decide +kernel) (by decide +kernel)
theorem wv_X6_cellsInShadowsBy : Cond.instanceMethod yX6_cellsInShadowsBy ∈ sh_ws := sh_inw 575 (by decide +kernel) (by decide +kernel)
theorem ws_X6_cellsInShadowsBy : Cond.selects RX6 yX6_cellsInShadowsBy yX6_cellsInShadowsBy ∈ sh_ws := sh_inw 12 (by decide +kernel) (by decide +kernel)
theorem lk_X6_169 : sh_LV RX6 169 mX6_cellsInShadowsBy 1 6 9 := ⟨cd_X6_cellsInShadowsBy, wm_X6_169, wv_X6_cellsInShadowsBy, ws_X6_cellsInShadowsBy, TX6, cl_X6⟩
theorem wm_X6_172 : Cond.methodLink RX6 172 yX4_shadowLength ∈ sh_ws := sh_inw 582 (by decide +kernel) (by decide +kernel)
theorem lk_X6_172 : sh_LV RX6 172 mX4_shadowLength 2 4 5 := ⟨cd_X4_shadowLength, wm_X6_172, wv_X4_shadowLength, ws_X4_shadowLength, TX4, cl_X4⟩
theorem wm_X6_175 : Cond.methodLink RX6 175 yX4_shadowEnd ∈ sh_ws := sh_inw 583 (by decide +kernel) (by decide +kernel)
theorem wv_X4_shadowEnd : Cond.instanceMethod yX4_shadowEnd ∈ sh_ws := sh_inw 584 (by decide +kernel) (by decide +kernel)
theorem ws_X4_shadowEnd : Cond.selects RX4 yX4_shadowEnd yX4_shadowEnd ∈ sh_ws := sh_inw 585 (by decide +kernel) (by decide +kernel)
theorem lk_X6_175 : sh_LV RX6 175 mX4_shadowEnd 2 4 5 := ⟨cd_X4_shadowEnd, wm_X6_175, wv_X4_shadowEnd, ws_X4_shadowEnd, TX4, cl_X4⟩
theorem wm_X6_178 : Cond.methodLink RX6 178 yX5_standingOn ∈ sh_ws := sh_inw 587 (by decide +kernel) (by decide +kernel)
theorem lk_X6_178 : sh_LV RX6 178 mX5_standingOn 1 5 12 := ⟨cd_X5_standingOn, wm_X6_178, wv_X5_standingOn, ws_X5_standingOn, TX5, cl_X5⟩
theorem wm_X6_181 : Cond.methodLink RX6 181 yX6_isCell ∈ sh_ws := sh_inw 592 (by decide +kernel) (by decide +kernel)
theorem lk_X6_181 : sh_LS RX6 181 mX6_isCell 1 := ⟨cd_X6_isCell, wm_X6_181, wt_X6_isCell⟩
theorem wm_X6_184 : Cond.methodLink RX6 184 yX4_isInShadow ∈ sh_ws := sh_inw 593 (by decide +kernel) (by decide +kernel)
theorem lk_X6_184 : sh_LV RX6 184 mX4_isInShadow 3 4 5 := ⟨cd_X4_isInShadow, wm_X6_184, wv_X4_isInShadow, ws_X4_isInShadow, TX4, cl_X4⟩
theorem wm_X6_188 : Cond.methodLink RX6 188 yX4_shadowerOf ∈ sh_ws := sh_inw 601 (by decide +kernel) (by decide +kernel)
theorem lk_X6_188 : sh_LV RX6 188 mX4_shadowerOf 2 4 5 := ⟨cd_X4_shadowerOf, wm_X6_188, wv_X4_shadowerOf, ws_X4_shadowerOf, TX4, cl_X4⟩
theorem wf_X6_191 : Cond.fieldLink RX6 191 "ShadowTag$Runners" "catcher" "I" ∈ sh_ws := sh_inw 109 (by decide +kernel) (by decide +kernel)
theorem fl_X6_191 : sh_FL RX6 191 5 8 12 false := ⟨RX5, TX5, cl_X5, by decide, wf_X6_191, rfl⟩
theorem wm_X6_194 : Cond.methodLink RX6 194 yX4_hasShadow ∈ sh_ws := sh_inw 610 (by decide +kernel) (by decide +kernel)
theorem lk_X6_194 : sh_LV RX6 194 mX4_hasShadow 1 4 5 := ⟨cd_X4_hasShadow, wm_X6_194, wv_X4_hasShadow, ws_X4_hasShadow, TX4, cl_X4⟩
theorem wm_X6_197 : Cond.methodLink RX6 197 yX4_catcherStandsInShadowOf ∈ sh_ws := sh_inw 614 (by decide +kernel) (by decide +kernel)
theorem wv_X4_catcherStandsInShadowOf : Cond.instanceMethod yX4_catcherStandsInShadowOf ∈ sh_ws := sh_inw 615 (by decide +kernel) (by decide +kernel)
theorem ws_X4_catcherStandsInShadowOf : Cond.selects RX4 yX4_catcherStandsInShadowOf yX4_catcherStandsInShadowOf ∈ sh_ws := sh_inw 616 (by decide +kernel) (by decide +kernel)
theorem lk_X6_197 : sh_LV RX6 197 mX4_catcherStandsInShadowOf 1 4 5 := ⟨cd_X4_catcherStandsInShadowOf, wm_X6_197, wv_X4_catcherStandsInShadowOf, ws_X4_catcherStandsInShadowOf, TX4, cl_X4⟩
theorem wm_X6_200 : Cond.methodLink RX6 200 yX4_firstCaught ∈ sh_ws := sh_inw 619 (by decide +kernel) (by decide +kernel)
theorem lk_X6_200 : sh_LV RX6 200 mX4_firstCaught 0 4 5 := ⟨cd_X4_firstCaught, wm_X6_200, wv_X4_firstCaught, ws_X4_firstCaught, TX4, cl_X4⟩
theorem wm_X6_203 : Cond.methodLink RX6 203 yX0_clear ∈ sh_ws := sh_inw 536 (by decide +kernel) (by decide +kernel)
theorem wv_X0_clear : Cond.instanceMethod yX0_clear ∈ sh_ws := sh_inw 537 (by decide +kernel) (by decide +kernel)
theorem ws_X0_clear : Cond.selects RX0 yX0_clear yX0_clear ∈ sh_ws := sh_inw 538 (by decide +kernel) (by decide +kernel)
theorem lk_X6_203 : sh_LV RX6 203 mX0_clear 0 0 5 := ⟨cd_X0_clear, wm_X6_203, wv_X0_clear, ws_X0_clear, TX0, cl_X0⟩
theorem wm_X6_205 : Cond.methodLink RX6 205 yX4_darkenShadowsOf ∈ sh_ws := sh_inw 540 (by decide +kernel) (by decide +kernel)
theorem wv_X4_darkenShadowsOf : Cond.instanceMethod yX4_darkenShadowsOf ∈ sh_ws := sh_inw 541 (by decide +kernel) (by decide +kernel)
theorem ws_X4_darkenShadowsOf : Cond.selects RX4 yX4_darkenShadowsOf yX4_darkenShadowsOf ∈ sh_ws := sh_inw 542 (by decide +kernel) (by decide +kernel)
theorem lk_X6_205 : sh_LV RX6 205 mX4_darkenShadowsOf 2 4 5 := ⟨cd_X4_darkenShadowsOf, wm_X6_205, wv_X4_darkenShadowsOf, ws_X4_darkenShadowsOf, TX4, cl_X4⟩
theorem wm_X6_209 : Cond.methodLink RX6 209 yX0_block ∈ sh_ws := sh_inw 624 (by decide +kernel) (by decide +kernel)
theorem wv_X0_block : Cond.instanceMethod yX0_block ∈ sh_ws := sh_inw 625 (by decide +kernel) (by decide +kernel)
theorem ws_X0_block : Cond.selects RX0 yX0_block yX0_block ∈ sh_ws := sh_inw 626 (by decide +kernel) (by decide +kernel)
theorem lk_X6_209 : sh_LV RX6 209 mX0_block 1 0 5 := ⟨cd_X0_block, wm_X6_209, wv_X0_block, ws_X0_block, TX0, cl_X0⟩
theorem wm_X6_213 : Cond.methodLink RX6 213 yX0_stepsIntoTheDark ∈ sh_ws := sh_inw 628 (by decide +kernel) (by decide +kernel)
theorem wv_X0_stepsIntoTheDark : Cond.instanceMethod yX0_stepsIntoTheDark ∈ sh_ws := sh_inw 629 (by decide +kernel) (by decide +kernel)
theorem ws_X0_stepsIntoTheDark : Cond.selects RX0 yX0_stepsIntoTheDark yX0_stepsIntoTheDark ∈ sh_ws := sh_inw 630 (by decide +kernel) (by decide +kernel)
theorem lk_X6_213 : sh_LV RX6 213 mX0_stepsIntoTheDark 1 0 5 := ⟨cd_X0_stepsIntoTheDark, wm_X6_213, wv_X0_stepsIntoTheDark, ws_X0_stepsIntoTheDark, TX0, cl_X0⟩
theorem wm_X6_216 : Cond.methodLink RX6 216 yX6_stepsOrFarthest ∈ sh_ws := sh_inw 642 (by decide +kernel) (by decide +kernel)
theorem wv_X6_stepsOrFarthest : Cond.instanceMethod yX6_stepsOrFarthest ∈ sh_ws := sh_inw 644 (by decide +kernel) (by decide +kernel)
theorem ws_X6_stepsOrFarthest : Cond.selects RX6 yX6_stepsOrFarthest yX6_stepsOrFarthest ∈ sh_ws := sh_inw 14 (by decide +kernel) (by decide +kernel)
theorem lk_X6_216 : sh_LV RX6 216 mX6_stepsOrFarthest 1 6 9 := ⟨cd_X6_stepsOrFarthest, wm_X6_216, wv_X6_stepsOrFarthest, ws_X6_stepsOrFarthest, TX6, cl_X6⟩
theorem wm_X6_219 : Cond.methodLink RX6 219 yX4_takeTurn ∈ sh_ws := sh_inw 651 (by decide +kernel) (by decide +kernel)
theorem lk_X6_219 : sh_LV RX6 219 mX4_takeTurn 0 4 5 := ⟨cd_X4_takeTurn, wm_X6_219, wv_X4_takeTurn, ws_X4_takeTurn, TX4, cl_X4⟩
theorem wf_X6_223 : Cond.fieldLink RX6 223 "ShadowTag$Platform" "turn" "I" ∈ sh_ws := sh_inw 176 (by decide +kernel) (by decide +kernel)
theorem fl_X6_223 : sh_FL RX6 223 4 3 5 false := ⟨RX4, TX4, cl_X4, by decide, wf_X6_223, rfl⟩
theorem wf_X6_235 : Cond.fieldLink RX6 235 "ShadowTag$Runners" "tags" "I" ∈ sh_ws := sh_inw 112 (by decide +kernel) (by decide +kernel)
theorem fl_X6_235 : sh_FL RX6 235 5 9 12 false := ⟨RX5, TX5, cl_X5, by decide, wf_X6_235, rfl⟩
theorem wf_X6_238 : Cond.fieldLink RX6 238 "ShadowTag$Runners" "steps" "I" ∈ sh_ws := sh_inw 114 (by decide +kernel) (by decide +kernel)
theorem fl_X6_238 : sh_FL RX6 238 5 10 12 false := ⟨RX5, TX5, cl_X5, by decide, wf_X6_238, rfl⟩
theorem wf_X6_241 : Cond.fieldLink RX6 241 "ShadowTag$Runners" "stops" "I" ∈ sh_ws := sh_inw 116 (by decide +kernel) (by decide +kernel)
theorem fl_X6_241 : sh_FL RX6 241 5 11 12 false := ⟨RX5, TX5, cl_X5, by decide, wf_X6_241, rfl⟩
theorem wf_X6_244 : Cond.fieldLink RX6 244 "ShadowTag$Platform" "spins" "I" ∈ sh_ws := sh_inw 178 (by decide +kernel) (by decide +kernel)
theorem fl_X6_244 : sh_FL RX6 244 4 4 5 false := ⟨RX4, TX4, cl_X4, by decide, wf_X6_244, rfl⟩
theorem wf_X6_247 : Cond.fieldLink RX6 247 "ShadowTag$Game" "length" "I" ∈ sh_ws := sh_inw 218 (by decide +kernel) (by decide +kernel)
theorem fl_X6_247 : sh_FL RX6 247 1 1 7 false := ⟨RX1, TX1, cl_X1, by decide, wf_X6_247, rfl⟩
theorem wm_X6_226 : Cond.methodLink RX6 226 yX3_burning ∈ sh_ws := sh_inw 656 (by decide +kernel) (by decide +kernel)
theorem lk_X6_226 : sh_LV RX6 226 mX3_burning 0 3 4 := ⟨cd_X3_burning, wm_X6_226, wv_X3_burning, ws_X3_burning, TX3, cl_X3⟩
theorem wm_X6_229 : Cond.methodLink RX6 229 yX6_cellsInAnyShadow ∈ sh_ws := sh_inw 657 (by decide +kernel) (by decide +kernel)
theorem wv_X6_cellsInAnyShadow : Cond.instanceMethod yX6_cellsInAnyShadow ∈ sh_ws := sh_inw 659 (by decide +kernel) (by decide +kernel)
theorem ws_X6_cellsInAnyShadow : Cond.selects RX6 yX6_cellsInAnyShadow yX6_cellsInAnyShadow ∈ sh_ws := sh_inw 15 (by decide +kernel) (by decide +kernel)
theorem lk_X6_229 : sh_LV RX6 229 mX6_cellsInAnyShadow 0 6 9 := ⟨cd_X6_cellsInAnyShadow, wm_X6_229, wv_X6_cellsInAnyShadow, ws_X6_cellsInAnyShadow, TX6, cl_X6⟩
theorem wm_X6_232 : Cond.methodLink RX6 232 yX4_runnersWithoutShadow ∈ sh_ws := sh_inw 661 (by decide +kernel) (by decide +kernel)
theorem wv_X4_runnersWithoutShadow : Cond.instanceMethod yX4_runnersWithoutShadow ∈ sh_ws := sh_inw 662 (by decide +kernel) (by decide +kernel)
theorem ws_X4_runnersWithoutShadow : Cond.selects RX4 yX4_runnersWithoutShadow yX4_runnersWithoutShadow ∈ sh_ws := sh_inw 663 (by decide +kernel) (by decide +kernel)
theorem lk_X6_232 : sh_LV RX6 232 mX4_runnersWithoutShadow 0 4 5 := ⟨cd_X4_runnersWithoutShadow, wm_X6_232, wv_X4_runnersWithoutShadow, ws_X4_runnersWithoutShadow, TX4, cl_X4⟩
theorem wm_X6_250 : Cond.methodLink RX6 250 yX2_record ∈ sh_ws := sh_inw 337 (by decide +kernel) (by decide +kernel)
theorem wv_X2_record : Cond.instanceMethod yX2_record ∈ sh_ws := sh_inw 338 (by decide +kernel) (by decide +kernel)
theorem ws_X2_record : Cond.selects RX2 yX2_record yX2_record ∈ sh_ws := sh_inw 339 (by decide +kernel) (by decide +kernel)
theorem lk_X6_250 : sh_LV RX6 250 mX2_record 1 2 3 := ⟨cd_X2_record, wm_X6_250, wv_X2_record, ws_X2_record, TX2, cl_X2⟩
theorem wf_X6_253 : Cond.fieldLink RX6 253 "ShadowTag$Game" "first" "[I" ∈ sh_ws := sh_inw 223 (by decide +kernel) (by decide +kernel)
theorem fl_X6_253 : sh_FL RX6 253 1 4 7 true := ⟨RX1, TX1, cl_X1, by decide, wf_X6_253, rfl⟩
theorem wf_X6_256 : Cond.fieldLink RX6 256 "ShadowTag$Game" "second" "[I" ∈ sh_ws := sh_inw 225 (by decide +kernel) (by decide +kernel)
theorem fl_X6_256 : sh_FL RX6 256 1 5 7 true := ⟨RX1, TX1, cl_X1, by decide, wf_X6_256, rfl⟩
theorem wf_X6_259 : Cond.fieldLink RX6 259 "ShadowTag$Game" "kind" "[I" ∈ sh_ws := sh_inw 221 (by decide +kernel) (by decide +kernel)
theorem fl_X6_259 : sh_FL RX6 259 1 3 7 true := ⟨RX1, TX1, cl_X1, by decide, wf_X6_259, rfl⟩
theorem wm_X6_262 : Cond.methodLink RX6 262 yX0_darkCells ∈ sh_ws := sh_inw 564 (by decide +kernel) (by decide +kernel)
theorem wv_X0_darkCells : Cond.instanceMethod yX0_darkCells ∈ sh_ws := sh_inw 565 (by decide +kernel) (by decide +kernel)
theorem ws_X0_darkCells : Cond.selects RX0 yX0_darkCells yX0_darkCells ∈ sh_ws := sh_inw 566 (by decide +kernel) (by decide +kernel)
theorem lk_X6_262 : sh_LV RX6 262 mX0_darkCells 0 0 5 := ⟨cd_X0_darkCells, wm_X6_262, wv_X0_darkCells, ws_X0_darkCells, TX0, cl_X0⟩
theorem wm_X6_265 : Cond.methodLink RX6 265 yX4_darkenShadow ∈ sh_ws := sh_inw 577 (by decide +kernel) (by decide +kernel)
theorem lk_X6_265 : sh_LV RX6 265 mX4_darkenShadow 3 4 5 := ⟨cd_X4_darkenShadow, wm_X6_265, wv_X4_darkenShadow, ws_X4_darkenShadow, TX4, cl_X4⟩
theorem wm_X6_269 : Cond.methodLink RX6 269 yX6_stepsTo ∈ sh_ws := sh_inw 646 (by decide +kernel) (by decide +kernel)
theorem wv_X6_stepsTo : Cond.instanceMethod yX6_stepsTo ∈ sh_ws := sh_inw 621 (by decide +kernel) (by decide +kernel)
theorem ws_X6_stepsTo : Cond.selects RX6 yX6_stepsTo yX6_stepsTo ∈ sh_ws := sh_inw 622 (by decide +kernel) (by decide +kernel)
theorem lk_X6_269 : sh_LV RX6 269 mX6_stepsTo 1 6 9 := ⟨cd_X6_stepsTo, wm_X6_269, wv_X6_stepsTo, ws_X6_stepsTo, TX6, cl_X6⟩
theorem wm_X6_272 : Cond.methodLink RX6 272 Lib.Math.min.name ∈ sh_ws := sh_inw 310 (by decide +kernel) (by decide +kernel)
theorem wm_X6_277 : Cond.methodLink RX6 277 arraycopyName ∈ sh_ws := sh_inw 313 (by decide +kernel) (by decide +kernel)
theorem wcp_1 : Cond.native arraycopyName ∈ sh_ws := sh_inw 315 (by decide +kernel) (by decide +kernel)
theorem wcp_2 : Cond.static arraycopyName ∈ sh_ws := sh_inw 314 (by decide +kernel) (by decide +kernel)
theorem wcp_3 : Cond.initialized "java/lang/System" ∈ sh_ws := sh_inw 66 (by decide +kernel) (by decide +kernel)
theorem wf_X7_7 : Cond.fieldLink RX7 7 "ShadowTagModel" "row" "[I" ∈ sh_ws := sh_inw 676 (by decide +kernel) (by decide +kernel)
theorem fl_X7_7 : sh_FL RX7 7 7 0 20 true := ⟨RX7, TX7, cl_X7, by decide, wf_X7_7, rfl⟩
theorem wf_X7_13 : Cond.fieldLink RX7 13 "ShadowTagModel" "history" "[I" ∈ sh_ws := sh_inw 677 (by decide +kernel) (by decide +kernel)
theorem fl_X7_13 : sh_FL RX7 13 7 1 20 true := ⟨RX7, TX7, cl_X7, by decide, wf_X7_13, rfl⟩
theorem wf_X7_16 : Cond.fieldLink RX7 16 "ShadowTagModel" "snapshot" "[I" ∈ sh_ws := sh_inw 679 (by decide +kernel) (by decide +kernel)
theorem fl_X7_16 : sh_FL RX7 16 7 3 20 true := ⟨RX7, TX7, cl_X7, by decide, wf_X7_16, rfl⟩
theorem wf_X7_19 : Cond.fieldLink RX7 19 "ShadowTagModel" "aside" "[I" ∈ sh_ws := sh_inw 681 (by decide +kernel) (by decide +kernel)
theorem fl_X7_19 : sh_FL RX7 19 7 5 20 true := ⟨RX7, TX7, cl_X7, by decide, wf_X7_19, rfl⟩
theorem wf_X7_22 : Cond.fieldLink RX7 22 "ShadowTagModel" "shade" "[I" ∈ sh_ws := sh_inw 682 (by decide +kernel) (by decide +kernel)
theorem fl_X7_22 : sh_FL RX7 22 7 6 20 true := ⟨RX7, TX7, cl_X7, by decide, wf_X7_22, rfl⟩
theorem wf_X7_25 : Cond.fieldLink RX7 25 "ShadowTagModel" "text" "[I" ∈ sh_ws := sh_inw 685 (by decide +kernel) (by decide +kernel)
theorem fl_X7_25 : sh_FL RX7 25 7 9 20 true := ⟨RX7, TX7, cl_X7, by decide, wf_X7_25, rfl⟩
theorem wf_X7_28 : Cond.fieldLink RX7 28 "ShadowTagModel" "sign" "[I" ∈ sh_ws := sh_inw 690 (by decide +kernel) (by decide +kernel)
theorem fl_X7_28 : sh_FL RX7 28 7 14 20 true := ⟨RX7, TX7, cl_X7, by decide, wf_X7_28, rfl⟩
theorem wf_X7_31 : Cond.fieldLink RX7 31 "ShadowTagModel" "one" "[I" ∈ sh_ws := sh_inw 691 (by decide +kernel) (by decide +kernel)
theorem fl_X7_31 : sh_FL RX7 31 7 15 20 true := ⟨RX7, TX7, cl_X7, by decide, wf_X7_31, rfl⟩
theorem wf_X7_34 : Cond.fieldLink RX7 34 "ShadowTagModel" "two" "[I" ∈ sh_ws := sh_inw 692 (by decide +kernel) (by decide +kernel)
theorem fl_X7_34 : sh_FL RX7 34 7 16 20 true := ⟨RX7, TX7, cl_X7, by decide, wf_X7_34, rfl⟩
theorem wf_X7_37 : Cond.fieldLink RX7 37 "ShadowTagModel" "stopThing" "I" ∈ sh_ws := sh_inw 693 (by decide +kernel) (by decide +kernel)
theorem fl_X7_37 : sh_FL RX7 37 7 17 20 false := ⟨RX7, TX7, cl_X7, by decide, wf_X7_37, rfl⟩
theorem wf_X7_41 : Cond.fieldLink RX7 41 "ShadowTagModel" "stopError" "I" ∈ sh_ws := sh_inw 694 (by decide +kernel) (by decide +kernel)
theorem fl_X7_41 : sh_FL RX7 41 7 18 20 false := ⟨RX7, TX7, cl_X7, by decide, wf_X7_41, rfl⟩
theorem wf_X7_44 : Cond.fieldLink RX7 44 "ShadowTagModel" "far" "[I" ∈ sh_ws := sh_inw 695 (by decide +kernel) (by decide +kernel)
theorem fl_X7_44 : sh_FL RX7 44 7 19 20 true := ⟨RX7, TX7, cl_X7, by decide, wf_X7_44, rfl⟩
theorem wm_X7_1 : Cond.methodLink RX7 1 objectInit ∈ sh_ws := sh_inw 671 (by decide +kernel) (by decide +kernel)
theorem wm_X7_47 : Cond.methodLink RX7 47 yX7_putLamp ∈ sh_ws := sh_inw 672 (by decide +kernel) (by decide +kernel)
theorem wv_X7_putLamp : Cond.instanceMethod yX7_putLamp ∈ sh_ws := sh_inw 674 (by decide +kernel) (by decide +kernel)
theorem ws_X7_putLamp : Cond.selects RX7 yX7_putLamp yX7_putLamp ∈ sh_ws := sh_inw 16 (by decide +kernel) (by decide +kernel)
theorem lk_X7_47 : sh_LV RX7 47 mX7_putLamp 3 7 20 := ⟨cd_X7_putLamp, wm_X7_47, wv_X7_putLamp, ws_X7_putLamp, TX7, cl_X7⟩
theorem wm_X7_51 : Cond.methodLink RX7 51 yX7_in ∈ sh_ws := sh_inw 768 (by decide +kernel) (by decide +kernel)
theorem wt_X7_in : Cond.static yX7_in ∈ sh_ws := sh_inw 769 (by decide +kernel) (by decide +kernel)
theorem lk_X7_51 : sh_LS RX7 51 mX7_in 3 := ⟨cd_X7_in, wm_X7_51, wt_X7_in⟩
theorem wf_X7_55 : Cond.fieldLink RX7 55 "ShadowTagModel" "states" "I" ∈ sh_ws := sh_inw 678 (by decide +kernel) (by decide +kernel)
theorem fl_X7_55 : sh_FL RX7 55 7 2 20 false := ⟨RX7, TX7, cl_X7, by decide, wf_X7_55, rfl⟩
theorem wm_X7_58 : Cond.methodLink RX7 58 yX7_record ∈ sh_ws := sh_inw 753 (by decide +kernel) (by decide +kernel)
theorem wv_X7_record : Cond.instanceMethod yX7_record ∈ sh_ws := sh_inw 755 (by decide +kernel) (by decide +kernel)
theorem ws_X7_record : Cond.selects RX7 yX7_record yX7_record ∈ sh_ws := sh_inw 18 (by decide +kernel) (by decide +kernel)
theorem lk_X7_58 : sh_LV RX7 58 mX7_record 0 7 20 := ⟨cd_X7_record, wm_X7_58, wv_X7_record, ws_X7_record, TX7, cl_X7⟩
theorem wf_X7_61 : Cond.fieldLink RX7 61 "ShadowTagModel" "isKept" "Z" ∈ sh_ws := sh_inw 680 (by decide +kernel) (by decide +kernel)
theorem fl_X7_61 : sh_FL RX7 61 7 4 20 false := ⟨RX7, TX7, cl_X7, by decide, wf_X7_61, rfl⟩
theorem wm_X7_65 : Cond.methodLink RX7 65 yX7_putAside ∈ sh_ws := sh_inw 749 (by decide +kernel) (by decide +kernel)
theorem wv_X7_putAside : Cond.instanceMethod yX7_putAside ∈ sh_ws := sh_inw 751 (by decide +kernel) (by decide +kernel)
theorem ws_X7_putAside : Cond.selects RX7 yX7_putAside yX7_putAside ∈ sh_ws := sh_inw 17 (by decide +kernel) (by decide +kernel)
theorem lk_X7_65 : sh_LV RX7 65 mX7_putAside 0 7 20 := ⟨cd_X7_putAside, wm_X7_65, wv_X7_putAside, ws_X7_putAside, TX7, cl_X7⟩
theorem wm_X7_68 : Cond.methodLink RX7 68 yX7_of ∈ sh_ws := sh_inw 775 (by decide +kernel) (by decide +kernel)
theorem wv_X7_of : Cond.instanceMethod yX7_of ∈ sh_ws := sh_inw 777 (by decide +kernel) (by decide +kernel)
theorem ws_X7_of : Cond.selects RX7 yX7_of yX7_of ∈ sh_ws := sh_inw 21 (by decide +kernel) (by decide +kernel)
theorem lk_X7_68 : sh_LV RX7 68 mX7_of 2 7 20 := ⟨cd_X7_of, wm_X7_68, wv_X7_of, ws_X7_of, TX7, cl_X7⟩
theorem wf_X7_72 : Cond.fieldLink RX7 72 "ShadowTagModel" "shadeMany" "I" ∈ sh_ws := sh_inw 683 (by decide +kernel) (by decide +kernel)
theorem fl_X7_72 : sh_FL RX7 72 7 7 20 false := ⟨RX7, TX7, cl_X7, by decide, wf_X7_72, rfl⟩
theorem wf_X7_75 : Cond.fieldLink RX7 75 "ShadowTagModel" "endsAt" "I" ∈ sh_ws := sh_inw 684 (by decide +kernel) (by decide +kernel)
theorem fl_X7_75 : sh_FL RX7 75 7 8 20 false := ⟨RX7, TX7, cl_X7, by decide, wf_X7_75, rfl⟩
theorem wm_X7_78 : Cond.methodLink RX7 78 yX7_ofLamp ∈ sh_ws := sh_inw 810 (by decide +kernel) (by decide +kernel)
theorem wv_X7_ofLamp : Cond.instanceMethod yX7_ofLamp ∈ sh_ws := sh_inw 812 (by decide +kernel) (by decide +kernel)
theorem ws_X7_ofLamp : Cond.selects RX7 yX7_ofLamp yX7_ofLamp ∈ sh_ws := sh_inw 27 (by decide +kernel) (by decide +kernel)
theorem lk_X7_78 : sh_LV RX7 78 mX7_ofLamp 2 7 20 := ⟨cd_X7_ofLamp, wm_X7_78, wv_X7_ofLamp, ws_X7_ofLamp, TX7, cl_X7⟩
theorem wm_X7_81 : Cond.methodLink RX7 81 yX7_next ∈ sh_ws := sh_inw 851 (by decide +kernel) (by decide +kernel)
theorem wt_X7_next : Cond.static yX7_next ∈ sh_ws := sh_inw 852 (by decide +kernel) (by decide +kernel)
theorem lk_X7_81 : sh_LS RX7 81 mX7_next 2 := ⟨cd_X7_next, wm_X7_81, wt_X7_next⟩
theorem wm_X7_84 : Cond.methodLink RX7 84 yX7_runnerAt ∈ sh_ws := sh_inw 771 (by decide +kernel) (by decide +kernel)
theorem wv_X7_runnerAt : Cond.instanceMethod yX7_runnerAt ∈ sh_ws := sh_inw 773 (by decide +kernel) (by decide +kernel)
theorem ws_X7_runnerAt : Cond.selects RX7 yX7_runnerAt yX7_runnerAt ∈ sh_ws := sh_inw 20 (by decide +kernel) (by decide +kernel)
theorem lk_X7_84 : sh_LV RX7 84 mX7_runnerAt 1 7 20 := ⟨cd_X7_runnerAt, wm_X7_84, wv_X7_runnerAt, ws_X7_runnerAt, TX7, cl_X7⟩
theorem wm_X7_88 : Cond.methodLink RX7 88 yX7_follow ∈ sh_ws := sh_inw 866 (by decide +kernel) (by decide +kernel)
theorem wv_X7_follow : Cond.instanceMethod yX7_follow ∈ sh_ws := sh_inw 868 (by decide +kernel) (by decide +kernel)
theorem ws_X7_follow : Cond.selects RX7 yX7_follow yX7_follow ∈ sh_ws := sh_inw 37 (by decide +kernel) (by decide +kernel)
theorem lk_X7_88 : sh_LV RX7 88 mX7_follow 2 7 20 := ⟨cd_X7_follow, wm_X7_88, wv_X7_follow, ws_X7_follow, TX7, cl_X7⟩
theorem wm_X7_92 : Cond.methodLink RX7 92 yX7_isShaded ∈ sh_ws := sh_inw 862 (by decide +kernel) (by decide +kernel)
theorem wv_X7_isShaded : Cond.instanceMethod yX7_isShaded ∈ sh_ws := sh_inw 864 (by decide +kernel) (by decide +kernel)
theorem ws_X7_isShaded : Cond.selects RX7 yX7_isShaded yX7_isShaded ∈ sh_ws := sh_inw 36 (by decide +kernel) (by decide +kernel)
theorem lk_X7_92 : sh_LV RX7 92 mX7_isShaded 3 7 20 := ⟨cd_X7_isShaded, wm_X7_92, wv_X7_isShaded, ws_X7_isShaded, TX7, cl_X7⟩
theorem wm_X7_95 : Cond.methodLink RX7 95 yX7_put ∈ sh_ws := sh_inw 779 (by decide +kernel) (by decide +kernel)
theorem wv_X7_put : Cond.instanceMethod yX7_put ∈ sh_ws := sh_inw 781 (by decide +kernel) (by decide +kernel)
theorem ws_X7_put : Cond.selects RX7 yX7_put yX7_put ∈ sh_ws := sh_inw 22 (by decide +kernel) (by decide +kernel)
theorem lk_X7_95 : sh_LV RX7 95 mX7_put 3 7 20 := ⟨cd_X7_put, wm_X7_95, wv_X7_put, ws_X7_put, TX7, cl_X7⟩
theorem wm_X7_98 : Cond.methodLink RX7 98 yX7_isInShadowOf ∈ sh_ws := sh_inw 858 (by decide +kernel) (by decide +kernel)
theorem wv_X7_isInShadowOf : Cond.instanceMethod yX7_isInShadowOf ∈ sh_ws := sh_inw 860 (by decide +kernel) (by decide +kernel)
theorem ws_X7_isInShadowOf : Cond.selects RX7 yX7_isInShadowOf yX7_isInShadowOf ∈ sh_ws := sh_inw 35 (by decide +kernel) (by decide +kernel)
theorem lk_X7_98 : sh_LV RX7 98 mX7_isInShadowOf 2 7 20 := ⟨cd_X7_isInShadowOf, wm_X7_98, wv_X7_isInShadowOf, ws_X7_isInShadowOf, TX7, cl_X7⟩
theorem wm_X7_102 : Cond.methodLink RX7 102 yX7_go ∈ sh_ws := sh_inw 847 (by decide +kernel) (by decide +kernel)
theorem wv_X7_go : Cond.instanceMethod yX7_go ∈ sh_ws := sh_inw 849 (by decide +kernel) (by decide +kernel)
theorem ws_X7_go : Cond.selects RX7 yX7_go yX7_go ∈ sh_ws := sh_inw 33 (by decide +kernel) (by decide +kernel)
theorem lk_X7_102 : sh_LV RX7 102 mX7_go 1 7 20 := ⟨cd_X7_go, wm_X7_102, wv_X7_go, ws_X7_go, TX7, cl_X7⟩
theorem wm_X7_106 : Cond.methodLink RX7 106 yX7_tagNow ∈ sh_ws := sh_inw 854 (by decide +kernel) (by decide +kernel)
theorem wv_X7_tagNow : Cond.instanceMethod yX7_tagNow ∈ sh_ws := sh_inw 856 (by decide +kernel) (by decide +kernel)
theorem ws_X7_tagNow : Cond.selects RX7 yX7_tagNow yX7_tagNow ∈ sh_ws := sh_inw 34 (by decide +kernel) (by decide +kernel)
theorem lk_X7_106 : sh_LV RX7 106 mX7_tagNow 0 7 20 := ⟨cd_X7_tagNow, wm_X7_106, wv_X7_tagNow, ws_X7_tagNow, TX7, cl_X7⟩
theorem wm_X7_110 : Cond.methodLink RX7 110 yX7_tag ∈ sh_ws := sh_inw 870 (by decide +kernel) (by decide +kernel)
theorem wv_X7_tag : Cond.instanceMethod yX7_tag ∈ sh_ws := sh_inw 872 (by decide +kernel) (by decide +kernel)
theorem ws_X7_tag : Cond.selects RX7 yX7_tag yX7_tag ∈ sh_ws := sh_inw 38 (by decide +kernel) (by decide +kernel)
theorem lk_X7_110 : sh_LV RX7 110 mX7_tag 1 7 20 := ⟨cd_X7_tag, wm_X7_110, wv_X7_tag, ws_X7_tag, TX7, cl_X7⟩
theorem wm_X7_113 : Cond.methodLink RX7 113 yX7_turnPlatform ∈ sh_ws := sh_inw 874 (by decide +kernel) (by decide +kernel)
theorem wv_X7_turnPlatform : Cond.instanceMethod yX7_turnPlatform ∈ sh_ws := sh_inw 876 (by decide +kernel) (by decide +kernel)
theorem ws_X7_turnPlatform : Cond.selects RX7 yX7_turnPlatform yX7_turnPlatform ∈ sh_ws := sh_inw 39 (by decide +kernel) (by decide +kernel)
theorem lk_X7_113 : sh_LV RX7 113 mX7_turnPlatform 0 7 20 := ⟨cd_X7_turnPlatform, wm_X7_113, wv_X7_turnPlatform, ws_X7_turnPlatform, TX7, cl_X7⟩
theorem wm_X7_116 : Cond.methodLink RX7 116 yX7_isCell ∈ sh_ws := sh_inw 765 (by decide +kernel) (by decide +kernel)
theorem wt_X7_isCell : Cond.static yX7_isCell ∈ sh_ws := sh_inw 766 (by decide +kernel) (by decide +kernel)
theorem lk_X7_116 : sh_LS RX7 116 mX7_isCell 1 := ⟨cd_X7_isCell, wm_X7_116, wt_X7_isCell⟩
theorem wm_X7_120 : Cond.methodLink RX7 120 yX7_isRunner ∈ sh_ws := sh_inw 795 (by decide +kernel) (by decide +kernel)
theorem wv_X7_isRunner : Cond.instanceMethod yX7_isRunner ∈ sh_ws := sh_inw 797 (by decide +kernel) (by decide +kernel)
theorem ws_X7_isRunner : Cond.selects RX7 yX7_isRunner yX7_isRunner ∈ sh_ws := sh_inw 25 (by decide +kernel) (by decide +kernel)
theorem lk_X7_120 : sh_LV RX7 120 mX7_isRunner 1 7 20 := ⟨cd_X7_isRunner, wm_X7_120, wv_X7_isRunner, ws_X7_isRunner, TX7, cl_X7⟩
theorem wm_X7_123 : Cond.methodLink RX7 123 yX7_isLamp ∈ sh_ws := sh_inw 807 (by decide +kernel) (by decide +kernel)
theorem wt_X7_isLamp : Cond.static yX7_isLamp ∈ sh_ws := sh_inw 808 (by decide +kernel) (by decide +kernel)
theorem lk_X7_123 : sh_LS RX7 123 mX7_isLamp 1 := ⟨cd_X7_isLamp, wm_X7_123, wt_X7_isLamp⟩
theorem wm_X7_126 : Cond.methodLink RX7 126 yX7_lampsOn ∈ sh_ws := sh_inw 814 (by decide +kernel) (by decide +kernel)
theorem wv_X7_lampsOn : Cond.instanceMethod yX7_lampsOn ∈ sh_ws := sh_inw 816 (by decide +kernel) (by decide +kernel)
theorem ws_X7_lampsOn : Cond.selects RX7 yX7_lampsOn yX7_lampsOn ∈ sh_ws := sh_inw 28 (by decide +kernel) (by decide +kernel)
theorem lk_X7_126 : sh_LV RX7 126 mX7_lampsOn 0 7 20 := ⟨cd_X7_lampsOn, wm_X7_126, wv_X7_lampsOn, ws_X7_lampsOn, TX7, cl_X7⟩
theorem wl_X7_129 : Cond.constant RX7 129 (Int32.ofInt 99999) ∈ sh_ws := sh_inw 842 (by decide +kernel) (by decide +kernel)
theorem wm_X7_130 : Cond.methodLink RX7 130 yX7_turn ∈ sh_ws := sh_inw 843 (by decide +kernel) (by decide +kernel)
theorem wv_X7_turn : Cond.instanceMethod yX7_turn ∈ sh_ws := sh_inw 845 (by decide +kernel) (by decide +kernel)
theorem ws_X7_turn : Cond.selects RX7 yX7_turn yX7_turn ∈ sh_ws := sh_inw 32 (by decide +kernel) (by decide +kernel)
theorem lk_X7_130 : sh_LV RX7 130 mX7_turn 0 7 20 := ⟨cd_X7_turn, wm_X7_130, wv_X7_turn, ws_X7_turn, TX7, cl_X7⟩
theorem wm_X7_133 : Cond.methodLink RX7 133 yX7_comeNow ∈ sh_ws := sh_inw 761 (by decide +kernel) (by decide +kernel)
theorem wv_X7_comeNow : Cond.instanceMethod yX7_comeNow ∈ sh_ws := sh_inw 763 (by decide +kernel) (by decide +kernel)
theorem ws_X7_comeNow : Cond.selects RX7 yX7_comeNow yX7_comeNow ∈ sh_ws := sh_inw 19 (by decide +kernel) (by decide +kernel)
theorem lk_X7_133 : sh_LV RX7 133 mX7_comeNow 2 7 20 := ⟨cd_X7_comeNow, wm_X7_133, wv_X7_comeNow, ws_X7_comeNow, TX7, cl_X7⟩
theorem wm_X7_136 : Cond.methodLink RX7 136 yX7_acted ∈ sh_ws := sh_inw 783 (by decide +kernel) (by decide +kernel)
theorem wv_X7_acted : Cond.instanceMethod yX7_acted ∈ sh_ws := sh_inw 785 (by decide +kernel) (by decide +kernel)
theorem ws_X7_acted : Cond.selects RX7 yX7_acted yX7_acted ∈ sh_ws := sh_inw 23 (by decide +kernel) (by decide +kernel)
theorem lk_X7_136 : sh_LV RX7 136 mX7_acted 1 7 20 := ⟨cd_X7_acted, wm_X7_136, wv_X7_acted, ws_X7_acted, TX7, cl_X7⟩
theorem wm_X7_139 : Cond.methodLink RX7 139 yX7_headNow ∈ sh_ws := sh_inw 791 (by decide +kernel) (by decide +kernel)
theorem wv_X7_headNow : Cond.instanceMethod yX7_headNow ∈ sh_ws := sh_inw 793 (by decide +kernel) (by decide +kernel)
theorem ws_X7_headNow : Cond.selects RX7 yX7_headNow yX7_headNow ∈ sh_ws := sh_inw 24 (by decide +kernel) (by decide +kernel)
theorem lk_X7_139 : sh_LV RX7 139 mX7_headNow 2 7 20 := ⟨cd_X7_headNow, wm_X7_139, wv_X7_headNow, ws_X7_headNow, TX7, cl_X7⟩
theorem wm_X7_142 : Cond.methodLink RX7 142 yX7_lightNow ∈ sh_ws := sh_inw 803 (by decide +kernel) (by decide +kernel)
theorem wv_X7_lightNow : Cond.instanceMethod yX7_lightNow ∈ sh_ws := sh_inw 805 (by decide +kernel) (by decide +kernel)
theorem ws_X7_lightNow : Cond.selects RX7 yX7_lightNow yX7_lightNow ∈ sh_ws := sh_inw 26 (by decide +kernel) (by decide +kernel)
theorem lk_X7_142 : sh_LV RX7 142 mX7_lightNow 2 7 20 := ⟨cd_X7_lightNow, wm_X7_142, wv_X7_lightNow, ws_X7_lightNow, TX7, cl_X7⟩
theorem wm_X7_145 : Cond.methodLink RX7 145 yX7_setLampNow ∈ sh_ws := sh_inw 822 (by decide +kernel) (by decide +kernel)
theorem wv_X7_setLampNow : Cond.instanceMethod yX7_setLampNow ∈ sh_ws := sh_inw 824 (by decide +kernel) (by decide +kernel)
theorem ws_X7_setLampNow : Cond.selects RX7 yX7_setLampNow yX7_setLampNow ∈ sh_ws := sh_inw 29 (by decide +kernel) (by decide +kernel)
theorem lk_X7_145 : sh_LV RX7 145 mX7_setLampNow 3 7 20 := ⟨cd_X7_setLampNow, wm_X7_145, wv_X7_setLampNow, ws_X7_setLampNow, TX7, cl_X7⟩
theorem wm_X7_149 : Cond.methodLink RX7 149 yX7_setNow ∈ sh_ws := sh_inw 830 (by decide +kernel) (by decide +kernel)
theorem wv_X7_setNow : Cond.instanceMethod yX7_setNow ∈ sh_ws := sh_inw 832 (by decide +kernel) (by decide +kernel)
theorem ws_X7_setNow : Cond.selects RX7 yX7_setNow yX7_setNow ∈ sh_ws := sh_inw 30 (by decide +kernel) (by decide +kernel)
theorem lk_X7_149 : sh_LV RX7 149 mX7_setNow 2 7 20 := ⟨cd_X7_setNow, wm_X7_149, wv_X7_setNow, ws_X7_setNow, TX7, cl_X7⟩
theorem wm_X7_152 : Cond.methodLink RX7 152 yX7_passNow ∈ sh_ws := sh_inw 838 (by decide +kernel) (by decide +kernel)
theorem wv_X7_passNow : Cond.instanceMethod yX7_passNow ∈ sh_ws := sh_inw 840 (by decide +kernel) (by decide +kernel)
theorem ws_X7_passNow : Cond.selects RX7 yX7_passNow yX7_passNow ∈ sh_ws := sh_inw 31 (by decide +kernel) (by decide +kernel)
theorem lk_X7_152 : sh_LV RX7 152 mX7_passNow 1 7 20 := ⟨cd_X7_passNow, wm_X7_152, wv_X7_passNow, ws_X7_passNow, TX7, cl_X7⟩
theorem wf_X7_155 : Cond.fieldLink RX7 155 "ShadowTagModel" "length" "I" ∈ sh_ws := sh_inw 686 (by decide +kernel) (by decide +kernel)
theorem fl_X7_155 : sh_FL RX7 155 7 10 20 false := ⟨RX7, TX7, cl_X7, by decide, wf_X7_155, rfl⟩
theorem wf_X7_158 : Cond.fieldLink RX7 158 "ShadowTagModel" "spot" "I" ∈ sh_ws := sh_inw 687 (by decide +kernel) (by decide +kernel)
theorem fl_X7_158 : sh_FL RX7 158 7 11 20 false := ⟨RX7, TX7, cl_X7, by decide, wf_X7_158, rfl⟩
theorem wf_X7_168 : Cond.fieldLink RX7 168 "ShadowTagModel" "number" "I" ∈ sh_ws := sh_inw 688 (by decide +kernel) (by decide +kernel)
theorem fl_X7_168 : sh_FL RX7 168 7 12 20 false := ⟨RX7, TX7, cl_X7, by decide, wf_X7_168, rfl⟩
theorem wm_X7_161 : Cond.methodLink RX7 161 yX7_isDigit ∈ sh_ws := sh_inw 914 (by decide +kernel) (by decide +kernel)
theorem wv_X7_isDigit : Cond.instanceMethod yX7_isDigit ∈ sh_ws := sh_inw 916 (by decide +kernel) (by decide +kernel)
theorem ws_X7_isDigit : Cond.selects RX7 yX7_isDigit yX7_isDigit ∈ sh_ws := sh_inw 46 (by decide +kernel) (by decide +kernel)
theorem lk_X7_161 : sh_LV RX7 161 mX7_isDigit 0 7 20 := ⟨cd_X7_isDigit, wm_X7_161, wv_X7_isDigit, ws_X7_isDigit, TX7, cl_X7⟩
theorem wm_X7_165 : Cond.methodLink RX7 165 yX7_code ∈ sh_ws := sh_inw 898 (by decide +kernel) (by decide +kernel)
theorem wv_X7_code : Cond.instanceMethod yX7_code ∈ sh_ws := sh_inw 900 (by decide +kernel) (by decide +kernel)
theorem ws_X7_code : Cond.selects RX7 yX7_code yX7_code ∈ sh_ws := sh_inw 42 (by decide +kernel) (by decide +kernel)
theorem lk_X7_165 : sh_LV RX7 165 mX7_code 0 7 20 := ⟨cd_X7_code, wm_X7_165, wv_X7_code, ws_X7_code, TX7, cl_X7⟩
theorem wf_X7_171 : Cond.fieldLink RX7 171 "ShadowTagModel" "things" "I" ∈ sh_ws := sh_inw 689 (by decide +kernel) (by decide +kernel)
theorem fl_X7_171 : sh_FL RX7 171 7 13 20 false := ⟨RX7, TX7, cl_X7, by decide, wf_X7_171, rfl⟩
theorem wm_X7_174 : Cond.methodLink RX7 174 yX7_takes ∈ sh_ws := sh_inw 902 (by decide +kernel) (by decide +kernel)
theorem wv_X7_takes : Cond.instanceMethod yX7_takes ∈ sh_ws := sh_inw 904 (by decide +kernel) (by decide +kernel)
theorem ws_X7_takes : Cond.selects RX7 yX7_takes yX7_takes ∈ sh_ws := sh_inw 43 (by decide +kernel) (by decide +kernel)
theorem lk_X7_174 : sh_LV RX7 174 mX7_takes 1 7 20 := ⟨cd_X7_takes, wm_X7_174, wv_X7_takes, ws_X7_takes, TX7, cl_X7⟩
theorem wm_X7_177 : Cond.methodLink RX7 177 yX7_reads ∈ sh_ws := sh_inw 910 (by decide +kernel) (by decide +kernel)
theorem wv_X7_reads : Cond.instanceMethod yX7_reads ∈ sh_ws := sh_inw 912 (by decide +kernel) (by decide +kernel)
theorem ws_X7_reads : Cond.selects RX7 yX7_reads yX7_reads ∈ sh_ws := sh_inw 45 (by decide +kernel) (by decide +kernel)
theorem lk_X7_177 : sh_LV RX7 177 mX7_reads 2 7 20 := ⟨cd_X7_reads, wm_X7_177, wv_X7_reads, ws_X7_reads, TX7, cl_X7⟩
theorem wm_X7_180 : Cond.methodLink RX7 180 yX7_readsDirection ∈ sh_ws := sh_inw 918 (by decide +kernel) (by decide +kernel)
theorem wv_X7_readsDirection : Cond.instanceMethod yX7_readsDirection ∈ sh_ws := sh_inw 920 (by decide +kernel) (by decide +kernel)
theorem ws_X7_readsDirection : Cond.selects RX7 yX7_readsDirection yX7_readsDirection ∈ sh_ws := sh_inw 47 (by decide +kernel) (by decide +kernel)
theorem lk_X7_180 : sh_LV RX7 180 mX7_readsDirection 0 7 20 := ⟨cd_X7_readsDirection, wm_X7_180, wv_X7_readsDirection, ws_X7_readsDirection, TX7, cl_X7⟩
theorem wm_X7_183 : Cond.methodLink RX7 183 yX7_readsRest ∈ sh_ws := sh_inw 906 (by decide +kernel) (by decide +kernel)
theorem wv_X7_readsRest : Cond.instanceMethod yX7_readsRest ∈ sh_ws := sh_inw 908 (by decide +kernel) (by decide +kernel)
theorem ws_X7_readsRest : Cond.selects RX7 yX7_readsRest yX7_readsRest ∈ sh_ws := sh_inw 44 (by decide +kernel) (by decide +kernel)
theorem lk_X7_183 : sh_LV RX7 183 mX7_readsRest 1 7 20 := ⟨cd_X7_readsRest, wm_X7_183, wv_X7_readsRest, ws_X7_readsRest, TX7, cl_X7⟩
theorem wm_X7_186 : Cond.methodLink RX7 186 yX7_readsThing ∈ sh_ws := sh_inw 894 (by decide +kernel) (by decide +kernel)
theorem wv_X7_readsThing : Cond.instanceMethod yX7_readsThing ∈ sh_ws := sh_inw 896 (by decide +kernel) (by decide +kernel)
theorem ws_X7_readsThing : Cond.selects RX7 yX7_readsThing yX7_readsThing ∈ sh_ws := sh_inw 41 (by decide +kernel) (by decide +kernel)
theorem lk_X7_186 : sh_LV RX7 186 mX7_readsThing 0 7 20 := ⟨cd_X7_readsThing, wm_X7_186, wv_X7_readsThing, ws_X7_readsThing, TX7, cl_X7⟩
theorem wm_X7_189 : Cond.methodLink RX7 189 yX7_faultNow ∈ sh_ws := sh_inw 890 (by decide +kernel) (by decide +kernel)
theorem wv_X7_faultNow : Cond.instanceMethod yX7_faultNow ∈ sh_ws := sh_inw 892 (by decide +kernel) (by decide +kernel)
theorem ws_X7_faultNow : Cond.selects RX7 yX7_faultNow yX7_faultNow ∈ sh_ws := sh_inw 40 (by decide +kernel) (by decide +kernel)
theorem lk_X7_189 : sh_LV RX7 189 mX7_faultNow 0 7 20 := ⟨cd_X7_faultNow, wm_X7_189, wv_X7_faultNow, ws_X7_faultNow, TX7, cl_X7⟩
theorem wm_X7_192 : Cond.methodLink RX7 192 yX7_doThing ∈ sh_ws := sh_inw 922 (by decide +kernel) (by decide +kernel)
theorem wv_X7_doThing : Cond.instanceMethod yX7_doThing ∈ sh_ws := sh_inw 924 (by decide +kernel) (by decide +kernel)
theorem ws_X7_doThing : Cond.selects RX7 yX7_doThing yX7_doThing ∈ sh_ws := sh_inw 48 (by decide +kernel) (by decide +kernel)
theorem lk_X7_192 : sh_LV RX7 192 mX7_doThing 1 7 20 := ⟨cd_X7_doThing, wm_X7_192, wv_X7_doThing, ws_X7_doThing, TX7, cl_X7⟩
theorem wm_X7_195 : Cond.methodLink RX7 195 yX7_putBack ∈ sh_ws := sh_inw 926 (by decide +kernel) (by decide +kernel)
theorem wv_X7_putBack : Cond.instanceMethod yX7_putBack ∈ sh_ws := sh_inw 928 (by decide +kernel) (by decide +kernel)
theorem ws_X7_putBack : Cond.selects RX7 yX7_putBack yX7_putBack ∈ sh_ws := sh_inw 49 (by decide +kernel) (by decide +kernel)
theorem lk_X7_195 : sh_LV RX7 195 mX7_putBack 0 7 20 := ⟨cd_X7_putBack, wm_X7_195, wv_X7_putBack, ws_X7_putBack, TX7, cl_X7⟩
theorem wm_X7_198 : Cond.methodLink RX7 198 yX7_shadowsOn ∈ sh_ws := sh_inw 942 (by decide +kernel) (by decide +kernel)
theorem wv_X7_shadowsOn : Cond.instanceMethod yX7_shadowsOn ∈ sh_ws := sh_inw 944 (by decide +kernel) (by decide +kernel)
theorem ws_X7_shadowsOn : Cond.selects RX7 yX7_shadowsOn yX7_shadowsOn ∈ sh_ws := sh_inw 51 (by decide +kernel) (by decide +kernel)
theorem lk_X7_198 : sh_LV RX7 198 mX7_shadowsOn 3 7 20 := ⟨cd_X7_shadowsOn, wm_X7_198, wv_X7_shadowsOn, ws_X7_shadowsOn, TX7, cl_X7⟩
theorem wm_X7_201 : Cond.methodLink RX7 201 yX7_dark ∈ sh_ws := sh_inw 938 (by decide +kernel) (by decide +kernel)
theorem wv_X7_dark : Cond.instanceMethod yX7_dark ∈ sh_ws := sh_inw 940 (by decide +kernel) (by decide +kernel)
theorem ws_X7_dark : Cond.selects RX7 yX7_dark yX7_dark ∈ sh_ws := sh_inw 50 (by decide +kernel) (by decide +kernel)
theorem lk_X7_201 : sh_LV RX7 201 mX7_dark 2 7 20 := ⟨cd_X7_dark, wm_X7_201, wv_X7_dark, ws_X7_dark, TX7, cl_X7⟩
theorem wm_X7_204 : Cond.methodLink RX7 204 yX7_hasShadow ∈ sh_ws := sh_inw 970 (by decide +kernel) (by decide +kernel)
theorem wv_X7_hasShadow : Cond.instanceMethod yX7_hasShadow ∈ sh_ws := sh_inw 972 (by decide +kernel) (by decide +kernel)
theorem ws_X7_hasShadow : Cond.selects RX7 yX7_hasShadow yX7_hasShadow ∈ sh_ws := sh_inw 52 (by decide +kernel) (by decide +kernel)
theorem lk_X7_204 : sh_LV RX7 204 mX7_hasShadow 1 7 20 := ⟨cd_X7_hasShadow, wm_X7_204, wv_X7_hasShadow, ws_X7_hasShadow, TX7, cl_X7⟩
theorem wm_X7_207 : Cond.methodLink RX7 207 yX7_isSought ∈ sh_ws := sh_inw 978 (by decide +kernel) (by decide +kernel)
theorem wv_X7_isSought : Cond.instanceMethod yX7_isSought ∈ sh_ws := sh_inw 980 (by decide +kernel) (by decide +kernel)
theorem ws_X7_isSought : Cond.selects RX7 yX7_isSought yX7_isSought ∈ sh_ws := sh_inw 53 (by decide +kernel) (by decide +kernel)
theorem lk_X7_207 : sh_LV RX7 207 mX7_isSought 1 7 20 := ⟨cd_X7_isSought, wm_X7_207, wv_X7_isSought, ws_X7_isSought, TX7, cl_X7⟩
theorem wm_X7_210 : Cond.methodLink RX7 210 yX7_way ∈ sh_ws := sh_inw 982 (by decide +kernel) (by decide +kernel)
theorem wv_X7_way : Cond.instanceMethod yX7_way ∈ sh_ws := sh_inw 984 (by decide +kernel) (by decide +kernel)
theorem ws_X7_way : Cond.selects RX7 yX7_way yX7_way ∈ sh_ws := sh_inw 54 (by decide +kernel) (by decide +kernel)
theorem lk_X7_210 : sh_LV RX7 210 mX7_way 1 7 20 := ⟨cd_X7_way, wm_X7_210, wv_X7_way, ws_X7_way, TX7, cl_X7⟩
theorem wm_X7_213 : Cond.methodLink RX7 213 yX7_withoutShadow ∈ sh_ws := sh_inw 998 (by decide +kernel) (by decide +kernel)
theorem wv_X7_withoutShadow : Cond.instanceMethod yX7_withoutShadow ∈ sh_ws := sh_inw 1000 (by decide +kernel) (by decide +kernel)
theorem ws_X7_withoutShadow : Cond.selects RX7 yX7_withoutShadow yX7_withoutShadow ∈ sh_ws := sh_inw 55 (by decide +kernel) (by decide +kernel)
theorem lk_X7_213 : sh_LV RX7 213 mX7_withoutShadow 0 7 20 := ⟨cd_X7_withoutShadow, wm_X7_213, wv_X7_withoutShadow, ws_X7_withoutShadow, TX7, cl_X7⟩
theorem wk_L_7 : Cond.classLink RL 7 RX6 ∈ sh_ws := sh_inw 67 (by decide +kernel) (by decide +kernel)
theorem wn_X6 : Cond.instantiable RX6 9 ∈ sh_ws := sh_inw 68 (by decide +kernel) (by decide +kernel)
theorem wk_L_10 : Cond.classLink RL 10 RX7 ∈ sh_ws := sh_inw 666 (by decide +kernel) (by decide +kernel)
theorem wn_X7 : Cond.instantiable RX7 20 ∈ sh_ws := sh_inw 667 (by decide +kernel) (by decide +kernel)
theorem wm_L_9 : Cond.methodLink RL 9 yX6_init ∈ sh_ws := sh_inw 69 (by decide +kernel) (by decide +kernel)
theorem wv_X6_init : Cond.instanceMethod yX6_init ∈ sh_ws := sh_inw 70 (by decide +kernel) (by decide +kernel)
theorem lk_L_9 : sh_LI RL 9 mX6_init 0 := ⟨cd_X6_init, wm_L_9, wv_X6_init, rfl, rfl⟩
theorem wm_L_12 : Cond.methodLink RL 12 yX7_init ∈ sh_ws := sh_inw 668 (by decide +kernel) (by decide +kernel)
theorem wv_X7_init : Cond.instanceMethod yX7_init ∈ sh_ws := sh_inw 669 (by decide +kernel) (by decide +kernel)
theorem lk_L_12 : sh_LI RL 12 mX7_init 0 := ⟨cd_X7_init, wm_L_12, wv_X7_init, rfl, rfl⟩
theorem wm_L_13 : Cond.methodLink RL 13 yX6_come ∈ sh_ws := sh_inw 295 (by decide +kernel) (by decide +kernel)
theorem wv_X6_come : Cond.instanceMethod yX6_come ∈ sh_ws := sh_inw 296 (by decide +kernel) (by decide +kernel)
theorem ws_X6_come : Cond.selects RX6 yX6_come yX6_come ∈ sh_ws := sh_inw 297 (by decide +kernel) (by decide +kernel)
theorem lk_L_13 : sh_LV RL 13 mX6_come 2 6 9 := ⟨cd_X6_come, wm_L_13, wv_X6_come, ws_X6_come, TX6, cl_X6⟩
theorem wm_L_17 : Cond.methodLink RL 17 yX7_come ∈ sh_ws := sh_inw 757 (by decide +kernel) (by decide +kernel)
theorem wv_X7_come : Cond.instanceMethod yX7_come ∈ sh_ws := sh_inw 758 (by decide +kernel) (by decide +kernel)
theorem ws_X7_come : Cond.selects RX7 yX7_come yX7_come ∈ sh_ws := sh_inw 759 (by decide +kernel) (by decide +kernel)
theorem lk_L_17 : sh_LV RL 17 mX7_come 2 7 20 := ⟨cd_X7_come, wm_L_17, wv_X7_come, ws_X7_come, TX7, cl_X7⟩
theorem wm_L_18 : Cond.methodLink RL 18 yX6_head ∈ sh_ws := sh_inw 342 (by decide +kernel) (by decide +kernel)
theorem wv_X6_head : Cond.instanceMethod yX6_head ∈ sh_ws := sh_inw 343 (by decide +kernel) (by decide +kernel)
theorem ws_X6_head : Cond.selects RX6 yX6_head yX6_head ∈ sh_ws := sh_inw 344 (by decide +kernel) (by decide +kernel)
theorem lk_L_18 : sh_LV RL 18 mX6_head 2 6 9 := ⟨cd_X6_head, wm_L_18, wv_X6_head, ws_X6_head, TX6, cl_X6⟩
theorem wm_L_21 : Cond.methodLink RL 21 yX7_head ∈ sh_ws := sh_inw 787 (by decide +kernel) (by decide +kernel)
theorem wv_X7_head : Cond.instanceMethod yX7_head ∈ sh_ws := sh_inw 788 (by decide +kernel) (by decide +kernel)
theorem ws_X7_head : Cond.selects RX7 yX7_head yX7_head ∈ sh_ws := sh_inw 789 (by decide +kernel) (by decide +kernel)
theorem lk_L_21 : sh_LV RL 21 mX7_head 2 7 20 := ⟨cd_X7_head, wm_L_21, wv_X7_head, ws_X7_head, TX7, cl_X7⟩
theorem wm_L_22 : Cond.methodLink RL 22 yX6_light ∈ sh_ws := sh_inw 357 (by decide +kernel) (by decide +kernel)
theorem wv_X6_light : Cond.instanceMethod yX6_light ∈ sh_ws := sh_inw 358 (by decide +kernel) (by decide +kernel)
theorem ws_X6_light : Cond.selects RX6 yX6_light yX6_light ∈ sh_ws := sh_inw 359 (by decide +kernel) (by decide +kernel)
theorem lk_L_22 : sh_LV RL 22 mX6_light 2 6 9 := ⟨cd_X6_light, wm_L_22, wv_X6_light, ws_X6_light, TX6, cl_X6⟩
theorem wm_L_26 : Cond.methodLink RL 26 yX7_light ∈ sh_ws := sh_inw 799 (by decide +kernel) (by decide +kernel)
theorem wv_X7_light : Cond.instanceMethod yX7_light ∈ sh_ws := sh_inw 800 (by decide +kernel) (by decide +kernel)
theorem ws_X7_light : Cond.selects RX7 yX7_light yX7_light ∈ sh_ws := sh_inw 801 (by decide +kernel) (by decide +kernel)
theorem lk_L_26 : sh_LV RL 26 mX7_light 2 7 20 := ⟨cd_X7_light, wm_L_26, wv_X7_light, ws_X7_light, TX7, cl_X7⟩
theorem wm_L_27 : Cond.methodLink RL 27 yX6_setLamp ∈ sh_ws := sh_inw 370 (by decide +kernel) (by decide +kernel)
theorem wv_X6_setLamp : Cond.instanceMethod yX6_setLamp ∈ sh_ws := sh_inw 371 (by decide +kernel) (by decide +kernel)
theorem ws_X6_setLamp : Cond.selects RX6 yX6_setLamp yX6_setLamp ∈ sh_ws := sh_inw 372 (by decide +kernel) (by decide +kernel)
theorem lk_L_27 : sh_LV RL 27 mX6_setLamp 3 6 9 := ⟨cd_X6_setLamp, wm_L_27, wv_X6_setLamp, ws_X6_setLamp, TX6, cl_X6⟩
theorem wm_L_31 : Cond.methodLink RL 31 yX7_setLamp ∈ sh_ws := sh_inw 818 (by decide +kernel) (by decide +kernel)
theorem wv_X7_setLamp : Cond.instanceMethod yX7_setLamp ∈ sh_ws := sh_inw 819 (by decide +kernel) (by decide +kernel)
theorem ws_X7_setLamp : Cond.selects RX7 yX7_setLamp yX7_setLamp ∈ sh_ws := sh_inw 820 (by decide +kernel) (by decide +kernel)
theorem lk_L_31 : sh_LV RL 31 mX7_setLamp 3 7 20 := ⟨cd_X7_setLamp, wm_L_31, wv_X7_setLamp, ws_X7_setLamp, TX7, cl_X7⟩
theorem wm_L_32 : Cond.methodLink RL 32 yX6_set ∈ sh_ws := sh_inw 381 (by decide +kernel) (by decide +kernel)
theorem wv_X6_set : Cond.instanceMethod yX6_set ∈ sh_ws := sh_inw 382 (by decide +kernel) (by decide +kernel)
theorem ws_X6_set : Cond.selects RX6 yX6_set yX6_set ∈ sh_ws := sh_inw 383 (by decide +kernel) (by decide +kernel)
theorem lk_L_32 : sh_LV RL 32 mX6_set 2 6 9 := ⟨cd_X6_set, wm_L_32, wv_X6_set, ws_X6_set, TX6, cl_X6⟩
theorem wm_L_35 : Cond.methodLink RL 35 yX7_set ∈ sh_ws := sh_inw 826 (by decide +kernel) (by decide +kernel)
theorem wv_X7_set : Cond.instanceMethod yX7_set ∈ sh_ws := sh_inw 827 (by decide +kernel) (by decide +kernel)
theorem ws_X7_set : Cond.selects RX7 yX7_set yX7_set ∈ sh_ws := sh_inw 828 (by decide +kernel) (by decide +kernel)
theorem lk_L_35 : sh_LV RL 35 mX7_set 2 7 20 := ⟨cd_X7_set, wm_L_35, wv_X7_set, ws_X7_set, TX7, cl_X7⟩
theorem wm_L_36 : Cond.methodLink RL 36 yX6_pass ∈ sh_ws := sh_inw 386 (by decide +kernel) (by decide +kernel)
theorem wv_X6_pass : Cond.instanceMethod yX6_pass ∈ sh_ws := sh_inw 387 (by decide +kernel) (by decide +kernel)
theorem ws_X6_pass : Cond.selects RX6 yX6_pass yX6_pass ∈ sh_ws := sh_inw 388 (by decide +kernel) (by decide +kernel)
theorem lk_L_36 : sh_LV RL 36 mX6_pass 1 6 9 := ⟨cd_X6_pass, wm_L_36, wv_X6_pass, ws_X6_pass, TX6, cl_X6⟩
theorem wm_L_40 : Cond.methodLink RL 40 yX7_pass ∈ sh_ws := sh_inw 834 (by decide +kernel) (by decide +kernel)
theorem wv_X7_pass : Cond.instanceMethod yX7_pass ∈ sh_ws := sh_inw 835 (by decide +kernel) (by decide +kernel)
theorem ws_X7_pass : Cond.selects RX7 yX7_pass yX7_pass ∈ sh_ws := sh_inw 836 (by decide +kernel) (by decide +kernel)
theorem lk_L_40 : sh_LV RL 40 mX7_pass 1 7 20 := ⟨cd_X7_pass, wm_L_40, wv_X7_pass, ws_X7_pass, TX7, cl_X7⟩
theorem wm_L_41 : Cond.methodLink RL 41 yX6_type ∈ sh_ws := sh_inw 447 (by decide +kernel) (by decide +kernel)
theorem wv_X6_type : Cond.instanceMethod yX6_type ∈ sh_ws := sh_inw 448 (by decide +kernel) (by decide +kernel)
theorem ws_X6_type : Cond.selects RX6 yX6_type yX6_type ∈ sh_ws := sh_inw 449 (by decide +kernel) (by decide +kernel)
theorem lk_L_41 : sh_LV RL 41 mX6_type 1 6 9 := ⟨cd_X6_type, wm_L_41, wv_X6_type, ws_X6_type, TX6, cl_X6⟩
theorem wm_L_45 : Cond.methodLink RL 45 yX7_type ∈ sh_ws := sh_inw 878 (by decide +kernel) (by decide +kernel)
theorem wv_X7_type : Cond.instanceMethod yX7_type ∈ sh_ws := sh_inw 879 (by decide +kernel) (by decide +kernel)
theorem ws_X7_type : Cond.selects RX7 yX7_type yX7_type ∈ sh_ws := sh_inw 880 (by decide +kernel) (by decide +kernel)
theorem lk_L_45 : sh_LV RL 45 mX7_type 1 7 20 := ⟨cd_X7_type, wm_L_45, wv_X7_type, ws_X7_type, TX7, cl_X7⟩
theorem wm_L_46 : Cond.methodLink RL 46 yX6_clearText ∈ sh_ws := sh_inw 455 (by decide +kernel) (by decide +kernel)
theorem wv_X6_clearText : Cond.instanceMethod yX6_clearText ∈ sh_ws := sh_inw 456 (by decide +kernel) (by decide +kernel)
theorem ws_X6_clearText : Cond.selects RX6 yX6_clearText yX6_clearText ∈ sh_ws := sh_inw 457 (by decide +kernel) (by decide +kernel)
theorem lk_L_46 : sh_LV RL 46 mX6_clearText 0 6 9 := ⟨cd_X6_clearText, wm_L_46, wv_X6_clearText, ws_X6_clearText, TX6, cl_X6⟩
theorem wm_L_50 : Cond.methodLink RL 50 yX7_clearText ∈ sh_ws := sh_inw 882 (by decide +kernel) (by decide +kernel)
theorem wv_X7_clearText : Cond.instanceMethod yX7_clearText ∈ sh_ws := sh_inw 883 (by decide +kernel) (by decide +kernel)
theorem ws_X7_clearText : Cond.selects RX7 yX7_clearText yX7_clearText ∈ sh_ws := sh_inw 884 (by decide +kernel) (by decide +kernel)
theorem lk_L_50 : sh_LV RL 50 mX7_clearText 0 7 20 := ⟨cd_X7_clearText, wm_L_50, wv_X7_clearText, ws_X7_clearText, TX7, cl_X7⟩
theorem wm_L_51 : Cond.methodLink RL 51 yX6_perform ∈ sh_ws := sh_inw 463 (by decide +kernel) (by decide +kernel)
theorem wv_X6_perform : Cond.instanceMethod yX6_perform ∈ sh_ws := sh_inw 464 (by decide +kernel) (by decide +kernel)
theorem ws_X6_perform : Cond.selects RX6 yX6_perform yX6_perform ∈ sh_ws := sh_inw 465 (by decide +kernel) (by decide +kernel)
theorem lk_L_51 : sh_LV RL 51 mX6_perform 0 6 9 := ⟨cd_X6_perform, wm_L_51, wv_X6_perform, ws_X6_perform, TX6, cl_X6⟩
theorem wm_L_54 : Cond.methodLink RL 54 yX7_perform ∈ sh_ws := sh_inw 886 (by decide +kernel) (by decide +kernel)
theorem wv_X7_perform : Cond.instanceMethod yX7_perform ∈ sh_ws := sh_inw 887 (by decide +kernel) (by decide +kernel)
theorem ws_X7_perform : Cond.selects RX7 yX7_perform yX7_perform ∈ sh_ws := sh_inw 888 (by decide +kernel) (by decide +kernel)
theorem lk_L_54 : sh_LV RL 54 mX7_perform 0 7 20 := ⟨cd_X7_perform, wm_L_54, wv_X7_perform, ws_X7_perform, TX7, cl_X7⟩
theorem wm_L_55 : Cond.methodLink RL 55 yX6_stopped ∈ sh_ws := sh_inw 507 (by decide +kernel) (by decide +kernel)
theorem wv_X6_stopped : Cond.instanceMethod yX6_stopped ∈ sh_ws := sh_inw 508 (by decide +kernel) (by decide +kernel)
theorem ws_X6_stopped : Cond.selects RX6 yX6_stopped yX6_stopped ∈ sh_ws := sh_inw 509 (by decide +kernel) (by decide +kernel)
theorem lk_L_55 : sh_LV RL 55 mX6_stopped 1 6 9 := ⟨cd_X6_stopped, wm_L_55, wv_X6_stopped, ws_X6_stopped, TX6, cl_X6⟩
theorem wm_L_58 : Cond.methodLink RL 58 yX7_stopped ∈ sh_ws := sh_inw 930 (by decide +kernel) (by decide +kernel)
theorem wv_X7_stopped : Cond.instanceMethod yX7_stopped ∈ sh_ws := sh_inw 931 (by decide +kernel) (by decide +kernel)
theorem ws_X7_stopped : Cond.selects RX7 yX7_stopped yX7_stopped ∈ sh_ws := sh_inw 932 (by decide +kernel) (by decide +kernel)
theorem lk_L_58 : sh_LV RL 58 mX7_stopped 1 7 20 := ⟨cd_X7_stopped, wm_L_58, wv_X7_stopped, ws_X7_stopped, TX7, cl_X7⟩
theorem wm_L_59 : Cond.methodLink RL 59 yX6_undo ∈ sh_ws := sh_inw 511 (by decide +kernel) (by decide +kernel)
theorem wv_X6_undo : Cond.instanceMethod yX6_undo ∈ sh_ws := sh_inw 512 (by decide +kernel) (by decide +kernel)
theorem ws_X6_undo : Cond.selects RX6 yX6_undo yX6_undo ∈ sh_ws := sh_inw 513 (by decide +kernel) (by decide +kernel)
theorem lk_L_59 : sh_LV RL 59 mX6_undo 0 6 9 := ⟨cd_X6_undo, wm_L_59, wv_X6_undo, ws_X6_undo, TX6, cl_X6⟩
theorem wm_L_62 : Cond.methodLink RL 62 yX7_undo ∈ sh_ws := sh_inw 737 (by decide +kernel) (by decide +kernel)
theorem wv_X7_undo : Cond.instanceMethod yX7_undo ∈ sh_ws := sh_inw 738 (by decide +kernel) (by decide +kernel)
theorem ws_X7_undo : Cond.selects RX7 yX7_undo yX7_undo ∈ sh_ws := sh_inw 739 (by decide +kernel) (by decide +kernel)
theorem lk_L_62 : sh_LV RL 62 mX7_undo 0 7 20 := ⟨cd_X7_undo, wm_L_62, wv_X7_undo, ws_X7_undo, TX7, cl_X7⟩
theorem wm_L_63 : Cond.methodLink RL 63 yX6_keep ∈ sh_ws := sh_inw 519 (by decide +kernel) (by decide +kernel)
theorem wv_X6_keep : Cond.instanceMethod yX6_keep ∈ sh_ws := sh_inw 520 (by decide +kernel) (by decide +kernel)
theorem ws_X6_keep : Cond.selects RX6 yX6_keep yX6_keep ∈ sh_ws := sh_inw 521 (by decide +kernel) (by decide +kernel)
theorem lk_L_63 : sh_LV RL 63 mX6_keep 0 6 9 := ⟨cd_X6_keep, wm_L_63, wv_X6_keep, ws_X6_keep, TX6, cl_X6⟩
theorem wm_L_66 : Cond.methodLink RL 66 yX7_keep ∈ sh_ws := sh_inw 741 (by decide +kernel) (by decide +kernel)
theorem wv_X7_keep : Cond.instanceMethod yX7_keep ∈ sh_ws := sh_inw 742 (by decide +kernel) (by decide +kernel)
theorem ws_X7_keep : Cond.selects RX7 yX7_keep yX7_keep ∈ sh_ws := sh_inw 743 (by decide +kernel) (by decide +kernel)
theorem lk_L_66 : sh_LV RL 66 mX7_keep 0 7 20 := ⟨cd_X7_keep, wm_L_66, wv_X7_keep, ws_X7_keep, TX7, cl_X7⟩
theorem wm_L_67 : Cond.methodLink RL 67 yX6_restore ∈ sh_ws := sh_inw 523 (by decide +kernel) (by decide +kernel)
theorem wv_X6_restore : Cond.instanceMethod yX6_restore ∈ sh_ws := sh_inw 524 (by decide +kernel) (by decide +kernel)
theorem ws_X6_restore : Cond.selects RX6 yX6_restore yX6_restore ∈ sh_ws := sh_inw 525 (by decide +kernel) (by decide +kernel)
theorem lk_L_67 : sh_LV RL 67 mX6_restore 0 6 9 := ⟨cd_X6_restore, wm_L_67, wv_X6_restore, ws_X6_restore, TX6, cl_X6⟩
theorem wm_L_70 : Cond.methodLink RL 70 yX7_restore ∈ sh_ws := sh_inw 745 (by decide +kernel) (by decide +kernel)
theorem wv_X7_restore : Cond.instanceMethod yX7_restore ∈ sh_ws := sh_inw 746 (by decide +kernel) (by decide +kernel)
theorem ws_X7_restore : Cond.selects RX7 yX7_restore yX7_restore ∈ sh_ws := sh_inw 747 (by decide +kernel) (by decide +kernel)
theorem lk_L_70 : sh_LV RL 70 mX7_restore 0 7 20 := ⟨cd_X7_restore, wm_L_70, wv_X7_restore, ws_X7_restore, TX7, cl_X7⟩
theorem wm_L_71 : Cond.methodLink RL 71 yX6_runner ∈ sh_ws := sh_inw 527 (by decide +kernel) (by decide +kernel)
theorem wv_X6_runner : Cond.instanceMethod yX6_runner ∈ sh_ws := sh_inw 528 (by decide +kernel) (by decide +kernel)
theorem ws_X6_runner : Cond.selects RX6 yX6_runner yX6_runner ∈ sh_ws := sh_inw 529 (by decide +kernel) (by decide +kernel)
theorem lk_L_71 : sh_LV RL 71 mX6_runner 2 6 9 := ⟨cd_X6_runner, wm_L_71, wv_X6_runner, ws_X6_runner, TX6, cl_X6⟩
theorem wm_L_74 : Cond.methodLink RL 74 yX7_runner ∈ sh_ws := sh_inw 934 (by decide +kernel) (by decide +kernel)
theorem wv_X7_runner : Cond.instanceMethod yX7_runner ∈ sh_ws := sh_inw 935 (by decide +kernel) (by decide +kernel)
theorem ws_X7_runner : Cond.selects RX7 yX7_runner yX7_runner ∈ sh_ws := sh_inw 936 (by decide +kernel) (by decide +kernel)
theorem lk_L_74 : sh_LV RL 74 mX7_runner 2 7 20 := ⟨cd_X7_runner, wm_L_74, wv_X7_runner, ws_X7_runner, TX7, cl_X7⟩
theorem wm_L_75 : Cond.methodLink RL 75 yX6_lamp ∈ sh_ws := sh_inw 568 (by decide +kernel) (by decide +kernel)
theorem wv_X6_lamp : Cond.instanceMethod yX6_lamp ∈ sh_ws := sh_inw 569 (by decide +kernel) (by decide +kernel)
theorem ws_X6_lamp : Cond.selects RX6 yX6_lamp yX6_lamp ∈ sh_ws := sh_inw 570 (by decide +kernel) (by decide +kernel)
theorem lk_L_75 : sh_LV RL 75 mX6_lamp 2 6 9 := ⟨cd_X6_lamp, wm_L_75, wv_X6_lamp, ws_X6_lamp, TX6, cl_X6⟩
theorem wm_L_78 : Cond.methodLink RL 78 yX7_lamp ∈ sh_ws := sh_inw 946 (by decide +kernel) (by decide +kernel)
theorem wv_X7_lamp : Cond.instanceMethod yX7_lamp ∈ sh_ws := sh_inw 947 (by decide +kernel) (by decide +kernel)
theorem ws_X7_lamp : Cond.selects RX7 yX7_lamp yX7_lamp ∈ sh_ws := sh_inw 948 (by decide +kernel) (by decide +kernel)
theorem lk_L_78 : sh_LV RL 78 mX7_lamp 2 7 20 := ⟨cd_X7_lamp, wm_L_78, wv_X7_lamp, ws_X7_lamp, TX7, cl_X7⟩
theorem wm_L_79 : Cond.methodLink RL 79 yX6_shadow ∈ sh_ws := sh_inw 578 (by decide +kernel) (by decide +kernel)
theorem wv_X6_shadow : Cond.instanceMethod yX6_shadow ∈ sh_ws := sh_inw 579 (by decide +kernel) (by decide +kernel)
theorem ws_X6_shadow : Cond.selects RX6 yX6_shadow yX6_shadow ∈ sh_ws := sh_inw 580 (by decide +kernel) (by decide +kernel)
theorem lk_L_79 : sh_LV RL 79 mX6_shadow 3 6 9 := ⟨cd_X6_shadow, wm_L_79, wv_X6_shadow, ws_X6_shadow, TX6, cl_X6⟩
theorem wm_L_82 : Cond.methodLink RL 82 yX7_shadow ∈ sh_ws := sh_inw 950 (by decide +kernel) (by decide +kernel)
theorem wv_X7_shadow : Cond.instanceMethod yX7_shadow ∈ sh_ws := sh_inw 951 (by decide +kernel) (by decide +kernel)
theorem ws_X7_shadow : Cond.selects RX7 yX7_shadow yX7_shadow ∈ sh_ws := sh_inw 952 (by decide +kernel) (by decide +kernel)
theorem lk_L_82 : sh_LV RL 82 mX7_shadow 3 7 20 := ⟨cd_X7_shadow, wm_L_82, wv_X7_shadow, ws_X7_shadow, TX7, cl_X7⟩
theorem wm_L_83 : Cond.methodLink RL 83 yX6_darkness ∈ sh_ws := sh_inw 588 (by decide +kernel) (by decide +kernel)
theorem wv_X6_darkness : Cond.instanceMethod yX6_darkness ∈ sh_ws := sh_inw 589 (by decide +kernel) (by decide +kernel)
theorem ws_X6_darkness : Cond.selects RX6 yX6_darkness yX6_darkness ∈ sh_ws := sh_inw 590 (by decide +kernel) (by decide +kernel)
theorem lk_L_83 : sh_LV RL 83 mX6_darkness 1 6 9 := ⟨cd_X6_darkness, wm_L_83, wv_X6_darkness, ws_X6_darkness, TX6, cl_X6⟩
theorem wm_L_86 : Cond.methodLink RL 86 yX7_darkness ∈ sh_ws := sh_inw 954 (by decide +kernel) (by decide +kernel)
theorem wv_X7_darkness : Cond.instanceMethod yX7_darkness ∈ sh_ws := sh_inw 955 (by decide +kernel) (by decide +kernel)
theorem ws_X7_darkness : Cond.selects RX7 yX7_darkness yX7_darkness ∈ sh_ws := sh_inw 956 (by decide +kernel) (by decide +kernel)
theorem lk_L_86 : sh_LV RL 86 mX7_darkness 1 7 20 := ⟨cd_X7_darkness, wm_L_86, wv_X7_darkness, ws_X7_darkness, TX7, cl_X7⟩
theorem wm_L_87 : Cond.methodLink RL 87 yX6_looked ∈ sh_ws := sh_inw 597 (by decide +kernel) (by decide +kernel)
theorem wv_X6_looked : Cond.instanceMethod yX6_looked ∈ sh_ws := sh_inw 598 (by decide +kernel) (by decide +kernel)
theorem ws_X6_looked : Cond.selects RX6 yX6_looked yX6_looked ∈ sh_ws := sh_inw 599 (by decide +kernel) (by decide +kernel)
theorem lk_L_87 : sh_LV RL 87 mX6_looked 1 6 9 := ⟨cd_X6_looked, wm_L_87, wv_X6_looked, ws_X6_looked, TX6, cl_X6⟩
theorem wm_L_90 : Cond.methodLink RL 90 yX7_looked ∈ sh_ws := sh_inw 958 (by decide +kernel) (by decide +kernel)
theorem wv_X7_looked : Cond.instanceMethod yX7_looked ∈ sh_ws := sh_inw 959 (by decide +kernel) (by decide +kernel)
theorem ws_X7_looked : Cond.selects RX7 yX7_looked yX7_looked ∈ sh_ws := sh_inw 960 (by decide +kernel) (by decide +kernel)
theorem lk_L_90 : sh_LV RL 90 mX7_looked 1 7 20 := ⟨cd_X7_looked, wm_L_90, wv_X7_looked, ws_X7_looked, TX7, cl_X7⟩
theorem wm_L_91 : Cond.methodLink RL 91 yX6_at ∈ sh_ws := sh_inw 602 (by decide +kernel) (by decide +kernel)
theorem wv_X6_at : Cond.instanceMethod yX6_at ∈ sh_ws := sh_inw 603 (by decide +kernel) (by decide +kernel)
theorem ws_X6_at : Cond.selects RX6 yX6_at yX6_at ∈ sh_ws := sh_inw 604 (by decide +kernel) (by decide +kernel)
theorem lk_L_91 : sh_LV RL 91 mX6_at 1 6 9 := ⟨cd_X6_at, wm_L_91, wv_X6_at, ws_X6_at, TX6, cl_X6⟩
theorem wm_L_94 : Cond.methodLink RL 94 yX7_at ∈ sh_ws := sh_inw 962 (by decide +kernel) (by decide +kernel)
theorem wv_X7_at : Cond.instanceMethod yX7_at ∈ sh_ws := sh_inw 963 (by decide +kernel) (by decide +kernel)
theorem ws_X7_at : Cond.selects RX7 yX7_at yX7_at ∈ sh_ws := sh_inw 964 (by decide +kernel) (by decide +kernel)
theorem lk_L_94 : sh_LV RL 94 mX7_at 1 7 20 := ⟨cd_X7_at, wm_L_94, wv_X7_at, ws_X7_at, TX7, cl_X7⟩
theorem wm_L_95 : Cond.methodLink RL 95 yX6_reason ∈ sh_ws := sh_inw 606 (by decide +kernel) (by decide +kernel)
theorem wv_X6_reason : Cond.instanceMethod yX6_reason ∈ sh_ws := sh_inw 607 (by decide +kernel) (by decide +kernel)
theorem ws_X6_reason : Cond.selects RX6 yX6_reason yX6_reason ∈ sh_ws := sh_inw 608 (by decide +kernel) (by decide +kernel)
theorem lk_L_95 : sh_LV RL 95 mX6_reason 1 6 9 := ⟨cd_X6_reason, wm_L_95, wv_X6_reason, ws_X6_reason, TX6, cl_X6⟩
theorem wm_L_98 : Cond.methodLink RL 98 yX7_reason ∈ sh_ws := sh_inw 966 (by decide +kernel) (by decide +kernel)
theorem wv_X7_reason : Cond.instanceMethod yX7_reason ∈ sh_ws := sh_inw 967 (by decide +kernel) (by decide +kernel)
theorem ws_X7_reason : Cond.selects RX7 yX7_reason yX7_reason ∈ sh_ws := sh_inw 968 (by decide +kernel) (by decide +kernel)
theorem lk_L_98 : sh_LV RL 98 mX7_reason 1 7 20 := ⟨cd_X7_reason, wm_L_98, wv_X7_reason, ws_X7_reason, TX7, cl_X7⟩
theorem wm_L_99 : Cond.methodLink RL 99 yX6_stepsTo ∈ sh_ws := sh_inw 620 (by decide +kernel) (by decide +kernel)
theorem lk_L_99 : sh_LV RL 99 mX6_stepsTo 1 6 9 := ⟨cd_X6_stepsTo, wm_L_99, wv_X6_stepsTo, ws_X6_stepsTo, TX6, cl_X6⟩
theorem wm_L_102 : Cond.methodLink RL 102 yX7_stepsTo ∈ sh_ws := sh_inw 974 (by decide +kernel) (by decide +kernel)
theorem wv_X7_stepsTo : Cond.instanceMethod yX7_stepsTo ∈ sh_ws := sh_inw 975 (by decide +kernel) (by decide +kernel)
theorem ws_X7_stepsTo : Cond.selects RX7 yX7_stepsTo yX7_stepsTo ∈ sh_ws := sh_inw 976 (by decide +kernel) (by decide +kernel)
theorem lk_L_102 : sh_LV RL 102 mX7_stepsTo 1 7 20 := ⟨cd_X7_stepsTo, wm_L_102, wv_X7_stepsTo, ws_X7_stepsTo, TX7, cl_X7⟩
theorem wm_L_103 : Cond.methodLink RL 103 yX6_safest ∈ sh_ws := sh_inw 638 (by decide +kernel) (by decide +kernel)
theorem wv_X6_safest : Cond.instanceMethod yX6_safest ∈ sh_ws := sh_inw 639 (by decide +kernel) (by decide +kernel)
theorem ws_X6_safest : Cond.selects RX6 yX6_safest yX6_safest ∈ sh_ws := sh_inw 640 (by decide +kernel) (by decide +kernel)
theorem lk_L_103 : sh_LV RL 103 mX6_safest 0 6 9 := ⟨cd_X6_safest, wm_L_103, wv_X6_safest, ws_X6_safest, TX6, cl_X6⟩
theorem wm_L_106 : Cond.methodLink RL 106 yX7_safest ∈ sh_ws := sh_inw 986 (by decide +kernel) (by decide +kernel)
theorem wv_X7_safest : Cond.instanceMethod yX7_safest ∈ sh_ws := sh_inw 987 (by decide +kernel) (by decide +kernel)
theorem ws_X7_safest : Cond.selects RX7 yX7_safest yX7_safest ∈ sh_ws := sh_inw 988 (by decide +kernel) (by decide +kernel)
theorem lk_L_106 : sh_LV RL 106 mX7_safest 0 7 20 := ⟨cd_X7_safest, wm_L_106, wv_X7_safest, ws_X7_safest, TX7, cl_X7⟩
theorem wm_L_107 : Cond.methodLink RL 107 yX6_ifTurns ∈ sh_ws := sh_inw 647 (by decide +kernel) (by decide +kernel)
theorem wv_X6_ifTurns : Cond.instanceMethod yX6_ifTurns ∈ sh_ws := sh_inw 648 (by decide +kernel) (by decide +kernel)
theorem ws_X6_ifTurns : Cond.selects RX6 yX6_ifTurns yX6_ifTurns ∈ sh_ws := sh_inw 649 (by decide +kernel) (by decide +kernel)
theorem lk_L_107 : sh_LV RL 107 mX6_ifTurns 2 6 9 := ⟨cd_X6_ifTurns, wm_L_107, wv_X6_ifTurns, ws_X6_ifTurns, TX6, cl_X6⟩
theorem wm_L_110 : Cond.methodLink RL 110 yX7_ifTurns ∈ sh_ws := sh_inw 990 (by decide +kernel) (by decide +kernel)
theorem wv_X7_ifTurns : Cond.instanceMethod yX7_ifTurns ∈ sh_ws := sh_inw 991 (by decide +kernel) (by decide +kernel)
theorem ws_X7_ifTurns : Cond.selects RX7 yX7_ifTurns yX7_ifTurns ∈ sh_ws := sh_inw 992 (by decide +kernel) (by decide +kernel)
theorem lk_L_110 : sh_LV RL 110 mX7_ifTurns 2 7 20 := ⟨cd_X7_ifTurns, wm_L_110, wv_X7_ifTurns, ws_X7_ifTurns, TX7, cl_X7⟩
theorem wm_L_111 : Cond.methodLink RL 111 yX6_count ∈ sh_ws := sh_inw 652 (by decide +kernel) (by decide +kernel)
theorem wv_X6_count : Cond.instanceMethod yX6_count ∈ sh_ws := sh_inw 653 (by decide +kernel) (by decide +kernel)
theorem ws_X6_count : Cond.selects RX6 yX6_count yX6_count ∈ sh_ws := sh_inw 654 (by decide +kernel) (by decide +kernel)
theorem lk_L_111 : sh_LV RL 111 mX6_count 1 6 9 := ⟨cd_X6_count, wm_L_111, wv_X6_count, ws_X6_count, TX6, cl_X6⟩
theorem wm_L_114 : Cond.methodLink RL 114 yX7_count ∈ sh_ws := sh_inw 994 (by decide +kernel) (by decide +kernel)
theorem wv_X7_count : Cond.instanceMethod yX7_count ∈ sh_ws := sh_inw 995 (by decide +kernel) (by decide +kernel)
theorem ws_X7_count : Cond.selects RX7 yX7_count yX7_count ∈ sh_ws := sh_inw 996 (by decide +kernel) (by decide +kernel)
theorem lk_L_114 : sh_LV RL 114 mX7_count 1 7 20 := ⟨cd_X7_count, wm_L_114, wv_X7_count, ws_X7_count, TX7, cl_X7⟩
end
