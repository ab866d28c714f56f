-- ===== PART A: goes FIRST, ahead of the names: the tables' words, and 'selects' of the private methods out of them =====
/-- a private method of a class that the tables say can be made, by its rows of tables_1 -/
def lw_okq (q : MethodName × Nat) : Prop := (q.1.cls ≠ "java/lang/invoke/MethodHandle" ∧ q.1.cls ≠ "java/lang/invoke/VarHandle") ∧ Cond.instantiable q.1.cls q.2 ∈ tables_1 ∧ Cond.privateMethod q.1 ∈ tables_1 ∧ Cond.instanceMethod q.1 ∈ tables_1
theorem lw_p0 : lw_okq (⟨"ShadowTag", "takeOver", "(I)I"⟩, 9) := ⟨⟨by decide +kernel, by decide +kernel⟩, List.mem_of_getElem? (i := 12) (by decide +kernel), List.mem_of_getElem? (i := 278) (by decide +kernel), List.mem_of_getElem? (i := 279) (by decide +kernel)⟩
theorem lw_p1 : lw_okq (⟨"ShadowTag$History", "ringPlace", "(I)LShadowTag$Platform;"⟩, 3) := ⟨⟨by decide +kernel, by decide +kernel⟩, List.mem_of_getElem? (i := 135) (by decide +kernel), List.mem_of_getElem? (i := 286) (by decide +kernel), List.mem_of_getElem? (i := 287) (by decide +kernel)⟩
theorem lw_p2 : lw_okq (⟨"ShadowTag$Runners", "step", "(I)V"⟩, 12) := ⟨⟨by decide +kernel, by decide +kernel⟩, List.mem_of_getElem? (i := 26) (by decide +kernel), List.mem_of_getElem? (i := 352) (by decide +kernel), List.mem_of_getElem? (i := 353) (by decide +kernel)⟩
theorem lw_p3 : lw_okq (⟨"ShadowTag$Game", "readThing", "(I)Z"⟩, 7) := ⟨⟨by decide +kernel, by decide +kernel⟩, List.mem_of_getElem? (i := 155) (by decide +kernel), List.mem_of_getElem? (i := 420) (by decide +kernel), List.mem_of_getElem? (i := 421) (by decide +kernel)⟩
theorem lw_p4 : lw_okq (⟨"ShadowTag$Game", "nextSign", "()I"⟩, 7) := ⟨⟨by decide +kernel, by decide +kernel⟩, List.mem_of_getElem? (i := 155) (by decide +kernel), List.mem_of_getElem? (i := 424) (by decide +kernel), List.mem_of_getElem? (i := 425) (by decide +kernel)⟩
theorem lw_p5 : lw_okq (⟨"ShadowTag$Game", "readAs", "(I[II)Z"⟩, 7) := ⟨⟨by decide +kernel, by decide +kernel⟩, List.mem_of_getElem? (i := 155) (by decide +kernel), List.mem_of_getElem? (i := 428) (by decide +kernel), List.mem_of_getElem? (i := 429) (by decide +kernel)⟩
theorem lw_p6 : lw_okq (⟨"ShadowTag$Game", "readNumber", "([IIII)Z"⟩, 7) := ⟨⟨by decide +kernel, by decide +kernel⟩, List.mem_of_getElem? (i := 155) (by decide +kernel), List.mem_of_getElem? (i := 432) (by decide +kernel), List.mem_of_getElem? (i := 433) (by decide +kernel)⟩
theorem lw_p7 : lw_okq (⟨"ShadowTag$Game", "nextDigit", "()I"⟩, 7) := ⟨⟨by decide +kernel, by decide +kernel⟩, List.mem_of_getElem? (i := 155) (by decide +kernel), List.mem_of_getElem? (i := 436) (by decide +kernel), List.mem_of_getElem? (i := 437) (by decide +kernel)⟩
theorem lw_p8 : lw_okq (⟨"ShadowTag$Game", "readSign", "(I)Z"⟩, 7) := ⟨⟨by decide +kernel, by decide +kernel⟩, List.mem_of_getElem? (i := 155) (by decide +kernel), List.mem_of_getElem? (i := 440) (by decide +kernel), List.mem_of_getElem? (i := 441) (by decide +kernel)⟩
theorem lw_p9 : lw_okq (⟨"ShadowTag$Game", "readDirection", "(I)Z"⟩, 7) := ⟨⟨by decide +kernel, by decide +kernel⟩, List.mem_of_getElem? (i := 155) (by decide +kernel), List.mem_of_getElem? (i := 444) (by decide +kernel), List.mem_of_getElem? (i := 445) (by decide +kernel)⟩
theorem lw_p10 : lw_okq (⟨"ShadowTag$Game", "readOnOrOff", "(I)Z"⟩, 7) := ⟨⟨by decide +kernel, by decide +kernel⟩, List.mem_of_getElem? (i := 155) (by decide +kernel), List.mem_of_getElem? (i := 448) (by decide +kernel), List.mem_of_getElem? (i := 449) (by decide +kernel)⟩
theorem lw_p11 : lw_okq (⟨"ShadowTag", "tryThing", "(I)I"⟩, 9) := ⟨⟨by decide +kernel, by decide +kernel⟩, List.mem_of_getElem? (i := 12) (by decide +kernel), List.mem_of_getElem? (i := 452) (by decide +kernel), List.mem_of_getElem? (i := 453) (by decide +kernel)⟩
theorem lw_p12 : lw_okq (⟨"ShadowTag", "cellsInShadowsOf", "(I)I"⟩, 9) := ⟨⟨by decide +kernel, by decide +kernel⟩, List.mem_of_getElem? (i := 12) (by decide +kernel), List.mem_of_getElem? (i := 481) (by decide +kernel), List.mem_of_getElem? (i := 482) (by decide +kernel)⟩
theorem lw_p13 : lw_okq (⟨"ShadowTag", "cellsInShadowsBy", "(I)I"⟩, 9) := ⟨⟨by decide +kernel, by decide +kernel⟩, List.mem_of_getElem? (i := 12) (by decide +kernel), List.mem_of_getElem? (i := 522) (by decide +kernel), List.mem_of_getElem? (i := 523) (by decide +kernel)⟩
theorem lw_p14 : lw_okq (⟨"ShadowTag$Board", "enter", "(II)V"⟩, 5) := ⟨⟨by decide +kernel, by decide +kernel⟩, List.mem_of_getElem? (i := 189) (by decide +kernel), List.mem_of_getElem? (i := 581) (by decide +kernel), List.mem_of_getElem? (i := 582) (by decide +kernel)⟩
theorem lw_p15 : lw_okq (⟨"ShadowTag", "stepsOrFarthest", "(I)I"⟩, 9) := ⟨⟨by decide +kernel, by decide +kernel⟩, List.mem_of_getElem? (i := 12) (by decide +kernel), List.mem_of_getElem? (i := 591) (by decide +kernel), List.mem_of_getElem? (i := 592) (by decide +kernel)⟩
def lw_privs_1 : List (MethodName × Nat) := [(⟨"ShadowTag", "takeOver", "(I)I"⟩, 9), (⟨"ShadowTag$History", "ringPlace", "(I)LShadowTag$Platform;"⟩, 3), (⟨"ShadowTag$Runners", "step", "(I)V"⟩, 12), (⟨"ShadowTag$Game", "readThing", "(I)Z"⟩, 7), (⟨"ShadowTag$Game", "nextSign", "()I"⟩, 7), (⟨"ShadowTag$Game", "readAs", "(I[II)Z"⟩, 7), (⟨"ShadowTag$Game", "readNumber", "([IIII)Z"⟩, 7), (⟨"ShadowTag$Game", "nextDigit", "()I"⟩, 7), (⟨"ShadowTag$Game", "readSign", "(I)Z"⟩, 7), (⟨"ShadowTag$Game", "readDirection", "(I)Z"⟩, 7), (⟨"ShadowTag$Game", "readOnOrOff", "(I)Z"⟩, 7), (⟨"ShadowTag", "tryThing", "(I)I"⟩, 9), (⟨"ShadowTag", "cellsInShadowsOf", "(I)I"⟩, 9), (⟨"ShadowTag", "cellsInShadowsBy", "(I)I"⟩, 9), (⟨"ShadowTag$Board", "enter", "(II)V"⟩, 5), (⟨"ShadowTag", "stepsOrFarthest", "(I)I"⟩, 9)]
theorem lw_r1 : ∀ q ∈ lw_privs_1, lw_okq q := List.forall_mem_cons.mpr ⟨lw_p0, List.forall_mem_cons.mpr ⟨lw_p1, List.forall_mem_cons.mpr ⟨lw_p2, List.forall_mem_cons.mpr ⟨lw_p3, List.forall_mem_cons.mpr ⟨lw_p4, List.forall_mem_cons.mpr ⟨lw_p5, List.forall_mem_cons.mpr ⟨lw_p6, List.forall_mem_cons.mpr ⟨lw_p7, List.forall_mem_cons.mpr ⟨lw_p8, List.forall_mem_cons.mpr ⟨lw_p9, List.forall_mem_cons.mpr ⟨lw_p10, List.forall_mem_cons.mpr ⟨lw_p11, List.forall_mem_cons.mpr ⟨lw_p12, List.forall_mem_cons.mpr ⟨lw_p13, List.forall_mem_cons.mpr ⟨lw_p14, List.forall_mem_cons.mpr ⟨lw_p15, fun _ h => absurd h List.not_mem_nil⟩⟩⟩⟩⟩⟩⟩⟩⟩⟩⟩⟩⟩⟩⟩⟩
theorem lw_p16 : lw_okq (⟨"ShadowTag", "cellsInAnyShadow", "()I"⟩, 9) := ⟨⟨by decide +kernel, by decide +kernel⟩, List.mem_of_getElem? (i := 12) (by decide +kernel), List.mem_of_getElem? (i := 606) (by decide +kernel), List.mem_of_getElem? (i := 607) (by decide +kernel)⟩
theorem lw_p17 : lw_okq (⟨"ShadowTagModel", "putLamp", "(III)V"⟩, 20) := ⟨⟨by decide +kernel, by decide +kernel⟩, List.mem_of_getElem? (i := 615) (by decide +kernel), List.mem_of_getElem? (i := 621) (by decide +kernel), List.mem_of_getElem? (i := 622) (by decide +kernel)⟩
theorem lw_p18 : lw_okq (⟨"ShadowTagModel", "putAside", "()V"⟩, 20) := ⟨⟨by decide +kernel, by decide +kernel⟩, List.mem_of_getElem? (i := 615) (by decide +kernel), List.mem_of_getElem? (i := 698) (by decide +kernel), List.mem_of_getElem? (i := 699) (by decide +kernel)⟩
theorem lw_p19 : lw_okq (⟨"ShadowTagModel", "record", "()V"⟩, 20) := ⟨⟨by decide +kernel, by decide +kernel⟩, List.mem_of_getElem? (i := 615) (by decide +kernel), List.mem_of_getElem? (i := 702) (by decide +kernel), List.mem_of_getElem? (i := 703) (by decide +kernel)⟩
theorem lw_p20 : lw_okq (⟨"ShadowTagModel", "comeNow", "(II)I"⟩, 20) := ⟨⟨by decide +kernel, by decide +kernel⟩, List.mem_of_getElem? (i := 615) (by decide +kernel), List.mem_of_getElem? (i := 710) (by decide +kernel), List.mem_of_getElem? (i := 711) (by decide +kernel)⟩
theorem lw_p21 : lw_okq (⟨"ShadowTagModel", "runnerAt", "(I)I"⟩, 20) := ⟨⟨by decide +kernel, by decide +kernel⟩, List.mem_of_getElem? (i := 615) (by decide +kernel), List.mem_of_getElem? (i := 720) (by decide +kernel), List.mem_of_getElem? (i := 721) (by decide +kernel)⟩
theorem lw_p22 : lw_okq (⟨"ShadowTagModel", "of", "(II)I"⟩, 20) := ⟨⟨by decide +kernel, by decide +kernel⟩, List.mem_of_getElem? (i := 615) (by decide +kernel), List.mem_of_getElem? (i := 724) (by decide +kernel), List.mem_of_getElem? (i := 725) (by decide +kernel)⟩
theorem lw_p23 : lw_okq (⟨"ShadowTagModel", "put", "(III)V"⟩, 20) := ⟨⟨by decide +kernel, by decide +kernel⟩, List.mem_of_getElem? (i := 615) (by decide +kernel), List.mem_of_getElem? (i := 728) (by decide +kernel), List.mem_of_getElem? (i := 729) (by decide +kernel)⟩
theorem lw_p24 : lw_okq (⟨"ShadowTagModel", "acted", "(I)I"⟩, 20) := ⟨⟨by decide +kernel, by decide +kernel⟩, List.mem_of_getElem? (i := 615) (by decide +kernel), List.mem_of_getElem? (i := 732) (by decide +kernel), List.mem_of_getElem? (i := 733) (by decide +kernel)⟩
theorem lw_p25 : lw_okq (⟨"ShadowTagModel", "headNow", "(II)I"⟩, 20) := ⟨⟨by decide +kernel, by decide +kernel⟩, List.mem_of_getElem? (i := 615) (by decide +kernel), List.mem_of_getElem? (i := 740) (by decide +kernel), List.mem_of_getElem? (i := 741) (by decide +kernel)⟩
theorem lw_p26 : lw_okq (⟨"ShadowTagModel", "isRunner", "(I)Z"⟩, 20) := ⟨⟨by decide +kernel, by decide +kernel⟩, List.mem_of_getElem? (i := 615) (by decide +kernel), List.mem_of_getElem? (i := 744) (by decide +kernel), List.mem_of_getElem? (i := 745) (by decide +kernel)⟩
theorem lw_p27 : lw_okq (⟨"ShadowTagModel", "lightNow", "(II)I"⟩, 20) := ⟨⟨by decide +kernel, by decide +kernel⟩, List.mem_of_getElem? (i := 615) (by decide +kernel), List.mem_of_getElem? (i := 752) (by decide +kernel), List.mem_of_getElem? (i := 753) (by decide +kernel)⟩
theorem lw_p28 : lw_okq (⟨"ShadowTagModel", "ofLamp", "(II)I"⟩, 20) := ⟨⟨by decide +kernel, by decide +kernel⟩, List.mem_of_getElem? (i := 615) (by decide +kernel), List.mem_of_getElem? (i := 759) (by decide +kernel), List.mem_of_getElem? (i := 760) (by decide +kernel)⟩
theorem lw_p29 : lw_okq (⟨"ShadowTagModel", "lampsOn", "()I"⟩, 20) := ⟨⟨by decide +kernel, by decide +kernel⟩, List.mem_of_getElem? (i := 615) (by decide +kernel), List.mem_of_getElem? (i := 763) (by decide +kernel), List.mem_of_getElem? (i := 764) (by decide +kernel)⟩
theorem lw_p30 : lw_okq (⟨"ShadowTagModel", "setLampNow", "(III)I"⟩, 20) := ⟨⟨by decide +kernel, by decide +kernel⟩, List.mem_of_getElem? (i := 615) (by decide +kernel), List.mem_of_getElem? (i := 771) (by decide +kernel), List.mem_of_getElem? (i := 772) (by decide +kernel)⟩
theorem lw_p31 : lw_okq (⟨"ShadowTagModel", "setNow", "(II)I"⟩, 20) := ⟨⟨by decide +kernel, by decide +kernel⟩, List.mem_of_getElem? (i := 615) (by decide +kernel), List.mem_of_getElem? (i := 779) (by decide +kernel), List.mem_of_getElem? (i := 780) (by decide +kernel)⟩
def lw_privs_2 : List (MethodName × Nat) := [(⟨"ShadowTag", "cellsInAnyShadow", "()I"⟩, 9), (⟨"ShadowTagModel", "putLamp", "(III)V"⟩, 20), (⟨"ShadowTagModel", "putAside", "()V"⟩, 20), (⟨"ShadowTagModel", "record", "()V"⟩, 20), (⟨"ShadowTagModel", "comeNow", "(II)I"⟩, 20), (⟨"ShadowTagModel", "runnerAt", "(I)I"⟩, 20), (⟨"ShadowTagModel", "of", "(II)I"⟩, 20), (⟨"ShadowTagModel", "put", "(III)V"⟩, 20), (⟨"ShadowTagModel", "acted", "(I)I"⟩, 20), (⟨"ShadowTagModel", "headNow", "(II)I"⟩, 20), (⟨"ShadowTagModel", "isRunner", "(I)Z"⟩, 20), (⟨"ShadowTagModel", "lightNow", "(II)I"⟩, 20), (⟨"ShadowTagModel", "ofLamp", "(II)I"⟩, 20), (⟨"ShadowTagModel", "lampsOn", "()I"⟩, 20), (⟨"ShadowTagModel", "setLampNow", "(III)I"⟩, 20), (⟨"ShadowTagModel", "setNow", "(II)I"⟩, 20)]
theorem lw_r2 : ∀ q ∈ lw_privs_2, lw_okq q := List.forall_mem_cons.mpr ⟨lw_p16, List.forall_mem_cons.mpr ⟨lw_p17, List.forall_mem_cons.mpr ⟨lw_p18, List.forall_mem_cons.mpr ⟨lw_p19, List.forall_mem_cons.mpr ⟨lw_p20, List.forall_mem_cons.mpr ⟨lw_p21, List.forall_mem_cons.mpr ⟨lw_p22, List.forall_mem_cons.mpr ⟨lw_p23, List.forall_mem_cons.mpr ⟨lw_p24, List.forall_mem_cons.mpr ⟨lw_p25, List.forall_mem_cons.mpr ⟨lw_p26, List.forall_mem_cons.mpr ⟨lw_p27, List.forall_mem_cons.mpr ⟨lw_p28, List.forall_mem_cons.mpr ⟨lw_p29, List.forall_mem_cons.mpr ⟨lw_p30, List.forall_mem_cons.mpr ⟨lw_p31, fun _ h => absurd h List.not_mem_nil⟩⟩⟩⟩⟩⟩⟩⟩⟩⟩⟩⟩⟩⟩⟩⟩
theorem lw_p32 : lw_okq (⟨"ShadowTagModel", "passNow", "(I)I"⟩, 20) := ⟨⟨by decide +kernel, by decide +kernel⟩, List.mem_of_getElem? (i := 615) (by decide +kernel), List.mem_of_getElem? (i := 787) (by decide +kernel), List.mem_of_getElem? (i := 788) (by decide +kernel)⟩
theorem lw_p33 : lw_okq (⟨"ShadowTagModel", "turn", "()V"⟩, 20) := ⟨⟨by decide +kernel, by decide +kernel⟩, List.mem_of_getElem? (i := 615) (by decide +kernel), List.mem_of_getElem? (i := 792) (by decide +kernel), List.mem_of_getElem? (i := 793) (by decide +kernel)⟩
theorem lw_p34 : lw_okq (⟨"ShadowTagModel", "go", "(I)V"⟩, 20) := ⟨⟨by decide +kernel, by decide +kernel⟩, List.mem_of_getElem? (i := 615) (by decide +kernel), List.mem_of_getElem? (i := 796) (by decide +kernel), List.mem_of_getElem? (i := 797) (by decide +kernel)⟩
theorem lw_p35 : lw_okq (⟨"ShadowTagModel", "tagNow", "()I"⟩, 20) := ⟨⟨by decide +kernel, by decide +kernel⟩, List.mem_of_getElem? (i := 615) (by decide +kernel), List.mem_of_getElem? (i := 803) (by decide +kernel), List.mem_of_getElem? (i := 804) (by decide +kernel)⟩
theorem lw_p36 : lw_okq (⟨"ShadowTagModel", "isInShadowOf", "(II)Z"⟩, 20) := ⟨⟨by decide +kernel, by decide +kernel⟩, List.mem_of_getElem? (i := 615) (by decide +kernel), List.mem_of_getElem? (i := 807) (by decide +kernel), List.mem_of_getElem? (i := 808) (by decide +kernel)⟩
theorem lw_p37 : lw_okq (⟨"ShadowTagModel", "isShaded", "(III)Z"⟩, 20) := ⟨⟨by decide +kernel, by decide +kernel⟩, List.mem_of_getElem? (i := 615) (by decide +kernel), List.mem_of_getElem? (i := 811) (by decide +kernel), List.mem_of_getElem? (i := 812) (by decide +kernel)⟩
theorem lw_p38 : lw_okq (⟨"ShadowTagModel", "follow", "(II)V"⟩, 20) := ⟨⟨by decide +kernel, by decide +kernel⟩, List.mem_of_getElem? (i := 615) (by decide +kernel), List.mem_of_getElem? (i := 815) (by decide +kernel), List.mem_of_getElem? (i := 816) (by decide +kernel)⟩
theorem lw_p39 : lw_okq (⟨"ShadowTagModel", "tag", "(I)V"⟩, 20) := ⟨⟨by decide +kernel, by decide +kernel⟩, List.mem_of_getElem? (i := 615) (by decide +kernel), List.mem_of_getElem? (i := 819) (by decide +kernel), List.mem_of_getElem? (i := 820) (by decide +kernel)⟩
theorem lw_p40 : lw_okq (⟨"ShadowTagModel", "turnPlatform", "()V"⟩, 20) := ⟨⟨by decide +kernel, by decide +kernel⟩, List.mem_of_getElem? (i := 615) (by decide +kernel), List.mem_of_getElem? (i := 823) (by decide +kernel), List.mem_of_getElem? (i := 824) (by decide +kernel)⟩
theorem lw_p41 : lw_okq (⟨"ShadowTagModel", "faultNow", "()I"⟩, 20) := ⟨⟨by decide +kernel, by decide +kernel⟩, List.mem_of_getElem? (i := 615) (by decide +kernel), List.mem_of_getElem? (i := 839) (by decide +kernel), List.mem_of_getElem? (i := 840) (by decide +kernel)⟩
theorem lw_p42 : lw_okq (⟨"ShadowTagModel", "readsThing", "()Z"⟩, 20) := ⟨⟨by decide +kernel, by decide +kernel⟩, List.mem_of_getElem? (i := 615) (by decide +kernel), List.mem_of_getElem? (i := 843) (by decide +kernel), List.mem_of_getElem? (i := 844) (by decide +kernel)⟩
theorem lw_p43 : lw_okq (⟨"ShadowTagModel", "code", "()I"⟩, 20) := ⟨⟨by decide +kernel, by decide +kernel⟩, List.mem_of_getElem? (i := 615) (by decide +kernel), List.mem_of_getElem? (i := 847) (by decide +kernel), List.mem_of_getElem? (i := 848) (by decide +kernel)⟩
theorem lw_p44 : lw_okq (⟨"ShadowTagModel", "takes", "(I)Z"⟩, 20) := ⟨⟨by decide +kernel, by decide +kernel⟩, List.mem_of_getElem? (i := 615) (by decide +kernel), List.mem_of_getElem? (i := 851) (by decide +kernel), List.mem_of_getElem? (i := 852) (by decide +kernel)⟩
theorem lw_p45 : lw_okq (⟨"ShadowTagModel", "readsRest", "(I)Z"⟩, 20) := ⟨⟨by decide +kernel, by decide +kernel⟩, List.mem_of_getElem? (i := 615) (by decide +kernel), List.mem_of_getElem? (i := 855) (by decide +kernel), List.mem_of_getElem? (i := 856) (by decide +kernel)⟩
theorem lw_p46 : lw_okq (⟨"ShadowTagModel", "reads", "(II)Z"⟩, 20) := ⟨⟨by decide +kernel, by decide +kernel⟩, List.mem_of_getElem? (i := 615) (by decide +kernel), List.mem_of_getElem? (i := 859) (by decide +kernel), List.mem_of_getElem? (i := 860) (by decide +kernel)⟩
theorem lw_p47 : lw_okq (⟨"ShadowTagModel", "isDigit", "()Z"⟩, 20) := ⟨⟨by decide +kernel, by decide +kernel⟩, List.mem_of_getElem? (i := 615) (by decide +kernel), List.mem_of_getElem? (i := 863) (by decide +kernel), List.mem_of_getElem? (i := 864) (by decide +kernel)⟩
def lw_privs_3 : List (MethodName × Nat) := [(⟨"ShadowTagModel", "passNow", "(I)I"⟩, 20), (⟨"ShadowTagModel", "turn", "()V"⟩, 20), (⟨"ShadowTagModel", "go", "(I)V"⟩, 20), (⟨"ShadowTagModel", "tagNow", "()I"⟩, 20), (⟨"ShadowTagModel", "isInShadowOf", "(II)Z"⟩, 20), (⟨"ShadowTagModel", "isShaded", "(III)Z"⟩, 20), (⟨"ShadowTagModel", "follow", "(II)V"⟩, 20), (⟨"ShadowTagModel", "tag", "(I)V"⟩, 20), (⟨"ShadowTagModel", "turnPlatform", "()V"⟩, 20), (⟨"ShadowTagModel", "faultNow", "()I"⟩, 20), (⟨"ShadowTagModel", "readsThing", "()Z"⟩, 20), (⟨"ShadowTagModel", "code", "()I"⟩, 20), (⟨"ShadowTagModel", "takes", "(I)Z"⟩, 20), (⟨"ShadowTagModel", "readsRest", "(I)Z"⟩, 20), (⟨"ShadowTagModel", "reads", "(II)Z"⟩, 20), (⟨"ShadowTagModel", "isDigit", "()Z"⟩, 20)]
theorem lw_r3 : ∀ q ∈ lw_privs_3, lw_okq q := List.forall_mem_cons.mpr ⟨lw_p32, List.forall_mem_cons.mpr ⟨lw_p33, List.forall_mem_cons.mpr ⟨lw_p34, List.forall_mem_cons.mpr ⟨lw_p35, List.forall_mem_cons.mpr ⟨lw_p36, List.forall_mem_cons.mpr ⟨lw_p37, List.forall_mem_cons.mpr ⟨lw_p38, List.forall_mem_cons.mpr ⟨lw_p39, List.forall_mem_cons.mpr ⟨lw_p40, List.forall_mem_cons.mpr ⟨lw_p41, List.forall_mem_cons.mpr ⟨lw_p42, List.forall_mem_cons.mpr ⟨lw_p43, List.forall_mem_cons.mpr ⟨lw_p44, List.forall_mem_cons.mpr ⟨lw_p45, List.forall_mem_cons.mpr ⟨lw_p46, List.forall_mem_cons.mpr ⟨lw_p47, fun _ h => absurd h List.not_mem_nil⟩⟩⟩⟩⟩⟩⟩⟩⟩⟩⟩⟩⟩⟩⟩⟩
theorem lw_p48 : lw_okq (⟨"ShadowTagModel", "readsDirection", "()Z"⟩, 20) := ⟨⟨by decide +kernel, by decide +kernel⟩, List.mem_of_getElem? (i := 615) (by decide +kernel), List.mem_of_getElem? (i := 867) (by decide +kernel), List.mem_of_getElem? (i := 868) (by decide +kernel)⟩
theorem lw_p49 : lw_okq (⟨"ShadowTagModel", "doThing", "(I)I"⟩, 20) := ⟨⟨by decide +kernel, by decide +kernel⟩, List.mem_of_getElem? (i := 615) (by decide +kernel), List.mem_of_getElem? (i := 871) (by decide +kernel), List.mem_of_getElem? (i := 872) (by decide +kernel)⟩
theorem lw_p50 : lw_okq (⟨"ShadowTagModel", "putBack", "()V"⟩, 20) := ⟨⟨by decide +kernel, by decide +kernel⟩, List.mem_of_getElem? (i := 615) (by decide +kernel), List.mem_of_getElem? (i := 875) (by decide +kernel), List.mem_of_getElem? (i := 876) (by decide +kernel)⟩
theorem lw_p51 : lw_okq (⟨"ShadowTagModel", "dark", "(II)I"⟩, 20) := ⟨⟨by decide +kernel, by decide +kernel⟩, List.mem_of_getElem? (i := 615) (by decide +kernel), List.mem_of_getElem? (i := 887) (by decide +kernel), List.mem_of_getElem? (i := 888) (by decide +kernel)⟩
theorem lw_p52 : lw_okq (⟨"ShadowTagModel", "shadowsOn", "(III)I"⟩, 20) := ⟨⟨by decide +kernel, by decide +kernel⟩, List.mem_of_getElem? (i := 615) (by decide +kernel), List.mem_of_getElem? (i := 891) (by decide +kernel), List.mem_of_getElem? (i := 892) (by decide +kernel)⟩
theorem lw_p53 : lw_okq (⟨"ShadowTagModel", "hasShadow", "(I)Z"⟩, 20) := ⟨⟨by decide +kernel, by decide +kernel⟩, List.mem_of_getElem? (i := 615) (by decide +kernel), List.mem_of_getElem? (i := 919) (by decide +kernel), List.mem_of_getElem? (i := 920) (by decide +kernel)⟩
theorem lw_p54 : lw_okq (⟨"ShadowTagModel", "isSought", "(I)Z"⟩, 20) := ⟨⟨by decide +kernel, by decide +kernel⟩, List.mem_of_getElem? (i := 615) (by decide +kernel), List.mem_of_getElem? (i := 927) (by decide +kernel), List.mem_of_getElem? (i := 928) (by decide +kernel)⟩
theorem lw_p55 : lw_okq (⟨"ShadowTagModel", "way", "(I)I"⟩, 20) := ⟨⟨by decide +kernel, by decide +kernel⟩, List.mem_of_getElem? (i := 615) (by decide +kernel), List.mem_of_getElem? (i := 931) (by decide +kernel), List.mem_of_getElem? (i := 932) (by decide +kernel)⟩
theorem lw_p56 : lw_okq (⟨"ShadowTagModel", "withoutShadow", "()I"⟩, 20) := ⟨⟨by decide +kernel, by decide +kernel⟩, List.mem_of_getElem? (i := 615) (by decide +kernel), List.mem_of_getElem? (i := 947) (by decide +kernel), List.mem_of_getElem? (i := 948) (by decide +kernel)⟩
def lw_privs_4 : List (MethodName × Nat) := [(⟨"ShadowTagModel", "readsDirection", "()Z"⟩, 20), (⟨"ShadowTagModel", "doThing", "(I)I"⟩, 20), (⟨"ShadowTagModel", "putBack", "()V"⟩, 20), (⟨"ShadowTagModel", "dark", "(II)I"⟩, 20), (⟨"ShadowTagModel", "shadowsOn", "(III)I"⟩, 20), (⟨"ShadowTagModel", "hasShadow", "(I)Z"⟩, 20), (⟨"ShadowTagModel", "isSought", "(I)Z"⟩, 20), (⟨"ShadowTagModel", "way", "(I)I"⟩, 20), (⟨"ShadowTagModel", "withoutShadow", "()I"⟩, 20)]
theorem lw_r4 : ∀ q ∈ lw_privs_4, lw_okq q := List.forall_mem_cons.mpr ⟨lw_p48, List.forall_mem_cons.mpr ⟨lw_p49, List.forall_mem_cons.mpr ⟨lw_p50, List.forall_mem_cons.mpr ⟨lw_p51, List.forall_mem_cons.mpr ⟨lw_p52, List.forall_mem_cons.mpr ⟨lw_p53, List.forall_mem_cons.mpr ⟨lw_p54, List.forall_mem_cons.mpr ⟨lw_p55, List.forall_mem_cons.mpr ⟨lw_p56, fun _ h => absurd h List.not_mem_nil⟩⟩⟩⟩⟩⟩⟩⟩⟩
def lw_privs : List (MethodName × Nat) := lw_privs_1 ++ (lw_privs_2 ++ (lw_privs_3 ++ (lw_privs_4)))
def lw_tbl : List Cond := k2_sels lw_privs ++ tables_1
theorem lw_privs_ok : ∀ q ∈ lw_privs, lw_okq q := by
  show ∀ q ∈ lw_privs_1 ++ (lw_privs_2 ++ (lw_privs_3 ++ (lw_privs_4))), lw_okq q
  exact List.forall_mem_append.mpr ⟨lw_r1, List.forall_mem_append.mpr ⟨lw_r2, List.forall_mem_append.mpr ⟨lw_r3, lw_r4⟩⟩⟩
def RX0 : String := "ShadowTag$Board"
def TX0 : u_T := fun k => match k with
  | 0 => ("ShadowTag$Board", "dark", "[Z", true)
  | 1 => ("ShadowTag$Board", "barred", "[Z", true)
  | 2 => ("ShadowTag$Board", "steps", "[I", true)
  | 3 => ("ShadowTag$Board", "queue", "[I", true)
  | _ => ("ShadowTag$Board", "queued", "I", false)
def tyX0 : Nat → FieldType := fun k => match k with
  | 0 => .array .boolean
  | 1 => .array .boolean
  | 2 => .array .int
  | 3 => .array .int
  | _ => .int
abbrev wsX00 : List Cond := u_ws RX0 TX0 5
theorem nmX0 : ∀ a, a < 5 → ∀ b, b < 5 → a ≠ b → (TX0 a).2.1 ≠ (TX0 b).2.1 := by decide +kernel
theorem tyX0_ok : ∀ k, k < 5 → parseFieldDescriptor (TX0 k).2.2.1 = some (tyX0 k) := by decide +kernel
abbrev cX0_init : ByteArray := prog_2_method_1_code
def yX0_init : MethodName := ⟨RX0, "<init>", "()V"⟩
abbrev cX0_clear : ByteArray := prog_2_method_2_code
def yX0_clear : MethodName := ⟨RX0, "clear", "()V"⟩
abbrev cX0_darken : ByteArray := prog_2_method_3_code
def yX0_darken : MethodName := ⟨RX0, "darken", "(I)V"⟩
abbrev cX0_block : ByteArray := prog_2_method_4_code
def yX0_block : MethodName := ⟨RX0, "block", "(I)V"⟩
abbrev cX0_darkCells : ByteArray := prog_2_method_5_code
def yX0_darkCells : MethodName := ⟨RX0, "darkCells", "()I"⟩
abbrev cX0_stepsIntoTheDark : ByteArray := prog_2_method_6_code
def yX0_stepsIntoTheDark : MethodName := ⟨RX0, "stepsIntoTheDark", "(I)I"⟩
abbrev cX0_enter : ByteArray := prog_2_method_7_code
def yX0_enter : MethodName := ⟨RX0, "enter", "(II)V"⟩
def RX1 : String := "ShadowTag$Game"
def TX1 : u_T := fun k => match k with
  | 0 => ("ShadowTag$Game", "signs", "[C", true)
  | 1 => ("ShadowTag$Game", "length", "I", false)
  | 2 => ("ShadowTag$Game", "position", "I", false)
  | 3 => ("ShadowTag$Game", "kind", "[I", true)
  | 4 => ("ShadowTag$Game", "first", "[I", true)
  | 5 => ("ShadowTag$Game", "second", "[I", true)
  | _ => ("ShadowTag$Game", "things", "I", false)
def tyX1 : Nat → FieldType := fun k => match k with
  | 0 => .array .char
  | 1 => .int
  | 2 => .int
  | 3 => .array .int
  | 4 => .array .int
  | 5 => .array .int
  | _ => .int
abbrev wsX10 : List Cond := u_ws RX1 TX1 7
theorem nmX1 : ∀ a, a < 7 → ∀ b, b < 7 → a ≠ b → (TX1 a).2.1 ≠ (TX1 b).2.1 := by decide +kernel
theorem tyX1_ok : ∀ k, k < 7 → parseFieldDescriptor (TX1 k).2.2.1 = some (tyX1 k) := by decide +kernel
abbrev cX1_init : ByteArray := prog_3_method_1_code
def yX1_init : MethodName := ⟨RX1, "<init>", "()V"⟩
abbrev cX1_append : ByteArray := prog_3_method_2_code
def yX1_append : MethodName := ⟨RX1, "append", "(C)I"⟩
abbrev cX1_clear : ByteArray := prog_3_method_3_code
def yX1_clear : MethodName := ⟨RX1, "clear", "()I"⟩
abbrev cX1_read : ByteArray := prog_3_method_4_code
def yX1_read : MethodName := ⟨RX1, "read", "()I"⟩
abbrev cX1_readThing : ByteArray := prog_3_method_5_code
def yX1_readThing : MethodName := ⟨RX1, "readThing", "(I)Z"⟩
abbrev cX1_readNumber : ByteArray := prog_3_method_6_code
def yX1_readNumber : MethodName := ⟨RX1, "readNumber", "([IIII)Z"⟩
abbrev cX1_readDirection : ByteArray := prog_3_method_7_code
def yX1_readDirection : MethodName := ⟨RX1, "readDirection", "(I)Z"⟩
abbrev cX1_readOnOrOff : ByteArray := prog_3_method_8_code
def yX1_readOnOrOff : MethodName := ⟨RX1, "readOnOrOff", "(I)Z"⟩
abbrev cX1_readAs : ByteArray := prog_3_method_9_code
def yX1_readAs : MethodName := ⟨RX1, "readAs", "(I[II)Z"⟩
abbrev cX1_readSign : ByteArray := prog_3_method_10_code
def yX1_readSign : MethodName := ⟨RX1, "readSign", "(I)Z"⟩
abbrev cX1_nextDigit : ByteArray := prog_3_method_11_code
def yX1_nextDigit : MethodName := ⟨RX1, "nextDigit", "()I"⟩
abbrev cX1_nextSign : ByteArray := prog_3_method_12_code
def yX1_nextSign : MethodName := ⟨RX1, "nextSign", "()I"⟩
def RX2 : String := "ShadowTag$History"
def TX2 : u_T := fun k => match k with
  | 0 => ("ShadowTag$History", "ring", "[LShadowTag$Platform;", true)
  | 1 => ("ShadowTag$History", "oldest", "I", false)
  | _ => ("ShadowTag$History", "states", "I", false)
def tyX2 : Nat → FieldType := fun k => match k with
  | 0 => .array (.object "ShadowTag$Platform")
  | 1 => .int
  | _ => .int
abbrev wsX20 : List Cond := u_ws RX2 TX2 3
theorem nmX2 : ∀ a, a < 3 → ∀ b, b < 3 → a ≠ b → (TX2 a).2.1 ≠ (TX2 b).2.1 := by decide +kernel
theorem tyX2_ok : ∀ k, k < 3 → parseFieldDescriptor (TX2 k).2.2.1 = some (tyX2 k) := by decide +kernel
abbrev cX2_init : ByteArray := prog_4_method_1_code
def yX2_init : MethodName := ⟨RX2, "<init>", "()V"⟩
abbrev cX2_record : ByteArray := prog_4_method_2_code
def yX2_record : MethodName := ⟨RX2, "record", "(LShadowTag$Platform;)V"⟩
abbrev cX2_ringPlace : ByteArray := prog_4_method_3_code
def yX2_ringPlace : MethodName := ⟨RX2, "ringPlace", "(I)LShadowTag$Platform;"⟩
abbrev cX2_takeBack : ByteArray := prog_4_method_4_code
def yX2_takeBack : MethodName := ⟨RX2, "takeBack", "(LShadowTag$Platform;)Z"⟩
def RX3 : String := "ShadowTag$Lamps"
def TX3 : u_T := fun k => match k with
  | 0 => ("ShadowTag$Lamps", "side", "[I", true)
  | 1 => ("ShadowTag$Lamps", "reach", "[I", true)
  | 2 => ("ShadowTag$Lamps", "swing", "[I", true)
  | _ => ("ShadowTag$Lamps", "on", "[I", true)
def tyX3 : Nat → FieldType := fun k => match k with
  | 0 => .array .int
  | 1 => .array .int
  | 2 => .array .int
  | _ => .array .int
abbrev wsX30 : List Cond := u_ws RX3 TX3 4
theorem nmX3 : ∀ a, a < 4 → ∀ b, b < 4 → a ≠ b → (TX3 a).2.1 ≠ (TX3 b).2.1 := by decide +kernel
theorem tyX3_ok : ∀ k, k < 4 → parseFieldDescriptor (TX3 k).2.2.1 = some (tyX3 k) := by decide +kernel
abbrev cX3_init : ByteArray := prog_5_method_1_code
def yX3_init : MethodName := ⟨RX3, "<init>", "()V"⟩
abbrev cX3_copyFrom : ByteArray := prog_5_method_2_code
def yX3_copyFrom : MethodName := ⟨RX3, "copyFrom", "(LShadowTag$Lamps;)V"⟩
abbrev cX3_burning : ByteArray := prog_5_method_3_code
def yX3_burning : MethodName := ⟨RX3, "burning", "()I"⟩
abbrev cX3_switchTo : ByteArray := prog_5_method_4_code
def yX3_switchTo : MethodName := ⟨RX3, "switchTo", "(II)I"⟩
abbrev cX3_adjust : ByteArray := prog_5_method_5_code
def yX3_adjust : MethodName := ⟨RX3, "adjust", "(III)I"⟩
abbrev cX3_swingAtTurn : ByteArray := prog_5_method_6_code
def yX3_swingAtTurn : MethodName := ⟨RX3, "swingAtTurn", "(I)V"⟩
def RX4 : String := "ShadowTag$Platform"
def TX4 : u_T := fun k => match k with
  | 0 => ("ShadowTag$Platform", "runners", "LShadowTag$Runners;", true)
  | 1 => ("ShadowTag$Platform", "lamps", "LShadowTag$Lamps;", true)
  | 2 => ("ShadowTag$Platform", "settings", "[I", true)
  | 3 => ("ShadowTag$Platform", "turn", "I", false)
  | _ => ("ShadowTag$Platform", "spins", "I", false)
def tyX4 : Nat → FieldType := fun k => match k with
  | 0 => .object "ShadowTag$Runners"
  | 1 => .object "ShadowTag$Lamps"
  | 2 => .array .int
  | 3 => .int
  | _ => .int
abbrev wsX40 : List Cond := u_ws RX4 TX4 5
theorem nmX4 : ∀ a, a < 5 → ∀ b, b < 5 → a ≠ b → (TX4 a).2.1 ≠ (TX4 b).2.1 := by decide +kernel
theorem tyX4_ok : ∀ k, k < 5 → parseFieldDescriptor (TX4 k).2.2.1 = some (tyX4 k) := by decide +kernel
abbrev cX4_init : ByteArray := prog_6_method_1_code
def yX4_init : MethodName := ⟨RX4, "<init>", "()V"⟩
abbrev cX4_copyFrom : ByteArray := prog_6_method_2_code
def yX4_copyFrom : MethodName := ⟨RX4, "copyFrom", "(LShadowTag$Platform;)V"⟩
abbrev cX4_takeTurns : ByteArray := prog_6_method_3_code
def yX4_takeTurns : MethodName := ⟨RX4, "takeTurns", "(I)I"⟩
abbrev cX4_takeTurn : ByteArray := prog_6_method_4_code
def yX4_takeTurn : MethodName := ⟨RX4, "takeTurn", "()Z"⟩
abbrev cX4_firstCaught : ByteArray := prog_6_method_5_code
def yX4_firstCaught : MethodName := ⟨RX4, "firstCaught", "()I"⟩
abbrev cX4_catcherStandsInShadowOf : ByteArray := prog_6_method_6_code
def yX4_catcherStandsInShadowOf : MethodName := ⟨RX4, "catcherStandsInShadowOf", "(I)Z"⟩
abbrev cX4_isInShadow : ByteArray := prog_6_method_7_code
def yX4_isInShadow : MethodName := ⟨RX4, "isInShadow", "(III)Z"⟩
abbrev cX4_shadowLength : ByteArray := prog_6_method_8_code
def yX4_shadowLength : MethodName := ⟨RX4, "shadowLength", "(II)I"⟩
abbrev cX4_shadowEnd : ByteArray := prog_6_method_9_code
def yX4_shadowEnd : MethodName := ⟨RX4, "shadowEnd", "(II)I"⟩
abbrev cX4_hasShadow : ByteArray := prog_6_method_10_code
def yX4_hasShadow : MethodName := ⟨RX4, "hasShadow", "(I)Z"⟩
abbrev cX4_runnersWithoutShadow : ByteArray := prog_6_method_11_code
def yX4_runnersWithoutShadow : MethodName := ⟨RX4, "runnersWithoutShadow", "()I"⟩
abbrev cX4_shadowerOf : ByteArray := prog_6_method_12_code
def yX4_shadowerOf : MethodName := ⟨RX4, "shadowerOf", "(II)I"⟩
abbrev cX4_darkenShadowsOf : ByteArray := prog_6_method_13_code
def yX4_darkenShadowsOf : MethodName := ⟨RX4, "darkenShadowsOf", "(ILShadowTag$Board;)V"⟩
abbrev cX4_darkenShadow : ByteArray := prog_6_method_14_code
def yX4_darkenShadow : MethodName := ⟨RX4, "darkenShadow", "(IILShadowTag$Board;)V"⟩
def RX5 : String := "ShadowTag$Runners"
def TX5 : u_T := fun k => match k with
  | 0 => ("ShadowTag$Runners", "cell", "[I", true)
  | 1 => ("ShadowTag$Runners", "height", "[I", true)
  | 2 => ("ShadowTag$Runners", "direction", "[I", true)
  | 3 => ("ShadowTag$Runners", "respite", "[I", true)
  | 4 => ("ShadowTag$Runners", "tagged", "[I", true)
  | 5 => ("ShadowTag$Runners", "tagging", "[I", true)
  | 6 => ("ShadowTag$Runners", "account", "[I", true)
  | 7 => ("ShadowTag$Runners", "number", "I", false)
  | 8 => ("ShadowTag$Runners", "catcher", "I", false)
  | 9 => ("ShadowTag$Runners", "tags", "I", false)
  | 10 => ("ShadowTag$Runners", "steps", "I", false)
  | _ => ("ShadowTag$Runners", "stops", "I", false)
def tyX5 : Nat → FieldType := fun k => match k with
  | 0 => .array .int
  | 1 => .array .int
  | 2 => .array .int
  | 3 => .array .int
  | 4 => .array .int
  | 5 => .array .int
  | 6 => .array .int
  | 7 => .int
  | 8 => .int
  | 9 => .int
  | 10 => .int
  | _ => .int
abbrev wsX50 : List Cond := u_ws RX5 TX5 12
theorem nmX5 : ∀ a, a < 12 → ∀ b, b < 12 → a ≠ b → (TX5 a).2.1 ≠ (TX5 b).2.1 := by decide +kernel
theorem tyX5_ok : ∀ k, k < 12 → parseFieldDescriptor (TX5 k).2.2.1 = some (tyX5 k) := by decide +kernel
abbrev cX5_init : ByteArray := prog_7_method_1_code
def yX5_init : MethodName := ⟨RX5, "<init>", "()V"⟩
abbrev cX5_copyFrom : ByteArray := prog_7_method_2_code
def yX5_copyFrom : MethodName := ⟨RX5, "copyFrom", "(LShadowTag$Runners;)V"⟩
abbrev cX5_has : ByteArray := prog_7_method_3_code
def yX5_has : MethodName := ⟨RX5, "has", "(I)Z"⟩
abbrev cX5_standingOn : ByteArray := prog_7_method_4_code
def yX5_standingOn : MethodName := ⟨RX5, "standingOn", "(I)I"⟩
abbrev cX5_welcome : ByteArray := prog_7_method_5_code
def yX5_welcome : MethodName := ⟨RX5, "welcome", "(II)I"⟩
abbrev cX5_steer : ByteArray := prog_7_method_6_code
def yX5_steer : MethodName := ⟨RX5, "steer", "(II)I"⟩
abbrev cX5_stepAll : ByteArray := prog_7_method_7_code
def yX5_stepAll : MethodName := ⟨RX5, "stepAll", "()V"⟩
abbrev cX5_step : ByteArray := prog_7_method_8_code
def yX5_step : MethodName := ⟨RX5, "step", "(I)V"⟩
abbrev cX5_handOver : ByteArray := prog_7_method_9_code
def yX5_handOver : MethodName := ⟨RX5, "handOver", "(II)V"⟩
abbrev cX5_shortenRespites : ByteArray := prog_7_method_10_code
def yX5_shortenRespites : MethodName := ⟨RX5, "shortenRespites", "()V"⟩
abbrev cX5_addToAccounts : ByteArray := prog_7_method_11_code
def yX5_addToAccounts : MethodName := ⟨RX5, "addToAccounts", "()V"⟩
abbrev cX5_spin : ByteArray := prog_7_method_12_code
def yX5_spin : MethodName := ⟨RX5, "spin", "()V"⟩
def RX6 : String := "ShadowTag"
def TX6 : u_T := fun k => match k with
  | 0 => ("ShadowTag", "platform", "LShadowTag$Platform;", true)
  | 1 => ("ShadowTag", "trial", "LShadowTag$Platform;", true)
  | 2 => ("ShadowTag", "snapshot", "LShadowTag$Platform;", true)
  | 3 => ("ShadowTag", "history", "LShadowTag$History;", true)
  | 4 => ("ShadowTag", "game", "LShadowTag$Game;", true)
  | 5 => ("ShadowTag", "board", "LShadowTag$Board;", true)
  | 6 => ("ShadowTag", "hasSnapshot", "Z", false)
  | 7 => ("ShadowTag", "stopNumber", "I", false)
  | _ => ("ShadowTag", "stopError", "I", false)
def tyX6 : Nat → FieldType := fun k => match k with
  | 0 => .object "ShadowTag$Platform"
  | 1 => .object "ShadowTag$Platform"
  | 2 => .object "ShadowTag$Platform"
  | 3 => .object "ShadowTag$History"
  | 4 => .object "ShadowTag$Game"
  | 5 => .object "ShadowTag$Board"
  | 6 => .boolean
  | 7 => .int
  | _ => .int
abbrev wsX60 : List Cond := u_ws RX6 TX6 9
theorem nmX6 : ∀ a, a < 9 → ∀ b, b < 9 → a ≠ b → (TX6 a).2.1 ≠ (TX6 b).2.1 := by decide +kernel
theorem tyX6_ok : ∀ k, k < 9 → parseFieldDescriptor (TX6 k).2.2.1 = some (tyX6 k) := by decide +kernel
abbrev cX6_init : ByteArray := prog_1_method_1_code
def yX6_init : MethodName := ⟨RX6, "<init>", "()V"⟩
abbrev cX6_come : ByteArray := prog_1_method_2_code
def yX6_come : MethodName := ⟨RX6, "come", "(II)I"⟩
abbrev cX6_head : ByteArray := prog_1_method_3_code
def yX6_head : MethodName := ⟨RX6, "head", "(II)I"⟩
abbrev cX6_light : ByteArray := prog_1_method_4_code
def yX6_light : MethodName := ⟨RX6, "light", "(IZ)I"⟩
abbrev cX6_setLamp : ByteArray := prog_1_method_5_code
def yX6_setLamp : MethodName := ⟨RX6, "setLamp", "(III)I"⟩
abbrev cX6_set : ByteArray := prog_1_method_6_code
def yX6_set : MethodName := ⟨RX6, "set", "(II)I"⟩
abbrev cX6_pass : ByteArray := prog_1_method_7_code
def yX6_pass : MethodName := ⟨RX6, "pass", "(I)I"⟩
abbrev cX6_type : ByteArray := prog_1_method_8_code
def yX6_type : MethodName := ⟨RX6, "type", "(C)I"⟩
abbrev cX6_clearText : ByteArray := prog_1_method_9_code
def yX6_clearText : MethodName := ⟨RX6, "clearText", "()I"⟩
abbrev cX6_perform : ByteArray := prog_1_method_10_code
def yX6_perform : MethodName := ⟨RX6, "perform", "()I"⟩
abbrev cX6_stopped : ByteArray := prog_1_method_11_code
def yX6_stopped : MethodName := ⟨RX6, "stopped", "(I)I"⟩
abbrev cX6_undo : ByteArray := prog_1_method_12_code
def yX6_undo : MethodName := ⟨RX6, "undo", "()I"⟩
abbrev cX6_keep : ByteArray := prog_1_method_13_code
def yX6_keep : MethodName := ⟨RX6, "keep", "()I"⟩
abbrev cX6_restore : ByteArray := prog_1_method_14_code
def yX6_restore : MethodName := ⟨RX6, "restore", "()I"⟩
abbrev cX6_runner : ByteArray := prog_1_method_15_code
def yX6_runner : MethodName := ⟨RX6, "runner", "(II)I"⟩
abbrev cX6_lamp : ByteArray := prog_1_method_16_code
def yX6_lamp : MethodName := ⟨RX6, "lamp", "(II)I"⟩
abbrev cX6_shadow : ByteArray := prog_1_method_17_code
def yX6_shadow : MethodName := ⟨RX6, "shadow", "(III)I"⟩
abbrev cX6_darkness : ByteArray := prog_1_method_18_code
def yX6_darkness : MethodName := ⟨RX6, "darkness", "(I)I"⟩
abbrev cX6_looked : ByteArray := prog_1_method_19_code
def yX6_looked : MethodName := ⟨RX6, "looked", "(I)I"⟩
abbrev cX6_at : ByteArray := prog_1_method_20_code
def yX6_at : MethodName := ⟨RX6, "at", "(I)I"⟩
abbrev cX6_reason : ByteArray := prog_1_method_21_code
def yX6_reason : MethodName := ⟨RX6, "reason", "(I)I"⟩
abbrev cX6_stepsTo : ByteArray := prog_1_method_22_code
def yX6_stepsTo : MethodName := ⟨RX6, "stepsTo", "(I)I"⟩
abbrev cX6_safest : ByteArray := prog_1_method_23_code
def yX6_safest : MethodName := ⟨RX6, "safest", "()I"⟩
abbrev cX6_ifTurns : ByteArray := prog_1_method_24_code
def yX6_ifTurns : MethodName := ⟨RX6, "ifTurns", "(II)I"⟩
abbrev cX6_count : ByteArray := prog_1_method_25_code
def yX6_count : MethodName := ⟨RX6, "count", "(I)I"⟩
abbrev cX6_takeOver : ByteArray := prog_1_method_26_code
def yX6_takeOver : MethodName := ⟨RX6, "takeOver", "(I)I"⟩
abbrev cX6_tryThing : ByteArray := prog_1_method_27_code
def yX6_tryThing : MethodName := ⟨RX6, "tryThing", "(I)I"⟩
abbrev cX6_cellsInShadowsOf : ByteArray := prog_1_method_28_code
def yX6_cellsInShadowsOf : MethodName := ⟨RX6, "cellsInShadowsOf", "(I)I"⟩
abbrev cX6_cellsInShadowsBy : ByteArray := prog_1_method_29_code
def yX6_cellsInShadowsBy : MethodName := ⟨RX6, "cellsInShadowsBy", "(I)I"⟩
abbrev cX6_cellsInAnyShadow : ByteArray := prog_1_method_30_code
def yX6_cellsInAnyShadow : MethodName := ⟨RX6, "cellsInAnyShadow", "()I"⟩
abbrev cX6_stepsOrFarthest : ByteArray := prog_1_method_31_code
def yX6_stepsOrFarthest : MethodName := ⟨RX6, "stepsOrFarthest", "(I)I"⟩
abbrev cX6_isCell : ByteArray := prog_1_method_32_code
def yX6_isCell : MethodName := ⟨RX6, "isCell", "(I)Z"⟩
abbrev cX6_isLamp : ByteArray := prog_1_method_33_code
def yX6_isLamp : MethodName := ⟨RX6, "isLamp", "(I)Z"⟩
abbrev cX6_replace : ByteArray := prog_1_method_34_code
def yX6_replace : MethodName := ⟨RX6, "replace", "([IIIII)I"⟩
abbrev cX6_copyRow : ByteArray := prog_1_method_35_code
def yX6_copyRow : MethodName := ⟨RX6, "copyRow", "([I[I)V"⟩
abbrev cX6_opposite : ByteArray := prog_1_method_36_code
def yX6_opposite : MethodName := ⟨RX6, "opposite", "(I)I"⟩
abbrev cX6_cellsToEdge : ByteArray := prog_1_method_37_code
def yX6_cellsToEdge : MethodName := ⟨RX6, "cellsToEdge", "(II)I"⟩
abbrev cX6_cellAlong : ByteArray := prog_1_method_38_code
def yX6_cellAlong : MethodName := ⟨RX6, "cellAlong", "(III)I"⟩
abbrev cX6_distanceAlong : ByteArray := prog_1_method_39_code
def yX6_distanceAlong : MethodName := ⟨RX6, "distanceAlong", "(III)I"⟩
def RX7 : String := "ShadowTagModel"
def TX7 : u_T := fun k => match k with
  | 0 => ("ShadowTagModel", "row", "[I", true)
  | 1 => ("ShadowTagModel", "history", "[I", true)
  | 2 => ("ShadowTagModel", "states", "I", false)
  | 3 => ("ShadowTagModel", "snapshot", "[I", true)
  | 4 => ("ShadowTagModel", "isKept", "Z", false)
  | 5 => ("ShadowTagModel", "aside", "[I", true)
  | 6 => ("ShadowTagModel", "shade", "[I", true)
  | 7 => ("ShadowTagModel", "shadeMany", "I", false)
  | 8 => ("ShadowTagModel", "endsAt", "I", false)
  | 9 => ("ShadowTagModel", "text", "[I", true)
  | 10 => ("ShadowTagModel", "length", "I", false)
  | 11 => ("ShadowTagModel", "spot", "I", false)
  | 12 => ("ShadowTagModel", "number", "I", false)
  | 13 => ("ShadowTagModel", "things", "I", false)
  | 14 => ("ShadowTagModel", "sign", "[I", true)
  | 15 => ("ShadowTagModel", "one", "[I", true)
  | 16 => ("ShadowTagModel", "two", "[I", true)
  | 17 => ("ShadowTagModel", "stopThing", "I", false)
  | 18 => ("ShadowTagModel", "stopError", "I", false)
  | _ => ("ShadowTagModel", "far", "[I", true)
def tyX7 : Nat → FieldType := fun k => match k with
  | 0 => .array .int
  | 1 => .array .int
  | 2 => .int
  | 3 => .array .int
  | 4 => .boolean
  | 5 => .array .int
  | 6 => .array .int
  | 7 => .int
  | 8 => .int
  | 9 => .array .int
  | 10 => .int
  | 11 => .int
  | 12 => .int
  | 13 => .int
  | 14 => .array .int
  | 15 => .array .int
  | 16 => .array .int
  | 17 => .int
  | 18 => .int
  | _ => .array .int
abbrev wsX70 : List Cond := u_ws RX7 TX7 20
theorem nmX7 : ∀ a, a < 20 → ∀ b, b < 20 → a ≠ b → (TX7 a).2.1 ≠ (TX7 b).2.1 := by decide +kernel
theorem tyX7_ok : ∀ k, k < 20 → parseFieldDescriptor (TX7 k).2.2.1 = some (tyX7 k) := by decide +kernel
abbrev cX7_init : ByteArray := prog_9_method_1_code
def yX7_init : MethodName := ⟨RX7, "<init>", "()V"⟩
abbrev cX7_in : ByteArray := prog_9_method_2_code
def yX7_in : MethodName := ⟨RX7, "in", "(III)Z"⟩
abbrev cX7_isCell : ByteArray := prog_9_method_3_code
def yX7_isCell : MethodName := ⟨RX7, "isCell", "(I)Z"⟩
abbrev cX7_isRunner : ByteArray := prog_9_method_4_code
def yX7_isRunner : MethodName := ⟨RX7, "isRunner", "(I)Z"⟩
abbrev cX7_isLamp : ByteArray := prog_9_method_5_code
def yX7_isLamp : MethodName := ⟨RX7, "isLamp", "(I)Z"⟩
abbrev cX7_of : ByteArray := prog_9_method_6_code
def yX7_of : MethodName := ⟨RX7, "of", "(II)I"⟩
abbrev cX7_put : ByteArray := prog_9_method_7_code
def yX7_put : MethodName := ⟨RX7, "put", "(III)V"⟩
abbrev cX7_ofLamp : ByteArray := prog_9_method_8_code
def yX7_ofLamp : MethodName := ⟨RX7, "ofLamp", "(II)I"⟩
abbrev cX7_putLamp : ByteArray := prog_9_method_9_code
def yX7_putLamp : MethodName := ⟨RX7, "putLamp", "(III)V"⟩
abbrev cX7_putAside : ByteArray := prog_9_method_10_code
def yX7_putAside : MethodName := ⟨RX7, "putAside", "()V"⟩
abbrev cX7_putBack : ByteArray := prog_9_method_11_code
def yX7_putBack : MethodName := ⟨RX7, "putBack", "()V"⟩
abbrev cX7_record : ByteArray := prog_9_method_12_code
def yX7_record : MethodName := ⟨RX7, "record", "()V"⟩
abbrev cX7_acted : ByteArray := prog_9_method_13_code
def yX7_acted : MethodName := ⟨RX7, "acted", "(I)I"⟩
abbrev cX7_undo : ByteArray := prog_9_method_14_code
def yX7_undo : MethodName := ⟨RX7, "undo", "()I"⟩
abbrev cX7_keep : ByteArray := prog_9_method_15_code
def yX7_keep : MethodName := ⟨RX7, "keep", "()I"⟩
abbrev cX7_restore : ByteArray := prog_9_method_16_code
def yX7_restore : MethodName := ⟨RX7, "restore", "()I"⟩
abbrev cX7_next : ByteArray := prog_9_method_17_code
def yX7_next : MethodName := ⟨RX7, "next", "(II)I"⟩
abbrev cX7_runnerAt : ByteArray := prog_9_method_18_code
def yX7_runnerAt : MethodName := ⟨RX7, "runnerAt", "(I)I"⟩
abbrev cX7_follow : ByteArray := prog_9_method_19_code
def yX7_follow : MethodName := ⟨RX7, "follow", "(II)V"⟩
abbrev cX7_isShaded : ByteArray := prog_9_method_20_code
def yX7_isShaded : MethodName := ⟨RX7, "isShaded", "(III)Z"⟩
abbrev cX7_isInShadowOf : ByteArray := prog_9_method_21_code
def yX7_isInShadowOf : MethodName := ⟨RX7, "isInShadowOf", "(II)Z"⟩
abbrev cX7_hasShadow : ByteArray := prog_9_method_22_code
def yX7_hasShadow : MethodName := ⟨RX7, "hasShadow", "(I)Z"⟩
abbrev cX7_go : ByteArray := prog_9_method_23_code
def yX7_go : MethodName := ⟨RX7, "go", "(I)V"⟩
abbrev cX7_tagNow : ByteArray := prog_9_method_24_code
def yX7_tagNow : MethodName := ⟨RX7, "tagNow", "()I"⟩
abbrev cX7_tag : ByteArray := prog_9_method_25_code
def yX7_tag : MethodName := ⟨RX7, "tag", "(I)V"⟩
abbrev cX7_turnPlatform : ByteArray := prog_9_method_26_code
def yX7_turnPlatform : MethodName := ⟨RX7, "turnPlatform", "()V"⟩
abbrev cX7_turn : ByteArray := prog_9_method_27_code
def yX7_turn : MethodName := ⟨RX7, "turn", "()V"⟩
abbrev cX7_comeNow : ByteArray := prog_9_method_28_code
def yX7_comeNow : MethodName := ⟨RX7, "comeNow", "(II)I"⟩
abbrev cX7_headNow : ByteArray := prog_9_method_29_code
def yX7_headNow : MethodName := ⟨RX7, "headNow", "(II)I"⟩
abbrev cX7_lampsOn : ByteArray := prog_9_method_30_code
def yX7_lampsOn : MethodName := ⟨RX7, "lampsOn", "()I"⟩
abbrev cX7_lightNow : ByteArray := prog_9_method_31_code
def yX7_lightNow : MethodName := ⟨RX7, "lightNow", "(II)I"⟩
abbrev cX7_setLampNow : ByteArray := prog_9_method_32_code
def yX7_setLampNow : MethodName := ⟨RX7, "setLampNow", "(III)I"⟩
abbrev cX7_setNow : ByteArray := prog_9_method_33_code
def yX7_setNow : MethodName := ⟨RX7, "setNow", "(II)I"⟩
abbrev cX7_passNow : ByteArray := prog_9_method_34_code
def yX7_passNow : MethodName := ⟨RX7, "passNow", "(I)I"⟩
abbrev cX7_come : ByteArray := prog_9_method_35_code
def yX7_come : MethodName := ⟨RX7, "come", "(II)I"⟩
abbrev cX7_head : ByteArray := prog_9_method_36_code
def yX7_head : MethodName := ⟨RX7, "head", "(II)I"⟩
abbrev cX7_light : ByteArray := prog_9_method_37_code
def yX7_light : MethodName := ⟨RX7, "light", "(IZ)I"⟩
abbrev cX7_setLamp : ByteArray := prog_9_method_38_code
def yX7_setLamp : MethodName := ⟨RX7, "setLamp", "(III)I"⟩
abbrev cX7_set : ByteArray := prog_9_method_39_code
def yX7_set : MethodName := ⟨RX7, "set", "(II)I"⟩
abbrev cX7_pass : ByteArray := prog_9_method_40_code
def yX7_pass : MethodName := ⟨RX7, "pass", "(I)I"⟩
abbrev cX7_type : ByteArray := prog_9_method_41_code
def yX7_type : MethodName := ⟨RX7, "type", "(C)I"⟩
abbrev cX7_clearText : ByteArray := prog_9_method_42_code
def yX7_clearText : MethodName := ⟨RX7, "clearText", "()I"⟩
abbrev cX7_code : ByteArray := prog_9_method_43_code
def yX7_code : MethodName := ⟨RX7, "code", "()I"⟩
abbrev cX7_takes : ByteArray := prog_9_method_44_code
def yX7_takes : MethodName := ⟨RX7, "takes", "(I)Z"⟩
abbrev cX7_isDigit : ByteArray := prog_9_method_45_code
def yX7_isDigit : MethodName := ⟨RX7, "isDigit", "()Z"⟩
abbrev cX7_reads : ByteArray := prog_9_method_46_code
def yX7_reads : MethodName := ⟨RX7, "reads", "(II)Z"⟩
abbrev cX7_readsDirection : ByteArray := prog_9_method_47_code
def yX7_readsDirection : MethodName := ⟨RX7, "readsDirection", "()Z"⟩
abbrev cX7_readsRest : ByteArray := prog_9_method_48_code
def yX7_readsRest : MethodName := ⟨RX7, "readsRest", "(I)Z"⟩
abbrev cX7_readsThing : ByteArray := prog_9_method_49_code
def yX7_readsThing : MethodName := ⟨RX7, "readsThing", "()Z"⟩
abbrev cX7_faultNow : ByteArray := prog_9_method_50_code
def yX7_faultNow : MethodName := ⟨RX7, "faultNow", "()I"⟩
abbrev cX7_doThing : ByteArray := prog_9_method_51_code
def yX7_doThing : MethodName := ⟨RX7, "doThing", "(I)I"⟩
abbrev cX7_perform : ByteArray := prog_9_method_52_code
def yX7_perform : MethodName := ⟨RX7, "perform", "()I"⟩
abbrev cX7_stopped : ByteArray := prog_9_method_53_code
def yX7_stopped : MethodName := ⟨RX7, "stopped", "(I)I"⟩
abbrev cX7_shadowsOn : ByteArray := prog_9_method_54_code
def yX7_shadowsOn : MethodName := ⟨RX7, "shadowsOn", "(III)I"⟩
abbrev cX7_dark : ByteArray := prog_9_method_55_code
def yX7_dark : MethodName := ⟨RX7, "dark", "(II)I"⟩
abbrev cX7_runner : ByteArray := prog_9_method_56_code
def yX7_runner : MethodName := ⟨RX7, "runner", "(II)I"⟩
abbrev cX7_lamp : ByteArray := prog_9_method_57_code
def yX7_lamp : MethodName := ⟨RX7, "lamp", "(II)I"⟩
abbrev cX7_shadow : ByteArray := prog_9_method_58_code
def yX7_shadow : MethodName := ⟨RX7, "shadow", "(III)I"⟩
abbrev cX7_darkness : ByteArray := prog_9_method_59_code
def yX7_darkness : MethodName := ⟨RX7, "darkness", "(I)I"⟩
abbrev cX7_looked : ByteArray := prog_9_method_60_code
def yX7_looked : MethodName := ⟨RX7, "looked", "(I)I"⟩
abbrev cX7_at : ByteArray := prog_9_method_61_code
def yX7_at : MethodName := ⟨RX7, "at", "(I)I"⟩
abbrev cX7_reason : ByteArray := prog_9_method_62_code
def yX7_reason : MethodName := ⟨RX7, "reason", "(I)I"⟩
abbrev cX7_way : ByteArray := prog_9_method_63_code
def yX7_way : MethodName := ⟨RX7, "way", "(I)I"⟩
abbrev cX7_isSought : ByteArray := prog_9_method_64_code
def yX7_isSought : MethodName := ⟨RX7, "isSought", "(I)Z"⟩
abbrev cX7_stepsTo : ByteArray := prog_9_method_65_code
def yX7_stepsTo : MethodName := ⟨RX7, "stepsTo", "(I)I"⟩
abbrev cX7_safest : ByteArray := prog_9_method_66_code
def yX7_safest : MethodName := ⟨RX7, "safest", "()I"⟩
abbrev cX7_ifTurns : ByteArray := prog_9_method_67_code
def yX7_ifTurns : MethodName := ⟨RX7, "ifTurns", "(II)I"⟩
abbrev cX7_withoutShadow : ByteArray := prog_9_method_68_code
def yX7_withoutShadow : MethodName := ⟨RX7, "withoutShadow", "()I"⟩
abbrev cX7_count : ByteArray := prog_9_method_69_code
def yX7_count : MethodName := ⟨RX7, "count", "(I)I"⟩
def RJ9 : String := "java/lang/Math"
def TJ9 : u_T := fun k => match k with
  | _ => ("", "", "", false)
def tyJ9 : Nat → FieldType := fun k => match k with
  | _ => .int
abbrev cJ9_min_7cf53 : ByteArray := prog_10_method_69_code
def yJ9_min_7cf53 : MethodName := ⟨RJ9, "min", "(II)I"⟩
def RJ10 : String := "java/lang/System"
def TJ10 : u_T := fun k => match k with
  | _ => ("", "", "", false)
def tyJ10 : Nat → FieldType := fun k => match k with
  | _ => .int
def RL : String := "ShadowTagLaw"
abbrev cL_law : ByteArray := code
def yL_law : MethodName := ⟨RL, "law", "([I)Z"⟩
abbrev vwCl : List vw_C := [(RX0, TX0, 5), (RX1, TX1, 7), (RX2, TX2, 3), (RX3, TX3, 4), (RX4, TX4, 5), (RX5, TX5, 12), (RX6, TX6, 9), (RX7, TX7, 20)]
