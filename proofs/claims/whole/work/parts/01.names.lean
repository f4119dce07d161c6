-- ===== PART A: goes FIRST, ahead of the names: the tables' words, and 'selects' of the private methods out of them =====
/-- a private method of a class that the tables say can be made, by its rows of tables_1 -/
def lw_okq (q : MethodName × Nat) : Prop := (q.1.cls ≠ "java/lang/invoke/MethodHandle" ∧ q.1.cls ≠ "java/lang/invoke/VarHandle") ∧ Cond.instantiable q.1.cls q.2 ∈ tables_1 ∧ Cond.privateMethod q.1 ∈ tables_1 ∧ Cond.instanceMethod q.1 ∈ tables_1
theorem lw_p0 : lw_okq (⟨"WeatherHand$Reader", "skipBlanks", "()V"⟩, 5) := ⟨⟨by decide +kernel, by decide +kernel⟩, List.mem_of_getElem? (i := 22) (by decide +kernel), List.mem_of_getElem? (i := 307) (by decide +kernel), List.mem_of_getElem? (i := 308) (by decide +kernel)⟩
theorem lw_p1 : lw_okq (⟨"WeatherHand$Reader", "current", "()I"⟩, 5) := ⟨⟨by decide +kernel, by decide +kernel⟩, List.mem_of_getElem? (i := 22) (by decide +kernel), List.mem_of_getElem? (i := 311) (by decide +kernel), List.mem_of_getElem? (i := 312) (by decide +kernel)⟩
theorem lw_p2 : lw_okq (⟨"WeatherHand$Reader", "readClause", "(LWeatherHand$Valley;)V"⟩, 5) := ⟨⟨by decide +kernel, by decide +kernel⟩, List.mem_of_getElem? (i := 22) (by decide +kernel), List.mem_of_getElem? (i := 315) (by decide +kernel), List.mem_of_getElem? (i := 316) (by decide +kernel)⟩
theorem lw_p3 : lw_okq (⟨"WeatherHand$Reader", "fail", "(II)V"⟩, 5) := ⟨⟨by decide +kernel, by decide +kernel⟩, List.mem_of_getElem? (i := 22) (by decide +kernel), List.mem_of_getElem? (i := 322) (by decide +kernel), List.mem_of_getElem? (i := 323) (by decide +kernel)⟩
theorem lw_p4 : lw_okq (⟨"WeatherHand$Reader", "readWeather", "(LWeatherHand$Valley;)V"⟩, 5) := ⟨⟨by decide +kernel, by decide +kernel⟩, List.mem_of_getElem? (i := 22) (by decide +kernel), List.mem_of_getElem? (i := 329) (by decide +kernel), List.mem_of_getElem? (i := 330) (by decide +kernel)⟩
theorem lw_p5 : lw_okq (⟨"WeatherHand$Reader", "readNumber", "(II)I"⟩, 5) := ⟨⟨by decide +kernel, by decide +kernel⟩, List.mem_of_getElem? (i := 22) (by decide +kernel), List.mem_of_getElem? (i := 333) (by decide +kernel), List.mem_of_getElem? (i := 334) (by decide +kernel)⟩
theorem lw_p6 : lw_okq (⟨"WeatherHand$Reader", "readRains", "(LWeatherHand$Valley;)V"⟩, 5) := ⟨⟨by decide +kernel, by decide +kernel⟩, List.mem_of_getElem? (i := 22) (by decide +kernel), List.mem_of_getElem? (i := 340) (by decide +kernel), List.mem_of_getElem? (i := 341) (by decide +kernel)⟩
theorem lw_p7 : lw_okq (⟨"WeatherHand$Reader", "takeIf", "(I)Z"⟩, 5) := ⟨⟨by decide +kernel, by decide +kernel⟩, List.mem_of_getElem? (i := 22) (by decide +kernel), List.mem_of_getElem? (i := 344) (by decide +kernel), List.mem_of_getElem? (i := 345) (by decide +kernel)⟩
theorem lw_p8 : lw_okq (⟨"WeatherHand$Reader", "readHand", "(LWeatherHand$Valley;)V"⟩, 5) := ⟨⟨by decide +kernel, by decide +kernel⟩, List.mem_of_getElem? (i := 22) (by decide +kernel), List.mem_of_getElem? (i := 348) (by decide +kernel), List.mem_of_getElem? (i := 349) (by decide +kernel)⟩
theorem lw_p9 : lw_okq (⟨"WeatherHand$Reader", "readPaper", "(LWeatherHand$Valley;)V"⟩, 5) := ⟨⟨by decide +kernel, by decide +kernel⟩, List.mem_of_getElem? (i := 22) (by decide +kernel), List.mem_of_getElem? (i := 352) (by decide +kernel), List.mem_of_getElem? (i := 353) (by decide +kernel)⟩
theorem lw_p10 : lw_okq (⟨"WeatherHand$Archive", "beginPaper", "(IIII)V"⟩, 7) := ⟨⟨by decide +kernel, by decide +kernel⟩, List.mem_of_getElem? (i := 47) (by decide +kernel), List.mem_of_getElem? (i := 398) (by decide +kernel), List.mem_of_getElem? (i := 399) (by decide +kernel)⟩
theorem lw_p11 : lw_okq (⟨"WeatherHand", "dropMeasures", "()I"⟩, 12) := ⟨⟨by decide +kernel, by decide +kernel⟩, List.mem_of_getElem? (i := 14) (by decide +kernel), List.mem_of_getElem? (i := 410) (by decide +kernel), List.mem_of_getElem? (i := 411) (by decide +kernel)⟩
theorem lw_p12 : lw_okq (⟨"WeatherHand", "ofAllLetters", "(II)I"⟩, 12) := ⟨⟨by decide +kernel, by decide +kernel⟩, List.mem_of_getElem? (i := 14) (by decide +kernel), List.mem_of_getElem? (i := 455) (by decide +kernel), List.mem_of_getElem? (i := 456) (by decide +kernel)⟩
theorem lw_p13 : lw_okq (⟨"WeatherHand", "isMeasured", "(II)Z"⟩, 12) := ⟨⟨by decide +kernel, by decide +kernel⟩, List.mem_of_getElem? (i := 14) (by decide +kernel), List.mem_of_getElem? (i := 498) (by decide +kernel), List.mem_of_getElem? (i := 499) (by decide +kernel)⟩
theorem lw_p14 : lw_okq (⟨"WeatherHand", "append", "(IIII)V"⟩, 12) := ⟨⟨by decide +kernel, by decide +kernel⟩, List.mem_of_getElem? (i := 14) (by decide +kernel), List.mem_of_getElem? (i := 512) (by decide +kernel), List.mem_of_getElem? (i := 513) (by decide +kernel)⟩
theorem lw_p15 : lw_okq (⟨"WeatherHand$Deeds", "begin", "(I)V"⟩, 7) := ⟨⟨by decide +kernel, by decide +kernel⟩, List.mem_of_getElem? (i := 78) (by decide +kernel), List.mem_of_getElem? (i := 521) (by decide +kernel), List.mem_of_getElem? (i := 522) (by decide +kernel)⟩
def lw_privs_1 : List (MethodName × Nat) := [(⟨"WeatherHand$Reader", "skipBlanks", "()V"⟩, 5), (⟨"WeatherHand$Reader", "current", "()I"⟩, 5), (⟨"WeatherHand$Reader", "readClause", "(LWeatherHand$Valley;)V"⟩, 5), (⟨"WeatherHand$Reader", "fail", "(II)V"⟩, 5), (⟨"WeatherHand$Reader", "readWeather", "(LWeatherHand$Valley;)V"⟩, 5), (⟨"WeatherHand$Reader", "readNumber", "(II)I"⟩, 5), (⟨"WeatherHand$Reader", "readRains", "(LWeatherHand$Valley;)V"⟩, 5), (⟨"WeatherHand$Reader", "takeIf", "(I)Z"⟩, 5), (⟨"WeatherHand$Reader", "readHand", "(LWeatherHand$Valley;)V"⟩, 5), (⟨"WeatherHand$Reader", "readPaper", "(LWeatherHand$Valley;)V"⟩, 5), (⟨"WeatherHand$Archive", "beginPaper", "(IIII)V"⟩, 7), (⟨"WeatherHand", "dropMeasures", "()I"⟩, 12), (⟨"WeatherHand", "ofAllLetters", "(II)I"⟩, 12), (⟨"WeatherHand", "isMeasured", "(II)Z"⟩, 12), (⟨"WeatherHand", "append", "(IIII)V"⟩, 12), (⟨"WeatherHand$Deeds", "begin", "(I)V"⟩, 7)]
theorem lw_r1 : ∀ q ∈ lw_privs_1, lw_okq q := List.forall_mem_cons.mpr ⟨lw_p0, List.forall_mem_cons.mpr ⟨lw_p1, List.forall_mem_cons.mpr ⟨lw_p2, List.forall_mem_cons.mpr ⟨lw_p3, List.forall_mem_cons.mpr ⟨lw_p4, List.forall_mem_cons.mpr ⟨lw_p5, List.forall_mem_cons.mpr ⟨lw_p6, List.forall_mem_cons.mpr ⟨lw_p7, List.forall_mem_cons.mpr ⟨lw_p8, List.forall_mem_cons.mpr ⟨lw_p9, List.forall_mem_cons.mpr ⟨lw_p10, List.forall_mem_cons.mpr ⟨lw_p11, List.forall_mem_cons.mpr ⟨lw_p12, List.forall_mem_cons.mpr ⟨lw_p13, List.forall_mem_cons.mpr ⟨lw_p14, List.forall_mem_cons.mpr ⟨lw_p15, fun _ h => absurd h List.not_mem_nil⟩⟩⟩⟩⟩⟩⟩⟩⟩⟩⟩⟩⟩⟩⟩⟩
theorem lw_p16 : lw_okq (⟨"WeatherHand$Beginnings", "greatestPart", "(LWeatherHand$Valley;I)I"⟩, 5) := ⟨⟨by decide +kernel, by decide +kernel⟩, List.mem_of_getElem? (i := 127) (by decide +kernel), List.mem_of_getElem? (i := 633) (by decide +kernel), List.mem_of_getElem? (i := 634) (by decide +kernel)⟩
theorem lw_p17 : lw_okq (⟨"WeatherHand$Finding", "likenessOf", "(III)I"⟩, 3) := ⟨⟨by decide +kernel, by decide +kernel⟩, List.mem_of_getElem? (i := 150) (by decide +kernel), List.mem_of_getElem? (i := 675) (by decide +kernel), List.mem_of_getElem? (i := 676) (by decide +kernel)⟩
theorem lw_p18 : lw_okq (⟨"WeatherHand", "imageOf", "(I)LWeatherHand$Archive;"⟩, 12) := ⟨⟨by decide +kernel, by decide +kernel⟩, List.mem_of_getElem? (i := 14) (by decide +kernel), List.mem_of_getElem? (i := 743) (by decide +kernel), List.mem_of_getElem? (i := 744) (by decide +kernel)⟩
theorem lw_p19 : lw_okq (⟨"WeatherHandModel", "here", "()I"⟩, 33) := ⟨⟨by decide +kernel, by decide +kernel⟩, List.mem_of_getElem? (i := 758) (by decide +kernel), List.mem_of_getElem? (i := 879) (by decide +kernel), List.mem_of_getElem? (i := 880) (by decide +kernel)⟩
theorem lw_p20 : lw_okq (⟨"WeatherHandModel", "takeClause", "()V"⟩, 33) := ⟨⟨by decide +kernel, by decide +kernel⟩, List.mem_of_getElem? (i := 758) (by decide +kernel), List.mem_of_getElem? (i := 883) (by decide +kernel), List.mem_of_getElem? (i := 884) (by decide +kernel)⟩
theorem lw_p21 : lw_okq (⟨"WeatherHandModel", "want", "(ZII)Z"⟩, 33) := ⟨⟨by decide +kernel, by decide +kernel⟩, List.mem_of_getElem? (i := 758) (by decide +kernel), List.mem_of_getElem? (i := 887) (by decide +kernel), List.mem_of_getElem? (i := 888) (by decide +kernel)⟩
theorem lw_p22 : lw_okq (⟨"WeatherHandModel", "takeValley", "(I)V"⟩, 33) := ⟨⟨by decide +kernel, by decide +kernel⟩, List.mem_of_getElem? (i := 758) (by decide +kernel), List.mem_of_getElem? (i := 891) (by decide +kernel), List.mem_of_getElem? (i := 892) (by decide +kernel)⟩
theorem lw_p23 : lw_okq (⟨"WeatherHandModel", "takeIn", "(II)I"⟩, 33) := ⟨⟨by decide +kernel, by decide +kernel⟩, List.mem_of_getElem? (i := 758) (by decide +kernel), List.mem_of_getElem? (i := 895) (by decide +kernel), List.mem_of_getElem? (i := 896) (by decide +kernel)⟩
theorem lw_p24 : lw_okq (⟨"WeatherHandModel", "takeNumber", "()I"⟩, 33) := ⟨⟨by decide +kernel, by decide +kernel⟩, List.mem_of_getElem? (i := 758) (by decide +kernel), List.mem_of_getElem? (i := 899) (by decide +kernel), List.mem_of_getElem? (i := 900) (by decide +kernel)⟩
theorem lw_p25 : lw_okq (⟨"WeatherHandModel", "takeRains", "(I)V"⟩, 33) := ⟨⟨by decide +kernel, by decide +kernel⟩, List.mem_of_getElem? (i := 758) (by decide +kernel), List.mem_of_getElem? (i := 906) (by decide +kernel), List.mem_of_getElem? (i := 907) (by decide +kernel)⟩
theorem lw_p26 : lw_okq (⟨"WeatherHandModel", "takeHand", "(I)V"⟩, 33) := ⟨⟨by decide +kernel, by decide +kernel⟩, List.mem_of_getElem? (i := 758) (by decide +kernel), List.mem_of_getElem? (i := 910) (by decide +kernel), List.mem_of_getElem? (i := 911) (by decide +kernel)⟩
theorem lw_p27 : lw_okq (⟨"WeatherHandModel", "takePaper", "(I)V"⟩, 33) := ⟨⟨by decide +kernel, by decide +kernel⟩, List.mem_of_getElem? (i := 758) (by decide +kernel), List.mem_of_getElem? (i := 914) (by decide +kernel), List.mem_of_getElem? (i := 915) (by decide +kernel)⟩
theorem lw_p28 : lw_okq (⟨"WeatherHandModel", "take", "()V"⟩, 33) := ⟨⟨by decide +kernel, by decide +kernel⟩, List.mem_of_getElem? (i := 758) (by decide +kernel), List.mem_of_getElem? (i := 918) (by decide +kernel), List.mem_of_getElem? (i := 919) (by decide +kernel)⟩
theorem lw_p29 : lw_okq (⟨"WeatherHandModel", "takeHands", "()V"⟩, 33) := ⟨⟨by decide +kernel, by decide +kernel⟩, List.mem_of_getElem? (i := 758) (by decide +kernel), List.mem_of_getElem? (i := 922) (by decide +kernel), List.mem_of_getElem? (i := 923) (by decide +kernel)⟩
theorem lw_p30 : lw_okq (⟨"WeatherHandModel", "put", "(IIII)V"⟩, 33) := ⟨⟨by decide +kernel, by decide +kernel⟩, List.mem_of_getElem? (i := 758) (by decide +kernel), List.mem_of_getElem? (i := 926) (by decide +kernel), List.mem_of_getElem? (i := 927) (by decide +kernel)⟩
theorem lw_p31 : lw_okq (⟨"WeatherHandModel", "allLetters", "()I"⟩, 33) := ⟨⟨by decide +kernel, by decide +kernel⟩, List.mem_of_getElem? (i := 758) (by decide +kernel), List.mem_of_getElem? (i := 941) (by decide +kernel), List.mem_of_getElem? (i := 942) (by decide +kernel)⟩
def lw_privs_2 : List (MethodName × Nat) := [(⟨"WeatherHand$Beginnings", "greatestPart", "(LWeatherHand$Valley;I)I"⟩, 5), (⟨"WeatherHand$Finding", "likenessOf", "(III)I"⟩, 3), (⟨"WeatherHand", "imageOf", "(I)LWeatherHand$Archive;"⟩, 12), (⟨"WeatherHandModel", "here", "()I"⟩, 33), (⟨"WeatherHandModel", "takeClause", "()V"⟩, 33), (⟨"WeatherHandModel", "want", "(ZII)Z"⟩, 33), (⟨"WeatherHandModel", "takeValley", "(I)V"⟩, 33), (⟨"WeatherHandModel", "takeIn", "(II)I"⟩, 33), (⟨"WeatherHandModel", "takeNumber", "()I"⟩, 33), (⟨"WeatherHandModel", "takeRains", "(I)V"⟩, 33), (⟨"WeatherHandModel", "takeHand", "(I)V"⟩, 33), (⟨"WeatherHandModel", "takePaper", "(I)V"⟩, 33), (⟨"WeatherHandModel", "take", "()V"⟩, 33), (⟨"WeatherHandModel", "takeHands", "()V"⟩, 33), (⟨"WeatherHandModel", "put", "(IIII)V"⟩, 33), (⟨"WeatherHandModel", "allLetters", "()I"⟩, 33)]
theorem lw_r2 : ∀ q ∈ lw_privs_2, lw_okq q := List.forall_mem_cons.mpr ⟨lw_p16, List.forall_mem_cons.mpr ⟨lw_p17, List.forall_mem_cons.mpr ⟨lw_p18, List.forall_mem_cons.mpr ⟨lw_p19, List.forall_mem_cons.mpr ⟨lw_p20, List.forall_mem_cons.mpr ⟨lw_p21, List.forall_mem_cons.mpr ⟨lw_p22, List.forall_mem_cons.mpr ⟨lw_p23, List.forall_mem_cons.mpr ⟨lw_p24, List.forall_mem_cons.mpr ⟨lw_p25, List.forall_mem_cons.mpr ⟨lw_p26, List.forall_mem_cons.mpr ⟨lw_p27, List.forall_mem_cons.mpr ⟨lw_p28, List.forall_mem_cons.mpr ⟨lw_p29, List.forall_mem_cons.mpr ⟨lw_p30, List.forall_mem_cons.mpr ⟨lw_p31, fun _ h => absurd h List.not_mem_nil⟩⟩⟩⟩⟩⟩⟩⟩⟩⟩⟩⟩⟩⟩⟩⟩
theorem lw_p32 : lw_okq (⟨"WeatherHandModel", "rainOf", "(I)I"⟩, 33) := ⟨⟨by decide +kernel, by decide +kernel⟩, List.mem_of_getElem? (i := 758) (by decide +kernel), List.mem_of_getElem? (i := 955) (by decide +kernel), List.mem_of_getElem? (i := 956) (by decide +kernel)⟩
theorem lw_p33 : lw_okq (⟨"WeatherHandModel", "dampBy", "(II)I"⟩, 33) := ⟨⟨by decide +kernel, by decide +kernel⟩, List.mem_of_getElem? (i := 758) (by decide +kernel), List.mem_of_getElem? (i := 959) (by decide +kernel), List.mem_of_getElem? (i := 960) (by decide +kernel)⟩
theorem lw_p34 : lw_okq (⟨"WeatherHandModel", "lightAt", "(I)I"⟩, 33) := ⟨⟨by decide +kernel, by decide +kernel⟩, List.mem_of_getElem? (i := 758) (by decide +kernel), List.mem_of_getElem? (i := 963) (by decide +kernel), List.mem_of_getElem? (i := 964) (by decide +kernel)⟩
theorem lw_p35 : lw_okq (⟨"WeatherHandModel", "isHand", "(I)Z"⟩, 33) := ⟨⟨by decide +kernel, by decide +kernel⟩, List.mem_of_getElem? (i := 758) (by decide +kernel), List.mem_of_getElem? (i := 971) (by decide +kernel), List.mem_of_getElem? (i := 972) (by decide +kernel)⟩
theorem lw_p36 : lw_okq (⟨"WeatherHandModel", "isPaper", "(I)Z"⟩, 33) := ⟨⟨by decide +kernel, by decide +kernel⟩, List.mem_of_getElem? (i := 758) (by decide +kernel), List.mem_of_getElem? (i := 980) (by decide +kernel), List.mem_of_getElem? (i := 981) (by decide +kernel)⟩
theorem lw_p37 : lw_okq (⟨"WeatherHandModel", "isLetter", "(II)Z"⟩, 33) := ⟨⟨by decide +kernel, by decide +kernel⟩, List.mem_of_getElem? (i := 758) (by decide +kernel), List.mem_of_getElem? (i := 984) (by decide +kernel), List.mem_of_getElem? (i := 985) (by decide +kernel)⟩
theorem lw_p38 : lw_okq (⟨"WeatherHandModel", "forgedIn", "(I)I"⟩, 33) := ⟨⟨by decide +kernel, by decide +kernel⟩, List.mem_of_getElem? (i := 758) (by decide +kernel), List.mem_of_getElem? (i := 988) (by decide +kernel), List.mem_of_getElem? (i := 989) (by decide +kernel)⟩
theorem lw_p39 : lw_okq (⟨"WeatherHandModel", "airOf", "(II)I"⟩, 33) := ⟨⟨by decide +kernel, by decide +kernel⟩, List.mem_of_getElem? (i := 758) (by decide +kernel), List.mem_of_getElem? (i := 992) (by decide +kernel), List.mem_of_getElem? (i := 993) (by decide +kernel)⟩
theorem lw_p40 : lw_okq (⟨"WeatherHandModel", "lookOf", "(II)I"⟩, 33) := ⟨⟨by decide +kernel, by decide +kernel⟩, List.mem_of_getElem? (i := 758) (by decide +kernel), List.mem_of_getElem? (i := 996) (by decide +kernel), List.mem_of_getElem? (i := 997) (by decide +kernel)⟩
theorem lw_p41 : lw_okq (⟨"WeatherHandModel", "handOf", "(II)I"⟩, 33) := ⟨⟨by decide +kernel, by decide +kernel⟩, List.mem_of_getElem? (i := 758) (by decide +kernel), List.mem_of_getElem? (i := 1000) (by decide +kernel), List.mem_of_getElem? (i := 1001) (by decide +kernel)⟩
theorem lw_p42 : lw_okq (⟨"WeatherHandModel", "hourOf", "(II)I"⟩, 33) := ⟨⟨by decide +kernel, by decide +kernel⟩, List.mem_of_getElem? (i := 758) (by decide +kernel), List.mem_of_getElem? (i := 1004) (by decide +kernel), List.mem_of_getElem? (i := 1005) (by decide +kernel)⟩
theorem lw_p43 : lw_okq (⟨"WeatherHandModel", "lookAt", "(II)I"⟩, 33) := ⟨⟨by decide +kernel, by decide +kernel⟩, List.mem_of_getElem? (i := 758) (by decide +kernel), List.mem_of_getElem? (i := 1008) (by decide +kernel), List.mem_of_getElem? (i := 1009) (by decide +kernel)⟩
theorem lw_p44 : lw_okq (⟨"WeatherHandModel", "lookBy", "(III)I"⟩, 33) := ⟨⟨by decide +kernel, by decide +kernel⟩, List.mem_of_getElem? (i := 758) (by decide +kernel), List.mem_of_getElem? (i := 1012) (by decide +kernel), List.mem_of_getElem? (i := 1013) (by decide +kernel)⟩
theorem lw_p45 : lw_okq (⟨"WeatherHandModel", "remember", "()V"⟩, 33) := ⟨⟨by decide +kernel, by decide +kernel⟩, List.mem_of_getElem? (i := 758) (by decide +kernel), List.mem_of_getElem? (i := 1020) (by decide +kernel), List.mem_of_getElem? (i := 1021) (by decide +kernel)⟩
theorem lw_p46 : lw_okq (⟨"WeatherHandModel", "copy", "(II)V"⟩, 33) := ⟨⟨by decide +kernel, by decide +kernel⟩, List.mem_of_getElem? (i := 758) (by decide +kernel), List.mem_of_getElem? (i := 1024) (by decide +kernel), List.mem_of_getElem? (i := 1025) (by decide +kernel)⟩
theorem lw_p47 : lw_okq (⟨"WeatherHandModel", "draw", "(I)I"⟩, 33) := ⟨⟨by decide +kernel, by decide +kernel⟩, List.mem_of_getElem? (i := 758) (by decide +kernel), List.mem_of_getElem? (i := 1041) (by decide +kernel), List.mem_of_getElem? (i := 1042) (by decide +kernel)⟩
def lw_privs_3 : List (MethodName × Nat) := [(⟨"WeatherHandModel", "rainOf", "(I)I"⟩, 33), (⟨"WeatherHandModel", "dampBy", "(II)I"⟩, 33), (⟨"WeatherHandModel", "lightAt", "(I)I"⟩, 33), (⟨"WeatherHandModel", "isHand", "(I)Z"⟩, 33), (⟨"WeatherHandModel", "isPaper", "(I)Z"⟩, 33), (⟨"WeatherHandModel", "isLetter", "(II)Z"⟩, 33), (⟨"WeatherHandModel", "forgedIn", "(I)I"⟩, 33), (⟨"WeatherHandModel", "airOf", "(II)I"⟩, 33), (⟨"WeatherHandModel", "lookOf", "(II)I"⟩, 33), (⟨"WeatherHandModel", "handOf", "(II)I"⟩, 33), (⟨"WeatherHandModel", "hourOf", "(II)I"⟩, 33), (⟨"WeatherHandModel", "lookAt", "(II)I"⟩, 33), (⟨"WeatherHandModel", "lookBy", "(III)I"⟩, 33), (⟨"WeatherHandModel", "remember", "()V"⟩, 33), (⟨"WeatherHandModel", "copy", "(II)V"⟩, 33), (⟨"WeatherHandModel", "draw", "(I)I"⟩, 33)]
theorem lw_r3 : ∀ q ∈ lw_privs_3, lw_okq q := List.forall_mem_cons.mpr ⟨lw_p32, List.forall_mem_cons.mpr ⟨lw_p33, List.forall_mem_cons.mpr ⟨lw_p34, List.forall_mem_cons.mpr ⟨lw_p35, List.forall_mem_cons.mpr ⟨lw_p36, List.forall_mem_cons.mpr ⟨lw_p37, List.forall_mem_cons.mpr ⟨lw_p38, List.forall_mem_cons.mpr ⟨lw_p39, List.forall_mem_cons.mpr ⟨lw_p40, List.forall_mem_cons.mpr ⟨lw_p41, List.forall_mem_cons.mpr ⟨lw_p42, List.forall_mem_cons.mpr ⟨lw_p43, List.forall_mem_cons.mpr ⟨lw_p44, List.forall_mem_cons.mpr ⟨lw_p45, List.forall_mem_cons.mpr ⟨lw_p46, List.forall_mem_cons.mpr ⟨lw_p47, fun _ h => absurd h List.not_mem_nil⟩⟩⟩⟩⟩⟩⟩⟩⟩⟩⟩⟩⟩⟩⟩⟩
theorem lw_p48 : lw_okq (⟨"WeatherHandModel", "hoursOf", "(III)I"⟩, 33) := ⟨⟨by decide +kernel, by decide +kernel⟩, List.mem_of_getElem? (i := 758) (by decide +kernel), List.mem_of_getElem? (i := 1061) (by decide +kernel), List.mem_of_getElem? (i := 1062) (by decide +kernel)⟩
theorem lw_p49 : lw_okq (⟨"WeatherHandModel", "runFrom", "(IIII)I"⟩, 33) := ⟨⟨by decide +kernel, by decide +kernel⟩, List.mem_of_getElem? (i := 758) (by decide +kernel), List.mem_of_getElem? (i := 1073) (by decide +kernel), List.mem_of_getElem? (i := 1074) (by decide +kernel)⟩
theorem lw_p50 : lw_okq (⟨"WeatherHandModel", "longestRun", "(III)I"⟩, 33) := ⟨⟨by decide +kernel, by decide +kernel⟩, List.mem_of_getElem? (i := 758) (by decide +kernel), List.mem_of_getElem? (i := 1081) (by decide +kernel), List.mem_of_getElem? (i := 1082) (by decide +kernel)⟩
theorem lw_p51 : lw_okq (⟨"WeatherHandModel", "findBegins", "(I)I"⟩, 33) := ⟨⟨by decide +kernel, by decide +kernel⟩, List.mem_of_getElem? (i := 758) (by decide +kernel), List.mem_of_getElem? (i := 1089) (by decide +kernel), List.mem_of_getElem? (i := 1090) (by decide +kernel)⟩
theorem lw_p52 : lw_okq (⟨"WeatherHandModel", "couldBegin", "(III)Z"⟩, 33) := ⟨⟨by decide +kernel, by decide +kernel⟩, List.mem_of_getElem? (i := 758) (by decide +kernel), List.mem_of_getElem? (i := 1093) (by decide +kernel), List.mem_of_getElem? (i := 1094) (by decide +kernel)⟩
theorem lw_p53 : lw_okq (⟨"WeatherHandModel", "greatestPart", "(I)I"⟩, 33) := ⟨⟨by decide +kernel, by decide +kernel⟩, List.mem_of_getElem? (i := 758) (by decide +kernel), List.mem_of_getElem? (i := 1100) (by decide +kernel), List.mem_of_getElem? (i := 1101) (by decide +kernel)⟩
theorem lw_p54 : lw_okq (⟨"WeatherHandModel", "layFits", "()V"⟩, 33) := ⟨⟨by decide +kernel, by decide +kernel⟩, List.mem_of_getElem? (i := 758) (by decide +kernel), List.mem_of_getElem? (i := 1118) (by decide +kernel), List.mem_of_getElem? (i := 1119) (by decide +kernel)⟩
theorem lw_p55 : lw_okq (⟨"WeatherHandModel", "fitsBy", "(I)I"⟩, 33) := ⟨⟨by decide +kernel, by decide +kernel⟩, List.mem_of_getElem? (i := 758) (by decide +kernel), List.mem_of_getElem? (i := 1122) (by decide +kernel), List.mem_of_getElem? (i := 1123) (by decide +kernel)⟩
theorem lw_p56 : lw_okq (⟨"WeatherHandModel", "rained", "(II)Z"⟩, 33) := ⟨⟨by decide +kernel, by decide +kernel⟩, List.mem_of_getElem? (i := 758) (by decide +kernel), List.mem_of_getElem? (i := 1142) (by decide +kernel), List.mem_of_getElem? (i := 1143) (by decide +kernel)⟩
def lw_privs_4 : List (MethodName × Nat) := [(⟨"WeatherHandModel", "hoursOf", "(III)I"⟩, 33), (⟨"WeatherHandModel", "runFrom", "(IIII)I"⟩, 33), (⟨"WeatherHandModel", "longestRun", "(III)I"⟩, 33), (⟨"WeatherHandModel", "findBegins", "(I)I"⟩, 33), (⟨"WeatherHandModel", "couldBegin", "(III)Z"⟩, 33), (⟨"WeatherHandModel", "greatestPart", "(I)I"⟩, 33), (⟨"WeatherHandModel", "layFits", "()V"⟩, 33), (⟨"WeatherHandModel", "fitsBy", "(I)I"⟩, 33), (⟨"WeatherHandModel", "rained", "(II)Z"⟩, 33)]
theorem lw_r4 : ∀ q ∈ lw_privs_4, lw_okq q := List.forall_mem_cons.mpr ⟨lw_p48, List.forall_mem_cons.mpr ⟨lw_p49, List.forall_mem_cons.mpr ⟨lw_p50, List.forall_mem_cons.mpr ⟨lw_p51, List.forall_mem_cons.mpr ⟨lw_p52, List.forall_mem_cons.mpr ⟨lw_p53, List.forall_mem_cons.mpr ⟨lw_p54, List.forall_mem_cons.mpr ⟨lw_p55, List.forall_mem_cons.mpr ⟨lw_p56, fun _ h => absurd h List.not_mem_nil⟩⟩⟩⟩⟩⟩⟩⟩⟩
def lw_privs : List (MethodName × Nat) := lw_privs_1 ++ (lw_privs_2 ++ (lw_privs_3 ++ (lw_privs_4)))
def lw_tbl : List Cond := k2_sels lw_privs ++ tables_1
theorem lw_privs_ok : ∀ q ∈ lw_privs, lw_okq q := by
  show ∀ q ∈ lw_privs_1 ++ (lw_privs_2 ++ (lw_privs_3 ++ (lw_privs_4))), lw_okq q
  exact List.forall_mem_append.mpr ⟨lw_r1, List.forall_mem_append.mpr ⟨lw_r2, List.forall_mem_append.mpr ⟨lw_r3, lw_r4⟩⟩⟩
def RX0 : String := "WeatherHand$Archive"
def TX0 : u_T := fun k => match k with
  | 0 => ("WeatherHand$Archive", "counts", "[I", true)
  | 1 => ("WeatherHand$Archive", "hours", "[I", true)
  | 2 => ("WeatherHand$Archive", "writers", "[I", true)
  | 3 => ("WeatherHand$Archive", "airs", "[I", true)
  | 4 => ("WeatherHand$Archive", "bottled", "I", false)
  | 5 => ("WeatherHand$Archive", "seedNow", "I", false)
  | _ => ("WeatherHand$Archive", "kept", "Z", false)
def tyX0 : Nat → FieldType := fun k => match k with
  | 0 => .array .int
  | 1 => .array .int
  | 2 => .array .int
  | 3 => .array .int
  | 4 => .int
  | 5 => .int
  | _ => .boolean
theorem nmX0 : ∀ a, a < 7 → ∀ b, b < 7 → a ≠ b → (TX0 a).2.1 ≠ (TX0 b).2.1 := by decide +kernel
theorem tyX0_ok : ∀ k, k < 7 → parseFieldDescriptor (TX0 k).2.2.1 = some (tyX0 k) := by decide +kernel
abbrev cX0_init : ByteArray := prog_2_method_1_code
def yX0_init : MethodName := ⟨RX0, "<init>", "()V"⟩
abbrev cX0_beginAs : ByteArray := prog_2_method_2_code
def yX0_beginAs : MethodName := ⟨RX0, "beginAs", "(LWeatherHand$Valley;)V"⟩
abbrev cX0_beginPaper : ByteArray := prog_2_method_3_code
def yX0_beginPaper : MethodName := ⟨RX0, "beginPaper", "(IIII)V"⟩
abbrev cX0_copyFrom : ByteArray := prog_2_method_4_code
def yX0_copyFrom : MethodName := ⟨RX0, "copyFrom", "(LWeatherHand$Archive;)V"⟩
abbrev cX0_countOf : ByteArray := prog_2_method_5_code
def yX0_countOf : MethodName := ⟨RX0, "countOf", "(I)I"⟩
abbrev cX0_countAll : ByteArray := prog_2_method_6_code
def yX0_countAll : MethodName := ⟨RX0, "countAll", "()I"⟩
abbrev cX0_countForged : ByteArray := prog_2_method_7_code
def yX0_countForged : MethodName := ⟨RX0, "countForged", "(I)I"⟩
abbrev cX0_isFull : ByteArray := prog_2_method_8_code
def yX0_isFull : MethodName := ⟨RX0, "isFull", "(I)Z"⟩
abbrev cX0_hasLetter : ByteArray := prog_2_method_9_code
def yX0_hasLetter : MethodName := ⟨RX0, "hasLetter", "(II)Z"⟩
abbrev cX0_hourOf : ByteArray := prog_2_method_10_code
def yX0_hourOf : MethodName := ⟨RX0, "hourOf", "(II)I"⟩
abbrev cX0_writerOf : ByteArray := prog_2_method_11_code
def yX0_writerOf : MethodName := ⟨RX0, "writerOf", "(II)I"⟩
abbrev cX0_airOf : ByteArray := prog_2_method_12_code
def yX0_airOf : MethodName := ⟨RX0, "airOf", "(II)I"⟩
abbrev cX0_isForged : ByteArray := prog_2_method_13_code
def yX0_isForged : MethodName := ⟨RX0, "isForged", "(II)Z"⟩
abbrev cX0_lookOf : ByteArray := prog_2_method_14_code
def yX0_lookOf : MethodName := ⟨RX0, "lookOf", "(LWeatherHand$Valley;II)I"⟩
abbrev cX0_looksAsBy : ByteArray := prog_2_method_15_code
def yX0_looksAsBy : MethodName := ⟨RX0, "looksAsBy", "(LWeatherHand$Valley;III)Z"⟩
abbrev cX0_countAsBy : ByteArray := prog_2_method_16_code
def yX0_countAsBy : MethodName := ⟨RX0, "countAsBy", "(LWeatherHand$Valley;II)I"⟩
abbrev cX0_put : ByteArray := prog_2_method_17_code
def yX0_put : MethodName := ⟨RX0, "put", "(IIII)V"⟩
abbrev cX0_dropLast : ByteArray := prog_2_method_18_code
def yX0_dropLast : MethodName := ⟨RX0, "dropLast", "(I)V"⟩
abbrev cX0_draw : ByteArray := prog_2_method_19_code
def yX0_draw : MethodName := ⟨RX0, "draw", "(I)I"⟩
abbrev cX0_rowFrom : ByteArray := prog_2_method_20_code
def yX0_rowFrom : MethodName := ⟨RX0, "rowFrom", "(LWeatherHand$Valley;IIII)I"⟩
abbrev cX0_longestRow : ByteArray := prog_2_method_21_code
def yX0_longestRow : MethodName := ⟨RX0, "longestRow", "(LWeatherHand$Valley;III)I"⟩
abbrev cX0_fewestRows : ByteArray := prog_2_method_22_code
def yX0_fewestRows : MethodName := ⟨RX0, "fewestRows", "(LWeatherHand$Valley;II)I"⟩
abbrev cX0_fitsRain : ByteArray := prog_2_method_23_code
def yX0_fitsRain : MethodName := ⟨RX0, "fitsRain", "(LWeatherHand$Valley;II)Z"⟩
def RX1 : String := "WeatherHand$Beginnings"
def TX1 : u_T := fun k => match k with
  | 0 => ("WeatherHand$Beginnings", "writers", "[I", true)
  | 1 => ("WeatherHand$Beginnings", "starts", "[I", true)
  | 2 => ("WeatherHand$Beginnings", "kinds", "[I", true)
  | 3 => ("WeatherHand$Beginnings", "alike", "[I", true)
  | _ => ("WeatherHand$Beginnings", "count", "I", false)
def tyX1 : Nat → FieldType := fun k => match k with
  | 0 => .array .int
  | 1 => .array .int
  | 2 => .array .int
  | 3 => .array .int
  | _ => .int
theorem nmX1 : ∀ a, a < 5 → ∀ b, b < 5 → a ≠ b → (TX1 a).2.1 ≠ (TX1 b).2.1 := by decide +kernel
theorem tyX1_ok : ∀ k, k < 5 → parseFieldDescriptor (TX1 k).2.2.1 = some (tyX1 k) := by decide +kernel
abbrev cX1_init : ByteArray := prog_3_method_1_code
def yX1_init : MethodName := ⟨RX1, "<init>", "()V"⟩
abbrev cX1_gather : ByteArray := prog_3_method_2_code
def yX1_gather : MethodName := ⟨RX1, "gather", "(LWeatherHand$Valley;LWeatherHand$Archive;II)V"⟩
abbrev cX1_fits : ByteArray := prog_3_method_3_code
def yX1_fits : MethodName := ⟨RX1, "fits", "(LWeatherHand$Valley;LWeatherHand$Archive;IIII)Z"⟩
abbrev cX1_bestLetter : ByteArray := prog_3_method_4_code
def yX1_bestLetter : MethodName := ⟨RX1, "bestLetter", "(LWeatherHand$Valley;I)I"⟩
abbrev cX1_greatestPart : ByteArray := prog_3_method_5_code
def yX1_greatestPart : MethodName := ⟨RX1, "greatestPart", "(LWeatherHand$Valley;I)I"⟩
abbrev cX1_kindOfLook : ByteArray := prog_3_method_6_code
def yX1_kindOfLook : MethodName := ⟨RX1, "kindOfLook", "(I)I"⟩
def RX2 : String := "WeatherHand$Book"
def TX2 : u_T := fun k => match k with
  | 0 => ("WeatherHand$Book", "papers", "[I", true)
  | 1 => ("WeatherHand$Book", "places", "[I", true)
  | 2 => ("WeatherHand$Book", "looks", "[I", true)
  | _ => ("WeatherHand$Book", "entries", "I", false)
def tyX2 : Nat → FieldType := fun k => match k with
  | 0 => .array .int
  | 1 => .array .int
  | 2 => .array .int
  | _ => .int
theorem nmX2 : ∀ a, a < 4 → ∀ b, b < 4 → a ≠ b → (TX2 a).2.1 ≠ (TX2 b).2.1 := by decide +kernel
theorem tyX2_ok : ∀ k, k < 4 → parseFieldDescriptor (TX2 k).2.2.1 = some (tyX2 k) := by decide +kernel
abbrev cX2_init : ByteArray := prog_4_method_1_code
def yX2_init : MethodName := ⟨RX2, "<init>", "()V"⟩
abbrev cX2_enter : ByteArray := prog_4_method_2_code
def yX2_enter : MethodName := ⟨RX2, "enter", "(III)I"⟩
abbrev cX2_firstWrong : ByteArray := prog_4_method_3_code
def yX2_firstWrong : MethodName := ⟨RX2, "firstWrong", "(LWeatherHand$Valley;LWeatherHand$Archive;)I"⟩
def RX3 : String := "WeatherHand$Deeds"
def TX3 : u_T := fun k => match k with
  | 0 => ("WeatherHand$Deeds", "kinds", "[I", true)
  | 1 => ("WeatherHand$Deeds", "papers", "[I", true)
  | 2 => ("WeatherHand$Deeds", "writers", "[I", true)
  | 3 => ("WeatherHand$Deeds", "hours", "[I", true)
  | 4 => ("WeatherHand$Deeds", "airs", "[I", true)
  | 5 => ("WeatherHand$Deeds", "newest", "I", false)
  | _ => ("WeatherHand$Deeds", "count", "I", false)
def tyX3 : Nat → FieldType := fun k => match k with
  | 0 => .array .int
  | 1 => .array .int
  | 2 => .array .int
  | 3 => .array .int
  | 4 => .array .int
  | 5 => .int
  | _ => .int
theorem nmX3 : ∀ a, a < 7 → ∀ b, b < 7 → a ≠ b → (TX3 a).2.1 ≠ (TX3 b).2.1 := by decide +kernel
theorem tyX3_ok : ∀ k, k < 7 → parseFieldDescriptor (TX3 k).2.2.1 = some (tyX3 k) := by decide +kernel
abbrev cX3_init : ByteArray := prog_5_method_1_code
def yX3_init : MethodName := ⟨RX3, "<init>", "()V"⟩
abbrev cX3_forget : ByteArray := prog_5_method_2_code
def yX3_forget : MethodName := ⟨RX3, "forget", "()V"⟩
abbrev cX3_begin : ByteArray := prog_5_method_3_code
def yX3_begin : MethodName := ⟨RX3, "begin", "(I)V"⟩
abbrev cX3_noteAdded : ByteArray := prog_5_method_4_code
def yX3_noteAdded : MethodName := ⟨RX3, "noteAdded", "(I)V"⟩
abbrev cX3_noteBlotted : ByteArray := prog_5_method_5_code
def yX3_noteBlotted : MethodName := ⟨RX3, "noteBlotted", "(IIII)V"⟩
abbrev cX3_noteBottled : ByteArray := prog_5_method_6_code
def yX3_noteBottled : MethodName := ⟨RX3, "noteBottled", "(I)V"⟩
abbrev cX3_takeBackLast : ByteArray := prog_5_method_7_code
def yX3_takeBackLast : MethodName := ⟨RX3, "takeBackLast", "(LWeatherHand$Archive;)V"⟩
def RX4 : String := "WeatherHand$Finding"
def TX4 : u_T := fun k => match k with
  | 0 => ("WeatherHand$Finding", "likenesses", "[I", true)
  | 1 => ("WeatherHand$Finding", "most", "I", false)
  | _ => ("WeatherHand$Finding", "bestCode", "I", false)
def tyX4 : Nat → FieldType := fun k => match k with
  | 0 => .array .int
  | 1 => .int
  | _ => .int
theorem nmX4 : ∀ a, a < 3 → ∀ b, b < 3 → a ≠ b → (TX4 a).2.1 ≠ (TX4 b).2.1 := by decide +kernel
theorem tyX4_ok : ∀ k, k < 3 → parseFieldDescriptor (TX4 k).2.2.1 = some (tyX4 k) := by decide +kernel
abbrev cX4_init : ByteArray := prog_6_method_1_code
def yX4_init : MethodName := ⟨RX4, "<init>", "()V"⟩
abbrev cX4_compare : ByteArray := prog_6_method_2_code
def yX4_compare : MethodName := ⟨RX4, "compare", "(LWeatherHand$Valley;LWeatherHand$Archive;)V"⟩
abbrev cX4_search : ByteArray := prog_6_method_3_code
def yX4_search : MethodName := ⟨RX4, "search", "(II)V"⟩
abbrev cX4_handOf : ByteArray := prog_6_method_4_code
def yX4_handOf : MethodName := ⟨RX4, "handOf", "(II)I"⟩
abbrev cX4_handIn : ByteArray := prog_6_method_5_code
def yX4_handIn : MethodName := ⟨RX4, "handIn", "(III)I"⟩
abbrev cX4_likenessOf : ByteArray := prog_6_method_6_code
def yX4_likenessOf : MethodName := ⟨RX4, "likenessOf", "(III)I"⟩
def RX5 : String := "WeatherHand$Reader"
def TX5 : u_T := fun k => match k with
  | 0 => ("WeatherHand$Reader", "letters", "[I", true)
  | 1 => ("WeatherHand$Reader", "length", "I", false)
  | 2 => ("WeatherHand$Reader", "at", "I", false)
  | 3 => ("WeatherHand$Reader", "faultKind", "I", false)
  | _ => ("WeatherHand$Reader", "faultAt", "I", false)
def tyX5 : Nat → FieldType := fun k => match k with
  | 0 => .array .int
  | 1 => .int
  | 2 => .int
  | 3 => .int
  | _ => .int
theorem nmX5 : ∀ a, a < 5 → ∀ b, b < 5 → a ≠ b → (TX5 a).2.1 ≠ (TX5 b).2.1 := by decide +kernel
theorem tyX5_ok : ∀ k, k < 5 → parseFieldDescriptor (TX5 k).2.2.1 = some (tyX5 k) := by decide +kernel
abbrev cX5_init : ByteArray := prog_7_method_1_code
def yX5_init : MethodName := ⟨RX5, "<init>", "()V"⟩
abbrev cX5_take : ByteArray := prog_7_method_2_code
def yX5_take : MethodName := ⟨RX5, "take", "(I)I"⟩
abbrev cX5_readInto : ByteArray := prog_7_method_3_code
def yX5_readInto : MethodName := ⟨RX5, "readInto", "(LWeatherHand$Valley;)I"⟩
abbrev cX5_current : ByteArray := prog_7_method_4_code
def yX5_current : MethodName := ⟨RX5, "current", "()I"⟩
abbrev cX5_skipBlanks : ByteArray := prog_7_method_5_code
def yX5_skipBlanks : MethodName := ⟨RX5, "skipBlanks", "()V"⟩
abbrev cX5_fail : ByteArray := prog_7_method_6_code
def yX5_fail : MethodName := ⟨RX5, "fail", "(II)V"⟩
abbrev cX5_readClause : ByteArray := prog_7_method_7_code
def yX5_readClause : MethodName := ⟨RX5, "readClause", "(LWeatherHand$Valley;)V"⟩
abbrev cX5_mayStand : ByteArray := prog_7_method_8_code
def yX5_mayStand : MethodName := ⟨RX5, "mayStand", "(LWeatherHand$Valley;I)Z"⟩
abbrev cX5_isTooMany : ByteArray := prog_7_method_9_code
def yX5_isTooMany : MethodName := ⟨RX5, "isTooMany", "(LWeatherHand$Valley;I)Z"⟩
abbrev cX5_readWeather : ByteArray := prog_7_method_10_code
def yX5_readWeather : MethodName := ⟨RX5, "readWeather", "(LWeatherHand$Valley;)V"⟩
abbrev cX5_readRains : ByteArray := prog_7_method_11_code
def yX5_readRains : MethodName := ⟨RX5, "readRains", "(LWeatherHand$Valley;)V"⟩
abbrev cX5_readHand : ByteArray := prog_7_method_12_code
def yX5_readHand : MethodName := ⟨RX5, "readHand", "(LWeatherHand$Valley;)V"⟩
abbrev cX5_readPaper : ByteArray := prog_7_method_13_code
def yX5_readPaper : MethodName := ⟨RX5, "readPaper", "(LWeatherHand$Valley;)V"⟩
abbrev cX5_readNumber : ByteArray := prog_7_method_14_code
def yX5_readNumber : MethodName := ⟨RX5, "readNumber", "(II)I"⟩
abbrev cX5_isFigure : ByteArray := prog_7_method_15_code
def yX5_isFigure : MethodName := ⟨RX5, "isFigure", "(I)Z"⟩
abbrev cX5_takeIf : ByteArray := prog_7_method_16_code
def yX5_takeIf : MethodName := ⟨RX5, "takeIf", "(I)Z"⟩
def RX6 : String := "WeatherHand$Valley"
def TX6 : u_T := fun k => match k with
  | 0 => ("WeatherHand$Valley", "told", "Z", false)
  | 1 => ("WeatherHand$Valley", "turn", "I", false)
  | 2 => ("WeatherHand$Valley", "firstDamp", "I", false)
  | 3 => ("WeatherHand$Valley", "lightHours", "I", false)
  | 4 => ("WeatherHand$Valley", "rains", "I", false)
  | 5 => ("WeatherHand$Valley", "hands", "I", false)
  | 6 => ("WeatherHand$Valley", "papers", "I", false)
  | 7 => ("WeatherHand$Valley", "rainNumbers", "[I", true)
  | 8 => ("WeatherHand$Valley", "leans", "[I", true)
  | 9 => ("WeatherHand$Valley", "fills", "[I", true)
  | 10 => ("WeatherHand$Valley", "presses", "[I", true)
  | 11 => ("WeatherHand$Valley", "paperHands", "[I", true)
  | 12 => ("WeatherHand$Valley", "paperHours", "[I", true)
  | 13 => ("WeatherHand$Valley", "paperLengths", "[I", true)
  | _ => ("WeatherHand$Valley", "looks", "[I", true)
def tyX6 : Nat → FieldType := fun k => match k with
  | 0 => .boolean
  | 1 => .int
  | 2 => .int
  | 3 => .int
  | 4 => .int
  | 5 => .int
  | 6 => .int
  | 7 => .array .int
  | 8 => .array .int
  | 9 => .array .int
  | 10 => .array .int
  | 11 => .array .int
  | 12 => .array .int
  | 13 => .array .int
  | _ => .array .int
theorem nmX6 : ∀ a, a < 15 → ∀ b, b < 15 → a ≠ b → (TX6 a).2.1 ≠ (TX6 b).2.1 := by decide +kernel
theorem tyX6_ok : ∀ k, k < 15 → parseFieldDescriptor (TX6 k).2.2.1 = some (tyX6 k) := by decide +kernel
abbrev cX6_init : ByteArray := prog_8_method_1_code
def yX6_init : MethodName := ⟨RX6, "<init>", "()V"⟩
abbrev cX6_clear : ByteArray := prog_8_method_2_code
def yX6_clear : MethodName := ⟨RX6, "clear", "()V"⟩
abbrev cX6_hasHand : ByteArray := prog_8_method_3_code
def yX6_hasHand : MethodName := ⟨RX6, "hasHand", "(I)Z"⟩
abbrev cX6_hasPaper : ByteArray := prog_8_method_4_code
def yX6_hasPaper : MethodName := ⟨RX6, "hasPaper", "(I)Z"⟩
abbrev cX6_rainOf : ByteArray := prog_8_method_5_code
def yX6_rainOf : MethodName := ⟨RX6, "rainOf", "(I)I"⟩
abbrev cX6_windAt : ByteArray := prog_8_method_6_code
def yX6_windAt : MethodName := ⟨RX6, "windAt", "(I)I"⟩
abbrev cX6_lightAt : ByteArray := prog_8_method_7_code
def yX6_lightAt : MethodName := ⟨RX6, "lightAt", "(I)I"⟩
abbrev cX6_dampAt : ByteArray := prog_8_method_8_code
def yX6_dampAt : MethodName := ⟨RX6, "dampAt", "(II)I"⟩
abbrev cX6_makeLook : ByteArray := prog_8_method_9_code
def yX6_makeLook : MethodName := ⟨RX6, "makeLook", "(III)I"⟩
abbrev cX6_fillLooks : ByteArray := prog_8_method_10_code
def yX6_fillLooks : MethodName := ⟨RX6, "fillLooks", "()V"⟩
abbrev cX6_lookAt : ByteArray := prog_8_method_11_code
def yX6_lookAt : MethodName := ⟨RX6, "lookAt", "(II)I"⟩
abbrev cX6_firstHour : ByteArray := prog_8_method_12_code
def yX6_firstHour : MethodName := ⟨RX6, "firstHour", "(III)I"⟩
abbrev cX6_hoursOfLook : ByteArray := prog_8_method_13_code
def yX6_hoursOfLook : MethodName := ⟨RX6, "hoursOfLook", "(III)I"⟩
def RX7 : String := "WeatherHand"
def TX7 : u_T := fun k => match k with
  | 0 => ("WeatherHand", "reader", "LWeatherHand$Reader;", true)
  | 1 => ("WeatherHand", "archive", "LWeatherHand$Archive;", true)
  | 2 => ("WeatherHand", "imageZero", "LWeatherHand$Archive;", true)
  | 3 => ("WeatherHand", "imageOne", "LWeatherHand$Archive;", true)
  | 4 => ("WeatherHand", "deeds", "LWeatherHand$Deeds;", true)
  | 5 => ("WeatherHand", "book", "LWeatherHand$Book;", true)
  | 6 => ("WeatherHand", "beginnings", "LWeatherHand$Beginnings;", true)
  | 7 => ("WeatherHand", "finding", "LWeatherHand$Finding;", true)
  | 8 => ("WeatherHand", "measured", "[I", true)
  | 9 => ("WeatherHand", "here", "LWeatherHand$Valley;", false)
  | 10 => ("WeatherHand", "draft", "LWeatherHand$Valley;", false)
  | _ => ("WeatherHand", "faultAt", "I", false)
def tyX7 : Nat → FieldType := fun k => match k with
  | 0 => .object "WeatherHand$Reader"
  | 1 => .object "WeatherHand$Archive"
  | 2 => .object "WeatherHand$Archive"
  | 3 => .object "WeatherHand$Archive"
  | 4 => .object "WeatherHand$Deeds"
  | 5 => .object "WeatherHand$Book"
  | 6 => .object "WeatherHand$Beginnings"
  | 7 => .object "WeatherHand$Finding"
  | 8 => .array .int
  | 9 => .object "WeatherHand$Valley"
  | 10 => .object "WeatherHand$Valley"
  | _ => .int
theorem nmX7 : ∀ a, a < 12 → ∀ b, b < 12 → a ≠ b → (TX7 a).2.1 ≠ (TX7 b).2.1 := by decide +kernel
theorem tyX7_ok : ∀ k, k < 12 → parseFieldDescriptor (TX7 k).2.2.1 = some (tyX7 k) := by decide +kernel
abbrev cX7_init : ByteArray := prog_1_method_1_code
def yX7_init : MethodName := ⟨RX7, "<init>", "()V"⟩
abbrev cX7_feed : ByteArray := prog_1_method_2_code
def yX7_feed : MethodName := ⟨RX7, "feed", "(I)I"⟩
abbrev cX7_valley : ByteArray := prog_1_method_3_code
def yX7_valley : MethodName := ⟨RX7, "valley", "()I"⟩
abbrev cX7_fault : ByteArray := prog_1_method_4_code
def yX7_fault : MethodName := ⟨RX7, "fault", "()I"⟩
abbrev cX7_told : ByteArray := prog_1_method_5_code
def yX7_told : MethodName := ⟨RX7, "told", "(I)I"⟩
abbrev cX7_weather : ByteArray := prog_1_method_6_code
def yX7_weather : MethodName := ⟨RX7, "weather", "(II)I"⟩
abbrev cX7_hand : ByteArray := prog_1_method_7_code
def yX7_hand : MethodName := ⟨RX7, "hand", "(II)I"⟩
abbrev cX7_letter : ByteArray := prog_1_method_8_code
def yX7_letter : MethodName := ⟨RX7, "letter", "(III)I"⟩
abbrev cX7_add : ByteArray := prog_1_method_9_code
def yX7_add : MethodName := ⟨RX7, "add", "(IIIZ)I"⟩
abbrev cX7_blot : ByteArray := prog_1_method_10_code
def yX7_blot : MethodName := ⟨RX7, "blot", "(I)I"⟩
abbrev cX7_bottle : ByteArray := prog_1_method_11_code
def yX7_bottle : MethodName := ⟨RX7, "bottle", "(I)I"⟩
abbrev cX7_drift : ByteArray := prog_1_method_12_code
def yX7_drift : MethodName := ⟨RX7, "drift", "(I)I"⟩
abbrev cX7_undo : ByteArray := prog_1_method_13_code
def yX7_undo : MethodName := ⟨RX7, "undo", "(I)I"⟩
abbrev cX7_look : ByteArray := prog_1_method_14_code
def yX7_look : MethodName := ⟨RX7, "look", "(II)I"⟩
abbrev cX7_written : ByteArray := prog_1_method_15_code
def yX7_written : MethodName := ⟨RX7, "written", "(IIII)I"⟩
abbrev cX7_who : ByteArray := prog_1_method_16_code
def yX7_who : MethodName := ⟨RX7, "who", "(II)I"⟩
abbrev cX7_dated : ByteArray := prog_1_method_17_code
def yX7_dated : MethodName := ⟨RX7, "dated", "(III)I"⟩
abbrev cX7_addedAt : ByteArray := prog_1_method_18_code
def yX7_addedAt : MethodName := ⟨RX7, "addedAt", "(III)I"⟩
abbrev cX7_next : ByteArray := prog_1_method_19_code
def yX7_next : MethodName := ⟨RX7, "next", "(II)I"⟩
abbrev cX7_soonest : ByteArray := prog_1_method_20_code
def yX7_soonest : MethodName := ⟨RX7, "soonest", "(III)I"⟩
abbrev cX7_likely : ByteArray := prog_1_method_21_code
def yX7_likely : MethodName := ⟨RX7, "likely", "(II)I"⟩
abbrev cX7_hands : ByteArray := prog_1_method_22_code
def yX7_hands : MethodName := ⟨RX7, "hands", "(I)I"⟩
abbrev cX7_forged : ByteArray := prog_1_method_23_code
def yX7_forged : MethodName := ⟨RX7, "forged", "(II)I"⟩
abbrev cX7_air : ByteArray := prog_1_method_24_code
def yX7_air : MethodName := ⟨RX7, "air", "(III)I"⟩
abbrev cX7_rain : ByteArray := prog_1_method_25_code
def yX7_rain : MethodName := ⟨RX7, "rain", "(I)I"⟩
abbrev cX7_measure : ByteArray := prog_1_method_26_code
def yX7_measure : MethodName := ⟨RX7, "measure", "(II)I"⟩
abbrev cX7_write : ByteArray := prog_1_method_27_code
def yX7_write : MethodName := ⟨RX7, "write", "(III)I"⟩
abbrev cX7_judge : ByteArray := prog_1_method_28_code
def yX7_judge : MethodName := ⟨RX7, "judge", "()I"⟩
abbrev cX7_tear : ByteArray := prog_1_method_29_code
def yX7_tear : MethodName := ⟨RX7, "tear", "()I"⟩
abbrev cX7_seed : ByteArray := prog_1_method_30_code
def yX7_seed : MethodName := ⟨RX7, "seed", "(I)I"⟩
abbrev cX7_keep : ByteArray := prog_1_method_31_code
def yX7_keep : MethodName := ⟨RX7, "keep", "(I)I"⟩
abbrev cX7_goBack : ByteArray := prog_1_method_32_code
def yX7_goBack : MethodName := ⟨RX7, "goBack", "(I)I"⟩
abbrev cX7_isHour : ByteArray := prog_1_method_33_code
def yX7_isHour : MethodName := ⟨RX7, "isHour", "(I)Z"⟩
abbrev cX7_isLook : ByteArray := prog_1_method_34_code
def yX7_isLook : MethodName := ⟨RX7, "isLook", "(I)Z"⟩
abbrev cX7_isImage : ByteArray := prog_1_method_35_code
def yX7_isImage : MethodName := ⟨RX7, "isImage", "(I)Z"⟩
abbrev cX7_imageOf : ByteArray := prog_1_method_36_code
def yX7_imageOf : MethodName := ⟨RX7, "imageOf", "(I)LWeatherHand$Archive;"⟩
abbrev cX7_isMeasured : ByteArray := prog_1_method_37_code
def yX7_isMeasured : MethodName := ⟨RX7, "isMeasured", "(II)Z"⟩
abbrev cX7_ofAllLetters : ByteArray := prog_1_method_38_code
def yX7_ofAllLetters : MethodName := ⟨RX7, "ofAllLetters", "(II)I"⟩
abbrev cX7_append : ByteArray := prog_1_method_39_code
def yX7_append : MethodName := ⟨RX7, "append", "(IIII)V"⟩
abbrev cX7_dropMeasures : ByteArray := prog_1_method_40_code
def yX7_dropMeasures : MethodName := ⟨RX7, "dropMeasures", "()I"⟩
def RX8 : String := "WeatherHandModel"
def TX8 : u_T := fun k => match k with
  | 0 => ("WeatherHandModel", "w", "[I", true)
  | 1 => ("WeatherHandModel", "isKept", "[Z", true)
  | 2 => ("WeatherHandModel", "is", "Z", false)
  | 3 => ("WeatherHandModel", "newIs", "Z", false)
  | 4 => ("WeatherHandModel", "valley", "[I", true)
  | 5 => ("WeatherHandModel", "rains", "[I", true)
  | 6 => ("WeatherHandModel", "rainMany", "I", false)
  | 7 => ("WeatherHandModel", "newRains", "I", false)
  | 8 => ("WeatherHandModel", "leans", "[I", true)
  | 9 => ("WeatherHandModel", "fills", "[I", true)
  | 10 => ("WeatherHandModel", "presses", "[I", true)
  | 11 => ("WeatherHandModel", "hands", "I", false)
  | 12 => ("WeatherHandModel", "newHands", "I", false)
  | 13 => ("WeatherHandModel", "by", "[I", true)
  | 14 => ("WeatherHandModel", "begun", "[I", true)
  | 15 => ("WeatherHandModel", "long_", "[I", true)
  | 16 => ("WeatherHandModel", "papers", "I", false)
  | 17 => ("WeatherHandModel", "newPapers", "I", false)
  | 18 => ("WeatherHandModel", "text", "[I", true)
  | 19 => ("WeatherHandModel", "textSize", "I", false)
  | 20 => ("WeatherHandModel", "at", "I", false)
  | 21 => ("WeatherHandModel", "first", "I", false)
  | 22 => ("WeatherHandModel", "faultOf", "I", false)
  | 23 => ("WeatherHandModel", "fault", "I", false)
  | 24 => ("WeatherHandModel", "measured", "[I", true)
  | 25 => ("WeatherHandModel", "undoMany", "I", false)
  | 26 => ("WeatherHandModel", "could", "[Z", true)
  | 27 => ("WeatherHandModel", "alike", "[I", true)
  | 28 => ("WeatherHandModel", "fits", "[I", true)
  | 29 => ("WeatherHandModel", "notedIn", "[I", true)
  | 30 => ("WeatherHandModel", "notedAt", "[I", true)
  | 31 => ("WeatherHandModel", "notedLook", "[I", true)
  | _ => ("WeatherHandModel", "noted", "I", false)
def tyX8 : Nat → FieldType := fun k => match k with
  | 0 => .array .int
  | 1 => .array .boolean
  | 2 => .boolean
  | 3 => .boolean
  | 4 => .array .int
  | 5 => .array .int
  | 6 => .int
  | 7 => .int
  | 8 => .array .int
  | 9 => .array .int
  | 10 => .array .int
  | 11 => .int
  | 12 => .int
  | 13 => .array .int
  | 14 => .array .int
  | 15 => .array .int
  | 16 => .int
  | 17 => .int
  | 18 => .array .int
  | 19 => .int
  | 20 => .int
  | 21 => .int
  | 22 => .int
  | 23 => .int
  | 24 => .array .int
  | 25 => .int
  | 26 => .array .boolean
  | 27 => .array .int
  | 28 => .array .int
  | 29 => .array .int
  | 30 => .array .int
  | 31 => .array .int
  | _ => .int
theorem nmX8 : ∀ a, a < 33 → ∀ b, b < 33 → a ≠ b → (TX8 a).2.1 ≠ (TX8 b).2.1 := by decide +kernel
theorem tyX8_ok : ∀ k, k < 33 → parseFieldDescriptor (TX8 k).2.2.1 = some (tyX8 k) := by decide +kernel
abbrev cX8_init : ByteArray := prog_10_method_1_code
def yX8_init : MethodName := ⟨RX8, "<init>", "()V"⟩
abbrev cX8_in : ByteArray := prog_10_method_3_code
def yX8_in : MethodName := ⟨RX8, "in", "(JJJ)Z"⟩
abbrev cX8_one : ByteArray := prog_10_method_4_code
def yX8_one : MethodName := ⟨RX8, "one", "(Z)I"⟩
abbrev cX8_has : ByteArray := prog_10_method_5_code
def yX8_has : MethodName := ⟨RX8, "has", "(II)Z"⟩
abbrev cX8_ones : ByteArray := prog_10_method_6_code
def yX8_ones : MethodName := ⟨RX8, "ones", "(I)I"⟩
abbrev cX8_feed : ByteArray := prog_10_method_7_code
def yX8_feed : MethodName := ⟨RX8, "feed", "(I)I"⟩
abbrev cX8_here : ByteArray := prog_10_method_8_code
def yX8_here : MethodName := ⟨RX8, "here", "()I"⟩
abbrev cX8_want : ByteArray := prog_10_method_9_code
def yX8_want : MethodName := ⟨RX8, "want", "(ZII)Z"⟩
abbrev cX8_takeNumber : ByteArray := prog_10_method_10_code
def yX8_takeNumber : MethodName := ⟨RX8, "takeNumber", "()I"⟩
abbrev cX8_takeIn : ByteArray := prog_10_method_11_code
def yX8_takeIn : MethodName := ⟨RX8, "takeIn", "(II)I"⟩
abbrev cX8_takeValley : ByteArray := prog_10_method_12_code
def yX8_takeValley : MethodName := ⟨RX8, "takeValley", "(I)V"⟩
abbrev cX8_takeRains : ByteArray := prog_10_method_13_code
def yX8_takeRains : MethodName := ⟨RX8, "takeRains", "(I)V"⟩
abbrev cX8_takeHand : ByteArray := prog_10_method_14_code
def yX8_takeHand : MethodName := ⟨RX8, "takeHand", "(I)V"⟩
abbrev cX8_takePaper : ByteArray := prog_10_method_15_code
def yX8_takePaper : MethodName := ⟨RX8, "takePaper", "(I)V"⟩
abbrev cX8_takeClause : ByteArray := prog_10_method_16_code
def yX8_takeClause : MethodName := ⟨RX8, "takeClause", "()V"⟩
abbrev cX8_valley : ByteArray := prog_10_method_17_code
def yX8_valley : MethodName := ⟨RX8, "valley", "()I"⟩
abbrev cX8_takeHands : ByteArray := prog_10_method_18_code
def yX8_takeHands : MethodName := ⟨RX8, "takeHands", "()V"⟩
abbrev cX8_take : ByteArray := prog_10_method_19_code
def yX8_take : MethodName := ⟨RX8, "take", "()V"⟩
abbrev cX8_put : ByteArray := prog_10_method_20_code
def yX8_put : MethodName := ⟨RX8, "put", "(IIII)V"⟩
abbrev cX8_fault : ByteArray := prog_10_method_21_code
def yX8_fault : MethodName := ⟨RX8, "fault", "()I"⟩
abbrev cX8_isHand : ByteArray := prog_10_method_22_code
def yX8_isHand : MethodName := ⟨RX8, "isHand", "(I)Z"⟩
abbrev cX8_isPaper : ByteArray := prog_10_method_23_code
def yX8_isPaper : MethodName := ⟨RX8, "isPaper", "(I)Z"⟩
abbrev cX8_isLetter : ByteArray := prog_10_method_24_code
def yX8_isLetter : MethodName := ⟨RX8, "isLetter", "(II)Z"⟩
abbrev cX8_isHour : ByteArray := prog_10_method_25_code
def yX8_isHour : MethodName := ⟨RX8, "isHour", "(I)Z"⟩
abbrev cX8_allLetters : ByteArray := prog_10_method_26_code
def yX8_allLetters : MethodName := ⟨RX8, "allLetters", "()I"⟩
abbrev cX8_told : ByteArray := prog_10_method_27_code
def yX8_told : MethodName := ⟨RX8, "told", "(I)I"⟩
abbrev cX8_rainOf : ByteArray := prog_10_method_28_code
def yX8_rainOf : MethodName := ⟨RX8, "rainOf", "(I)I"⟩
abbrev cX8_dampBy : ByteArray := prog_10_method_29_code
def yX8_dampBy : MethodName := ⟨RX8, "dampBy", "(II)I"⟩
abbrev cX8_lightAt : ByteArray := prog_10_method_30_code
def yX8_lightAt : MethodName := ⟨RX8, "lightAt", "(I)I"⟩
abbrev cX8_weather : ByteArray := prog_10_method_31_code
def yX8_weather : MethodName := ⟨RX8, "weather", "(II)I"⟩
abbrev cX8_hand : ByteArray := prog_10_method_32_code
def yX8_hand : MethodName := ⟨RX8, "hand", "(II)I"⟩
abbrev cX8_lookBy : ByteArray := prog_10_method_33_code
def yX8_lookBy : MethodName := ⟨RX8, "lookBy", "(III)I"⟩
abbrev cX8_lookAt : ByteArray := prog_10_method_34_code
def yX8_lookAt : MethodName := ⟨RX8, "lookAt", "(II)I"⟩
abbrev cX8_hourOf : ByteArray := prog_10_method_35_code
def yX8_hourOf : MethodName := ⟨RX8, "hourOf", "(II)I"⟩
abbrev cX8_handOf : ByteArray := prog_10_method_36_code
def yX8_handOf : MethodName := ⟨RX8, "handOf", "(II)I"⟩
abbrev cX8_airOf : ByteArray := prog_10_method_37_code
def yX8_airOf : MethodName := ⟨RX8, "airOf", "(II)I"⟩
abbrev cX8_lookOf : ByteArray := prog_10_method_38_code
def yX8_lookOf : MethodName := ⟨RX8, "lookOf", "(II)I"⟩
abbrev cX8_forgedIn : ByteArray := prog_10_method_39_code
def yX8_forgedIn : MethodName := ⟨RX8, "forgedIn", "(I)I"⟩
abbrev cX8_letter : ByteArray := prog_10_method_40_code
def yX8_letter : MethodName := ⟨RX8, "letter", "(III)I"⟩
abbrev cX8_copy : ByteArray := prog_10_method_41_code
def yX8_copy : MethodName := ⟨RX8, "copy", "(II)V"⟩
abbrev cX8_remember : ByteArray := prog_10_method_42_code
def yX8_remember : MethodName := ⟨RX8, "remember", "()V"⟩
abbrev cX8_add : ByteArray := prog_10_method_43_code
def yX8_add : MethodName := ⟨RX8, "add", "(IIIZ)I"⟩
abbrev cX8_blot : ByteArray := prog_10_method_44_code
def yX8_blot : MethodName := ⟨RX8, "blot", "(I)I"⟩
abbrev cX8_bottle : ByteArray := prog_10_method_45_code
def yX8_bottle : MethodName := ⟨RX8, "bottle", "(I)I"⟩
abbrev cX8_draw : ByteArray := prog_10_method_46_code
def yX8_draw : MethodName := ⟨RX8, "draw", "(I)I"⟩
abbrev cX8_drift : ByteArray := prog_10_method_47_code
def yX8_drift : MethodName := ⟨RX8, "drift", "(I)I"⟩
abbrev cX8_undo : ByteArray := prog_10_method_48_code
def yX8_undo : MethodName := ⟨RX8, "undo", "(I)I"⟩
abbrev cX8_look : ByteArray := prog_10_method_49_code
def yX8_look : MethodName := ⟨RX8, "look", "(II)I"⟩
abbrev cX8_hoursOf : ByteArray := prog_10_method_50_code
def yX8_hoursOf : MethodName := ⟨RX8, "hoursOf", "(III)I"⟩
abbrev cX8_written : ByteArray := prog_10_method_51_code
def yX8_written : MethodName := ⟨RX8, "written", "(IIII)I"⟩
abbrev cX8_who : ByteArray := prog_10_method_52_code
def yX8_who : MethodName := ⟨RX8, "who", "(II)I"⟩
abbrev cX8_runFrom : ByteArray := prog_10_method_53_code
def yX8_runFrom : MethodName := ⟨RX8, "runFrom", "(IIII)I"⟩
abbrev cX8_dated : ByteArray := prog_10_method_54_code
def yX8_dated : MethodName := ⟨RX8, "dated", "(III)I"⟩
abbrev cX8_longestRun : ByteArray := prog_10_method_55_code
def yX8_longestRun : MethodName := ⟨RX8, "longestRun", "(III)I"⟩
abbrev cX8_addedAt : ByteArray := prog_10_method_56_code
def yX8_addedAt : MethodName := ⟨RX8, "addedAt", "(III)I"⟩
abbrev cX8_couldBegin : ByteArray := prog_10_method_57_code
def yX8_couldBegin : MethodName := ⟨RX8, "couldBegin", "(III)Z"⟩
abbrev cX8_findBegins : ByteArray := prog_10_method_58_code
def yX8_findBegins : MethodName := ⟨RX8, "findBegins", "(I)I"⟩
abbrev cX8_greatestPart : ByteArray := prog_10_method_59_code
def yX8_greatestPart : MethodName := ⟨RX8, "greatestPart", "(I)I"⟩
abbrev cX8_next : ByteArray := prog_10_method_60_code
def yX8_next : MethodName := ⟨RX8, "next", "(II)I"⟩
abbrev cX8_soonest : ByteArray := prog_10_method_61_code
def yX8_soonest : MethodName := ⟨RX8, "soonest", "(III)I"⟩
abbrev cX8_likely : ByteArray := prog_10_method_62_code
def yX8_likely : MethodName := ⟨RX8, "likely", "(II)I"⟩
abbrev cX8_figure : ByteArray := prog_10_method_63_code
def yX8_figure : MethodName := ⟨RX8, "figure", "(III)I"⟩
abbrev cX8_layFits : ByteArray := prog_10_method_64_code
def yX8_layFits : MethodName := ⟨RX8, "layFits", "()V"⟩
abbrev cX8_fitsBy : ByteArray := prog_10_method_65_code
def yX8_fitsBy : MethodName := ⟨RX8, "fitsBy", "(I)I"⟩
abbrev cX8_hands : ByteArray := prog_10_method_66_code
def yX8_hands : MethodName := ⟨RX8, "hands", "(I)I"⟩
abbrev cX8_forged : ByteArray := prog_10_method_67_code
def yX8_forged : MethodName := ⟨RX8, "forged", "(II)I"⟩
abbrev cX8_air : ByteArray := prog_10_method_68_code
def yX8_air : MethodName := ⟨RX8, "air", "(III)I"⟩
abbrev cX8_rained : ByteArray := prog_10_method_69_code
def yX8_rained : MethodName := ⟨RX8, "rained", "(II)Z"⟩
abbrev cX8_rain : ByteArray := prog_10_method_70_code
def yX8_rain : MethodName := ⟨RX8, "rain", "(I)I"⟩
abbrev cX8_measure : ByteArray := prog_10_method_71_code
def yX8_measure : MethodName := ⟨RX8, "measure", "(II)I"⟩
abbrev cX8_write : ByteArray := prog_10_method_72_code
def yX8_write : MethodName := ⟨RX8, "write", "(III)I"⟩
abbrev cX8_judge : ByteArray := prog_10_method_73_code
def yX8_judge : MethodName := ⟨RX8, "judge", "()I"⟩
abbrev cX8_tear : ByteArray := prog_10_method_74_code
def yX8_tear : MethodName := ⟨RX8, "tear", "()I"⟩
abbrev cX8_seed : ByteArray := prog_10_method_75_code
def yX8_seed : MethodName := ⟨RX8, "seed", "(I)I"⟩
abbrev cX8_keep : ByteArray := prog_10_method_76_code
def yX8_keep : MethodName := ⟨RX8, "keep", "(I)I"⟩
abbrev cX8_goBack : ByteArray := prog_10_method_77_code
def yX8_goBack : MethodName := ⟨RX8, "goBack", "(I)I"⟩
def RJ6 : String := "java/lang/Integer"
def TJ6 : u_T := fun k => match k with
  | _ => ("", "", "", false)
def tyJ6 : Nat → FieldType := fun k => match k with
  | _ => .int
abbrev cJ6_bitCount_0f7a4 : ByteArray := prog_11_method_49_code
def yJ6_bitCount_0f7a4 : MethodName := ⟨RJ6, "bitCount", "(I)I"⟩
def RJ9 : String := "java/lang/Math"
def TJ9 : u_T := fun k => match k with
  | _ => ("", "", "", false)
def tyJ9 : Nat → FieldType := fun k => match k with
  | _ => .int
abbrev cJ9_max_7cf53 : ByteArray := prog_12_method_65_code
def yJ9_max_7cf53 : MethodName := ⟨RJ9, "max", "(II)I"⟩
abbrev cJ9_min_7cf53 : ByteArray := prog_12_method_69_code
def yJ9_min_7cf53 : MethodName := ⟨RJ9, "min", "(II)I"⟩
def RJ10 : String := "java/lang/System"
def TJ10 : u_T := fun k => match k with
  | _ => ("", "", "", false)
def tyJ10 : Nat → FieldType := fun k => match k with
  | _ => .int
def RL : String := "WeatherHandLaw"
abbrev cL_law : ByteArray := code
def yL_law : MethodName := ⟨RL, "law", "([I)Z"⟩
abbrev vwCl : List vw_C := [(RX0, TX0, 7), (RX1, TX1, 5), (RX2, TX2, 4), (RX3, TX3, 7), (RX4, TX4, 3), (RX5, TX5, 5), (RX6, TX6, 15), (RX7, TX7, 12), (RX8, TX8, 33)]
