section
-- ===== PART A: goes FIRST, ahead of the names: the tables' words, and 'selects' of the private methods out of them =====
/-- a private method of a class that the tables say can be made, by its rows of tables_1 -/
def lw_okq (q : MethodName × Nat) : Prop := (q.1.cls ≠ "java/lang/invoke/MethodHandle" ∧ q.1.cls ≠ "java/lang/invoke/VarHandle") ∧ Cond.instantiable q.1.cls q.2 ∈ tables_1 ∧ Cond.privateMethod q.1 ∈ tables_1 ∧ Cond.instanceMethod q.1 ∈ tables_1
theorem lw_p0 : lw_okq (⟨"WeatherHand$Reader", "skipBlanks", "()V"⟩, 5) := ⟨⟨by decide +kernel, by decide +kernel⟩, List.mem_of_getElem? (i := 22) (by decide +kernel), List.mem_of_getElem? (i := 307) (by decide +kernel), List.mem_of_getElem? (i := 308) (by decide +kernel)⟩
theorem lw_p1 : lw_okq (⟨"WeatherHand$Reader", "current", "()I"⟩, 5) := ⟨⟨by decide +kernel, by decide +kernel⟩, List.mem_of_getElem? (i := 22) (by decide +kernel), List.mem_of_getElem? (i := 311) (by decide +kernel), List.mem_of_getElem? (i := 312) (by decide +kernel)⟩
theorem lw_p2 : lw_okq (⟨"WeatherHand$Reader", "readClause", "(LWeatherHand$Valley;)V"⟩, 5) := ⟨⟨by decide +kernel, by decide +kernel⟩, List.mem_of_getElem? (i := 22) (by decide +kernel), List.mem_of_getElem? (i := 315) (by decide +kernel), List.mem_of_getElem? (i := 316) (by decide +kernel)⟩
theorem lw_p3 : lw_okq (⟨"WeatherHand$Reader", "fail", "(II)V"⟩, 5) := ⟨⟨by decide +kernel, by decide +kernel⟩, List.mem_of_getElem? (i := 22) (by decide +kernel), List.mem_of_getElem? (i := 322) (by decide +kernel), List.mem_of_getElem? (i := 323) (by decide +kernel)⟩
theorem lw_p4 : lw_okq (⟨"WeatherHand$Reader", "readWeather", "(LWeatherHand$Valley;)V"⟩, 5) := ⟨⟨by decide +kernel, by decide +kernel⟩, List.mem_of_getElem? (i := 22) (by decide +kernel), List.mem_of_getElem? (i := 329) (by decide +kernel), List.mem_of_getElem? (i := 330) (by decide +kernel)⟩
theorem lw_p5 : lw_okq (⟨"WeatherHand$Reader", "readNumber", "(II)I"⟩, 5) := ⟨⟨by decide +kernel, by decide +kernel⟩, List.mem_of_getElem? (i := 22) (by decide +kernel), List.mem_of_getElem? (i := 333) (by decide +kernel), List.mem_of_getElem? (i := 334) (by decide +kernel)⟩
theorem lw_p6 : lw_okq (⟨"WeatherHand$Reader", "readRains", "(LWeatherHand$Valley;)V"⟩, 5) := ⟨⟨by decide +kernel, by decide +kernel⟩, List.mem_of_getElem? (i := 22) (by decide +kernel), List.mem_of_getElem? (i := 340) (by decide +kernel), List.mem_of_getElem? (i := 341) (by decide +kernel)⟩
theorem lw_p7 : lw_okq (⟨"WeatherHand$Reader", "takeIf", "(I)Z"⟩, 5) := ⟨⟨by decide +kernel, by decide +kernel⟩, List.mem_of_getElem? (i := 22) (by decide +kernel), List.mem_of_getElem? (i := 344) (by decide +kernel), List.mem_of_getElem? (i := 345) (by decide +kernel)⟩
theorem lw_p8 : lw_okq (⟨"WeatherHand$Reader", "readHand", "(LWeatherHand$Valley;)V"⟩, 5) := ⟨⟨by decide +kernel, by decide +kernel⟩, List.mem_of_getElem? (i := 22) (by decide +kernel), List.mem_of_getElem? (i := 348) (by decide +kernel), List.mem_of_getElem? (i := 349) (by decide +kernel)⟩
theorem lw_p9 : lw_okq (⟨"WeatherHand$Reader", "readPaper", "(LWeatherHand$Valley;)V"⟩, 5) := ⟨⟨by decide +kernel, by decide +kernel⟩, List.mem_of_getElem? (i := 22) (by decide +kernel), List.mem_of_getElem? (i := 352) (by decide +kernel), List.mem_of_getElem? (i := 353) (by decide +kernel)⟩
theorem lw_p10 : lw_okq (⟨"WeatherHand$Archive", "beginPaper", "(IIII)V"⟩, 7) := ⟨⟨by decide +kernel, by decide +kernel⟩, List.mem_of_getElem? (i := 47) (by decide +kernel), List.mem_of_getElem? (i := 398) (by decide +kernel), List.mem_of_getElem? (i := 399) (by decide +kernel)⟩
theorem lw_p11 : lw_okq (⟨"WeatherHand", "dropMeasures", "()I"⟩, 12) := ⟨⟨by decide +kernel, by decide +kernel⟩, List.mem_of_getElem? (i := 14) (by decide +kernel), List.mem_of_getElem? (i := 410) (by decide +kernel), List.mem_of_getElem? (i := 411) (by decide +kernel)⟩
theorem lw_p12 : lw_okq (⟨"WeatherHand", "ofAllLetters", "(II)I"⟩, 12) := ⟨⟨by decide +kernel, by decide +kernel⟩, List.mem_of_getElem? (i := 14) (by decide +kernel), List.mem_of_getElem? (i := 455) (by decide +kernel), List.mem_of_getElem? (i := 456) (by decide +kernel)⟩
theorem lw_p13 : lw_okq (⟨"WeatherHand", "isMeasured", "(II)Z"⟩, 12) := ⟨⟨by decide +kernel, by decide +kernel⟩, List.mem_of_getElem? (i := 14) (by decide +kernel), List.mem_of_getElem? (i := 498) (by decide +kernel), List.mem_of_getElem? (i := 499) (by decide +kernel)⟩
theorem lw_p14 : lw_okq (⟨"WeatherHand", "append", "(IIII)V"⟩, 12) := ⟨⟨by decide +kernel, by decide +kernel⟩, List.mem_of_getElem? (i := 14) (by decide +kernel), List.mem_of_getElem? (i := 512) (by decide +kernel), List.mem_of_getElem? (i := 513) (by decide +kernel)⟩
theorem lw_p15 : lw_okq (⟨"WeatherHand$Deeds", "begin", "(I)V"⟩, 7) := ⟨⟨by decide +kernel, by decide +kernel⟩, List.mem_of_getElem? (i := 78) (by decide +kernel), List.mem_of_getElem? (i := 521) (by decide +kernel), List.mem_of_getElem? (i := 522) (by decide +kernel)⟩
def lw_privs_1 : List (MethodName × Nat) := [(⟨"WeatherHand$Reader", "skipBlanks", "()V"⟩, 5), (⟨"WeatherHand$Reader", "current", "()I"⟩, 5), (⟨"WeatherHand$Reader", "readClause", "(LWeatherHand$Valley;)V"⟩, 5), (⟨"WeatherHand$Reader", "fail", "(II)V"⟩, 5), (⟨"WeatherHand$Reader", "readWeather", "(LWeatherHand$Valley;)V"⟩, 5), (⟨"WeatherHand$Reader", "readNumber", "(II)I"⟩, 5), (⟨"WeatherHand$Reader", "readRains", "(LWeatherHand$Valley;)V"⟩, 5), (⟨"WeatherHand$Reader", "takeIf", "(I)Z"⟩, 5), (⟨"WeatherHand$Reader", "readHand", "(LWeatherHand$Valley;)V"⟩, 5), (⟨"WeatherHand$Reader", "readPaper", "(LWeatherHand$Valley;)V"⟩, 5), (⟨"WeatherHand$Archive", "beginPaper", "(IIII)V"⟩, 7), (⟨"WeatherHand", "dropMeasures", "()I"⟩, 12), (⟨"WeatherHand", "ofAllLetters", "(II)I"⟩, 12), (⟨"WeatherHand", "isMeasured", "(II)Z"⟩, 12), (⟨"WeatherHand", "append", "(IIII)V"⟩, 12), (⟨"WeatherHand$Deeds", "begin", "(I)V"⟩, 7)]
theorem lw_r1 : ∀ q ∈ lw_privs_1, lw_okq q := List.forall_mem_cons.mpr ⟨lw_p0, List.forall_mem_cons.mpr ⟨lw_p1, List.forall_mem_cons.mpr ⟨lw_p2, List.forall_mem_cons.mpr ⟨lw_p3, List.forall_mem_cons.mpr ⟨lw_p4, List.forall_mem_cons.mpr ⟨lw_p5, List.forall_mem_cons.mpr ⟨lw_p6, List.forall_mem_cons.mpr ⟨lw_p7, List.forall_mem_cons.mpr ⟨lw_p8, List.forall_mem_cons.mpr ⟨lw_p9, List.forall_mem_cons.mpr ⟨lw_p10, List.forall_mem_cons.mpr ⟨lw_p11, List.forall_mem_cons.mpr ⟨lw_p12, List.forall_mem_cons.mpr ⟨lw_p13, List.forall_mem_cons.mpr ⟨lw_p14, List.forall_mem_cons.mpr ⟨lw_p15, fun _ h => absurd h List.not_mem_nil⟩⟩⟩⟩⟩⟩⟩⟩⟩⟩⟩⟩⟩⟩⟩⟩
theorem lw_p16 : lw_okq (⟨"WeatherHand$Beginnings", "greatestPart", "(LWeatherHand$Valley;I)I"⟩, 5) := ⟨⟨by decide +kernel, by decide +kernel⟩, List.mem_of_getElem? (i := 127) (by decide +kernel), List.mem_of_getElem? (i := 633) (by decide +kernel), List.mem_of_getElem? (i := 634) (by decide +kernel)⟩
theorem lw_p17 : lw_okq (⟨"WeatherHand$Finding", "likenessOf", "(III)I"⟩, 3) := ⟨⟨by decide +kernel, by decide +kernel⟩, List.mem_of_getElem? (i := 150) (by decide +kernel), List.mem_of_getElem? (i := 675) (by decide +kernel), List.mem_of_getElem? (i := 676) (by decide +kernel)⟩
theorem lw_p18 : lw_okq (⟨"WeatherHand", "imageOf", "(I)LWeatherHand$Archive;"⟩, 12) := ⟨⟨by decide +kernel, by decide +kernel⟩, List.mem_of_getElem? (i := 14) (by decide +kernel), List.mem_of_getElem? (i := 743) (by decide +kernel), List.mem_of_getElem? (i := 744) (by decide +kernel)⟩
theorem lw_p19 : lw_okq (⟨"WeatherHandModel", "here", "()I"⟩, 33) := ⟨⟨by decide +kernel, by decide +kernel⟩, List.mem_of_getElem? (i := 758) (by decide +kernel), List.mem_of_getElem? (i := 879) (by decide +kernel), List.mem_of_getElem? (i := 880) (by decide +kernel)⟩
theorem lw_p20 : lw_okq (⟨"WeatherHandModel", "takeClause", "()V"⟩, 33) := ⟨⟨by decide +kernel, by decide +kernel⟩, List.mem_of_getElem? (i := 758) (by decide +kernel), List.mem_of_getElem? (i := 883) (by decide +kernel), List.mem_of_getElem? (i := 884) (by decide +kernel)⟩
theorem lw_p21 : lw_okq (⟨"WeatherHandModel", "want", "(ZII)Z"⟩, 33) := ⟨⟨by decide +kernel, by decide +kernel⟩, List.mem_of_getElem? (i := 758) (by decide +kernel), List.mem_of_getElem? (i := 887) (by decide +kernel), List.mem_of_getElem? (i := 888) (by decide +kernel)⟩
theorem lw_p22 : lw_okq (⟨"WeatherHandModel", "takeValley", "(I)V"⟩, 33) := ⟨⟨by decide +kernel, by decide +kernel⟩, List.mem_of_getElem? (i := 758) (by decide +kernel), List.mem_of_getElem? (i := 891) (by decide +kernel), List.mem_of_getElem? (i := 892) (by decide +kernel)⟩
theorem lw_p23 : lw_okq (⟨"WeatherHandModel", "takeIn", "(II)I"⟩, 33) := ⟨⟨by decide +kernel, by decide +kernel⟩, List.mem_of_getElem? (i := 758) (by decide +kernel), List.mem_of_getElem? (i := 895) (by decide +kernel), List.mem_of_getElem? (i := 896) (by decide +kernel)⟩
theorem lw_p24 : lw_okq (⟨"WeatherHandModel", "takeNumber", "()I"⟩, 33) := ⟨⟨by decide +kernel, by decide +kernel⟩, List.mem_of_getElem? (i := 758) (by decide +kernel), List.mem_of_getElem? (i := 899) (by decide +kernel), List.mem_of_getElem? (i := 900) (by decide +kernel)⟩
theorem lw_p25 : lw_okq (⟨"WeatherHandModel", "takeRains", "(I)V"⟩, 33) := ⟨⟨by decide +kernel, by decide +kernel⟩, List.mem_of_getElem? (i := 758) (by decide +kernel), List.mem_of_getElem? (i := 906) (by decide +kernel), List.mem_of_getElem? (i := 907) (by decide +kernel)⟩
theorem lw_p26 : lw_okq (⟨"WeatherHandModel", "takeHand", "(I)V"⟩, 33) := ⟨⟨by decide +kernel, by decide +kernel⟩, List.mem_of_getElem? (i := 758) (by decide +kernel), List.mem_of_getElem? (i := 910) (by decide +kernel), List.mem_of_getElem? (i := 911) (by decide +kernel)⟩
theorem lw_p27 : lw_okq (⟨"WeatherHandModel", "takePaper", "(I)V"⟩, 33) := ⟨⟨by decide +kernel, by decide +kernel⟩, List.mem_of_getElem? (i := 758) (by decide +kernel), List.mem_of_getElem? (i := 914) (by decide +kernel), List.mem_of_getElem? (i := 915) (by decide +kernel)⟩
theorem lw_p28 : lw_okq (⟨"WeatherHandModel", "take", "()V"⟩, 33) := ⟨⟨by decide +kernel, by decide +kernel⟩, List.mem_of_getElem? (i := 758) (by decide +kernel), List.mem_of_getElem? (i := 918) (by decide +kernel), List.mem_of_getElem? (i := 919) (by decide +kernel)⟩
theorem lw_p29 : lw_okq (⟨"WeatherHandModel", "takeHands", "()V"⟩, 33) := ⟨⟨by decide +kernel, by decide +kernel⟩, List.mem_of_getElem? (i := 758) (by decide +kernel), List.mem_of_getElem? (i := 922) (by decide +kernel), List.mem_of_getElem? (i := 923) (by decide +kernel)⟩
theorem lw_p30 : lw_okq (⟨"WeatherHandModel", "put", "(IIII)V"⟩, 33) := ⟨⟨by decide +kernel, by decide +kernel⟩, List.mem_of_getElem? (i := 758) (by decide +kernel), List.mem_of_getElem? (i := 926) (by decide +kernel), List.mem_of_getElem? (i := 927) (by decide +kernel)⟩
theorem lw_p31 : lw_okq (⟨"WeatherHandModel", "allLetters", "()I"⟩, 33) := ⟨⟨by decide +kernel, by decide +kernel⟩, List.mem_of_getElem? (i := 758) (by decide +kernel), List.mem_of_getElem? (i := 941) (by decide +kernel), List.mem_of_getElem? (i := 942) (by decide +kernel)⟩
def lw_privs_2 : List (MethodName × Nat) := [(⟨"WeatherHand$Beginnings", "greatestPart", "(LWeatherHand$Valley;I)I"⟩, 5), (⟨"WeatherHand$Finding", "likenessOf", "(III)I"⟩, 3), (⟨"WeatherHand", "imageOf", "(I)LWeatherHand$Archive;"⟩, 12), (⟨"WeatherHandModel", "here", "()I"⟩, 33), (⟨"WeatherHandModel", "takeClause", "()V"⟩, 33), (⟨"WeatherHandModel", "want", "(ZII)Z"⟩, 33), (⟨"WeatherHandModel", "takeValley", "(I)V"⟩, 33), (⟨"WeatherHandModel", "takeIn", "(II)I"⟩, 33), (⟨"WeatherHandModel", "takeNumber", "()I"⟩, 33), (⟨"WeatherHandModel", "takeRains", "(I)V"⟩, 33), (⟨"WeatherHandModel", "takeHand", "(I)V"⟩, 33), (⟨"WeatherHandModel", "takePaper", "(I)V"⟩, 33), (⟨"WeatherHandModel", "take", "()V"⟩, 33), (⟨"WeatherHandModel", "takeHands", "()V"⟩, 33), (⟨"WeatherHandModel", "put", "(IIII)V"⟩, 33), (⟨"WeatherHandModel", "allLetters", "()I"⟩, 33)]
theorem lw_r2 : ∀ q ∈ lw_privs_2, lw_okq q := List.forall_mem_cons.mpr ⟨lw_p16, List.forall_mem_cons.mpr ⟨lw_p17, List.forall_mem_cons.mpr ⟨lw_p18, List.forall_mem_cons.mpr ⟨lw_p19, List.forall_mem_cons.mpr ⟨lw_p20, List.forall_mem_cons.mpr ⟨lw_p21, List.forall_mem_cons.mpr ⟨lw_p22, List.forall_mem_cons.mpr ⟨lw_p23, List.forall_mem_cons.mpr ⟨lw_p24, List.forall_mem_cons.mpr ⟨lw_p25, List.forall_mem_cons.mpr ⟨lw_p26, List.forall_mem_cons.mpr ⟨lw_p27, List.forall_mem_cons.mpr ⟨lw_p28, List.forall_mem_cons.mpr ⟨lw_p29, List.forall_mem_cons.mpr ⟨lw_p30, List.forall_mem_cons.mpr ⟨lw_p31, fun _ h => absurd h List.not_mem_nil⟩⟩⟩⟩⟩⟩⟩⟩⟩⟩⟩⟩⟩⟩⟩⟩
theorem lw_p32 : lw_okq (⟨"WeatherHandModel", "rainOf", "(I)I"⟩, 33) := ⟨⟨by decide +kernel, by decide +kernel⟩, List.mem_of_getElem? (i := 758) (by decide +kernel), List.mem_of_getElem? (i := 955) (by decide +kernel), List.mem_of_getElem? (i := 956) (by decide +kernel)⟩
theorem lw_p33 : lw_okq (⟨"WeatherHandModel", "dampBy", "(II)I"⟩, 33) := ⟨⟨by decide +kernel, by decide +kernel⟩, List.mem_of_getElem? (i := 758) (by decide +kernel), List.mem_of_getElem? (i := 959) (by decide +kernel), List.mem_of_getElem? (i := 960) (by decide +kernel)⟩
theorem lw_p34 : lw_okq (⟨"WeatherHandModel", "lightAt", "(I)I"⟩, 33) := ⟨⟨by decide +kernel, by decide +kernel⟩, List.mem_of_getElem? (i := 758) (by decide +kernel), List.mem_of_getElem? (i := 963) (by decide +kernel), List.mem_of_getElem? (i := 964) (by decide +kernel)⟩
theorem lw_p35 : lw_okq (⟨"WeatherHandModel", "isHand", "(I)Z"⟩, 33) := ⟨⟨by decide +kernel, by decide +kernel⟩, List.mem_of_getElem? (i := 758) (by decide +kernel), List.mem_of_getElem? (i := 971) (by decide +kernel), List.mem_of_getElem? (i := 972) (by decide +kernel)⟩
theorem lw_p36 : lw_okq (⟨"WeatherHandModel", "isPaper", "(I)Z"⟩, 33) := ⟨⟨by decide +kernel, by decide +kernel⟩, List.mem_of_getElem? (i := 758) (by decide +kernel), List.mem_of_getElem? (i := 980) (by decide +kernel), List.mem_of_getElem? (i := 981) (by decide +kernel)⟩
theorem lw_p37 : lw_okq (⟨"WeatherHandModel", "isLetter", "(II)Z"⟩, 33) := ⟨⟨by decide +kernel, by decide +kernel⟩, List.mem_of_getElem? (i := 758) (by decide +kernel), List.mem_of_getElem? (i := 984) (by decide +kernel), List.mem_of_getElem? (i := 985) (by decide +kernel)⟩
theorem lw_p38 : lw_okq (⟨"WeatherHandModel", "forgedIn", "(I)I"⟩, 33) := ⟨⟨by decide +kernel, by decide +kernel⟩, List.mem_of_getElem? (i := 758) (by decide +kernel), List.mem_of_getElem? (i := 988) (by decide +kernel), List.mem_of_getElem? (i := 989) (by decide +kernel)⟩
theorem lw_p39 : lw_okq (⟨"WeatherHandModel", "airOf", "(II)I"⟩, 33) := ⟨⟨by decide +kernel, by decide +kernel⟩, List.mem_of_getElem? (i := 758) (by decide +kernel), List.mem_of_getElem? (i := 992) (by decide +kernel), List.mem_of_getElem? (i := 993) (by decide +kernel)⟩
theorem lw_p40 : lw_okq (⟨"WeatherHandModel", "lookOf", "(II)I"⟩, 33) := ⟨⟨by decide +kernel, by decide +kernel⟩, List.mem_of_getElem? (i := 758) (by decide +kernel), List.mem_of_getElem? (i := 996) (by decide +kernel), List.mem_of_getElem? (i := 997) (by decide +kernel)⟩
theorem lw_p41 : lw_okq (⟨"WeatherHandModel", "handOf", "(II)I"⟩, 33) := ⟨⟨by decide +kernel, by decide +kernel⟩, List.mem_of_getElem? (i := 758) (by decide +kernel), List.mem_of_getElem? (i := 1000) (by decide +kernel), List.mem_of_getElem? (i := 1001) (by decide +kernel)⟩
theorem lw_p42 : lw_okq (⟨"WeatherHandModel", "hourOf", "(II)I"⟩, 33) := ⟨⟨by decide +kernel, by decide +kernel⟩, List.mem_of_getElem? (i := 758) (by decide +kernel), List.mem_of_getElem? (i := 1004) (by decide +kernel), List.mem_of_getElem? (i := 1005) (by decide +kernel)⟩
theorem lw_p43 : lw_okq (⟨"WeatherHandModel", "lookAt", "(II)I"⟩, 33) := ⟨⟨by decide +kernel, by decide +kernel⟩, List.mem_of_getElem? (i := 758) (by decide +kernel), List.mem_of_getElem? (i := 1008) (by decide +kernel), List.mem_of_getElem? (i := 1009) (by decide +kernel)⟩
theorem lw_p44 : lw_okq (⟨"WeatherHandModel", "lookBy", "(III)I"⟩, 33) := ⟨⟨by decide +kernel, by decide +kernel⟩, List.mem_of_getElem? (i := 758) (by decide +kernel), List.mem_of_getElem? (i := 1012) (by decide +kernel), List.mem_of_getElem? (i := 1013) (by decide +kernel)⟩
theorem lw_p45 : lw_okq (⟨"WeatherHandModel", "remember", "()V"⟩, 33) := ⟨⟨by decide +kernel, by decide +kernel⟩, List.mem_of_getElem? (i := 758) (by decide +kernel), List.mem_of_getElem? (i := 1020) (by decide +kernel), List.mem_of_getElem? (i := 1021) (by decide +kernel)⟩
theorem lw_p46 : lw_okq (⟨"WeatherHandModel", "copy", "(II)V"⟩, 33) := ⟨⟨by decide +kernel, by decide +kernel⟩, List.mem_of_getElem? (i := 758) (by decide +kernel), List.mem_of_getElem? (i := 1024) (by decide +kernel), List.mem_of_getElem? (i := 1025) (by decide +kernel)⟩
theorem lw_p47 : lw_okq (⟨"WeatherHandModel", "draw", "(I)I"⟩, 33) := ⟨⟨by decide +kernel, by decide +kernel⟩, List.mem_of_getElem? (i := 758) (by decide +kernel), List.mem_of_getElem? (i := 1041) (by decide +kernel), List.mem_of_getElem? (i := 1042) (by decide +kernel)⟩
def lw_privs_3 : List (MethodName × Nat) := [(⟨"WeatherHandModel", "rainOf", "(I)I"⟩, 33), (⟨"WeatherHandModel", "dampBy", "(II)I"⟩, 33), (⟨"WeatherHandModel", "lightAt", "(I)I"⟩, 33), (⟨"WeatherHandModel", "isHand", "(I)Z"⟩, 33), (⟨"WeatherHandModel", "isPaper", "(I)Z"⟩, 33), (⟨"WeatherHandModel", "isLetter", "(II)Z"⟩, 33), (⟨"WeatherHandModel", "forgedIn", "(I)I"⟩, 33), (⟨"WeatherHandModel", "airOf", "(II)I"⟩, 33), (⟨"WeatherHandModel", "lookOf", "(II)I"⟩, 33), (⟨"WeatherHandModel", "handOf", "(II)I"⟩, 33), (⟨"WeatherHandModel", "hourOf", "(II)I"⟩, 33), (⟨"WeatherHandModel", "lookAt", "(II)I"⟩, 33), (⟨"WeatherHandModel", "lookBy", "(III)I"⟩, 33), (⟨"WeatherHandModel", "remember", "()V"⟩, 33), (⟨"WeatherHandModel", "copy", "(II)V"⟩, 33), (⟨"WeatherHandModel", "draw", "(I)I"⟩, 33)]
theorem lw_r3 : ∀ q ∈ lw_privs_3, lw_okq q := List.forall_mem_cons.mpr ⟨lw_p32, List.forall_mem_cons.mpr ⟨lw_p33, List.forall_mem_cons.mpr ⟨lw_p34, List.forall_mem_cons.mpr ⟨lw_p35, List.forall_mem_cons.mpr ⟨lw_p36, List.forall_mem_cons.mpr ⟨lw_p37, List.forall_mem_cons.mpr ⟨lw_p38, List.forall_mem_cons.mpr ⟨lw_p39, List.forall_mem_cons.mpr ⟨lw_p40, List.forall_mem_cons.mpr ⟨lw_p41, List.forall_mem_cons.mpr ⟨lw_p42, List.forall_mem_cons.mpr ⟨lw_p43, List.forall_mem_cons.mpr ⟨lw_p44, List.forall_mem_cons.mpr ⟨lw_p45, List.forall_mem_cons.mpr ⟨lw_p46, List.forall_mem_cons.mpr ⟨lw_p47, fun _ h => absurd h List.not_mem_nil⟩⟩⟩⟩⟩⟩⟩⟩⟩⟩⟩⟩⟩⟩⟩⟩
theorem lw_p48 : lw_okq (⟨"WeatherHandModel", "hoursOf", "(III)I"⟩, 33) := ⟨⟨by decide +kernel, by decide +kernel⟩, List.mem_of_getElem? (i := 758) (by decide +kernel), List.mem_of_getElem? (i := 1061) (by decide +kernel), List.mem_of_getElem? (i := 1062) (by decide +kernel)⟩
theorem lw_p49 : lw_okq (⟨"WeatherHandModel", "runFrom", "(IIII)I"⟩, 33) := ⟨⟨by decide +kernel, by decide +kernel⟩, List.mem_of_getElem? (i := 758) (by decide +kernel), List.mem_of_getElem? (i := 1073) (by decide +kernel), List.mem_of_getElem? (i := 1074) (by decide +kernel)⟩
theorem lw_p50 : lw_okq (⟨"WeatherHandModel", "longestRun", "(III)I"⟩, 33) := ⟨⟨by decide +kernel, by decide +kernel⟩, List.mem_of_getElem? (i := 758) (by decide +kernel), List.mem_of_getElem? (i := 1081) (by decide +kernel), List.mem_of_getElem? (i := 1082) (by decide +kernel)⟩
theorem lw_p51 : lw_okq (⟨"WeatherHandModel", "findBegins", "(I)I"⟩, 33) := ⟨⟨by decide +kernel, by decide +kernel⟩, List.mem_of_getElem? (i := 758) (by decide +kernel), List.mem_of_getElem? (i := 1089) (by decide +kernel), List.mem_of_getElem? (i := 1090) (by decide +kernel)⟩
theorem lw_p52 : lw_okq (⟨"WeatherHandModel", "couldBegin", "(III)Z"⟩, 33) := ⟨⟨by decide +kernel, by decide +kernel⟩, List.mem_of_getElem? (i := 758) (by decide +kernel), List.mem_of_getElem? (i := 1093) (by decide +kernel), List.mem_of_getElem? (i := 1094) (by decide +kernel)⟩
theorem lw_p53 : lw_okq (⟨"WeatherHandModel", "greatestPart", "(I)I"⟩, 33) := ⟨⟨by decide +kernel, by decide +kernel⟩, List.mem_of_getElem? (i := 758) (by decide +kernel), List.mem_of_getElem? (i := 1100) (by decide +kernel), List.mem_of_getElem? (i := 1101) (by decide +kernel)⟩
theorem lw_p54 : lw_okq (⟨"WeatherHandModel", "layFits", "()V"⟩, 33) := ⟨⟨by decide +kernel, by decide +kernel⟩, List.mem_of_getElem? (i := 758) (by decide +kernel), List.mem_of_getElem? (i := 1118) (by decide +kernel), List.mem_of_getElem? (i := 1119) (by decide +kernel)⟩
theorem lw_p55 : lw_okq (⟨"WeatherHandModel", "fitsBy", "(I)I"⟩, 33) := ⟨⟨by decide +kernel, by decide +kernel⟩, List.mem_of_getElem? (i := 758) (by decide +kernel), List.mem_of_getElem? (i := 1122) (by decide +kernel), List.mem_of_getElem? (i := 1123) (by decide +kernel)⟩
theorem lw_p56 : lw_okq (⟨"WeatherHandModel", "rained", "(II)Z"⟩, 33) := ⟨⟨by decide +kernel, by decide +kernel⟩, List.mem_of_getElem? (i := 758) (by decide +kernel), List.mem_of_getElem? (i := 1142) (by decide +kernel), List.mem_of_getElem? (i := 1143) (by decide +kernel)⟩
def lw_privs_4 : List (MethodName × Nat) := [(⟨"WeatherHandModel", "hoursOf", "(III)I"⟩, 33), (⟨"WeatherHandModel", "runFrom", "(IIII)I"⟩, 33), (⟨"WeatherHandModel", "longestRun", "(III)I"⟩, 33), (⟨"WeatherHandModel", "findBegins", "(I)I"⟩, 33), (⟨"WeatherHandModel", "couldBegin", "(III)Z"⟩, 33), (⟨"WeatherHandModel", "greatestPart", "(I)I"⟩, 33), (⟨"WeatherHandModel", "layFits", "()V"⟩, 33), (⟨"WeatherHandModel", "fitsBy", "(I)I"⟩, 33), (⟨"WeatherHandModel", "rained", "(II)Z"⟩, 33)]
theorem lw_r4 : ∀ q ∈ lw_privs_4, lw_okq q := List.forall_mem_cons.mpr ⟨lw_p48, List.forall_mem_cons.mpr ⟨lw_p49, List.forall_mem_cons.mpr ⟨lw_p50, List.forall_mem_cons.mpr ⟨lw_p51, List.forall_mem_cons.mpr ⟨lw_p52, List.forall_mem_cons.mpr ⟨lw_p53, List.forall_mem_cons.mpr ⟨lw_p54, List.forall_mem_cons.mpr ⟨lw_p55, List.forall_mem_cons.mpr ⟨lw_p56, fun _ h => absurd h List.not_mem_nil⟩⟩⟩⟩⟩⟩⟩⟩⟩
def lw_privs : List (MethodName × Nat) := lw_privs_1 ++ (lw_privs_2 ++ (lw_privs_3 ++ (lw_privs_4)))
def lw_tbl : List Cond := k2_sels lw_privs ++ tables_1
theorem lw_privs_ok : ∀ q ∈ lw_privs, lw_okq q := by
  show ∀ q ∈ lw_privs_1 ++ (lw_privs_2 ++ (lw_privs_3 ++ (lw_privs_4))), lw_okq q
  exact List.forall_mem_append.mpr ⟨lw_r1, List.forall_mem_append.mpr ⟨lw_r2, List.forall_mem_append.mpr ⟨lw_r3, lw_r4⟩⟩⟩
def RX0 : String := "WeatherHand$Archive"
def TX0 : u_T := fun k => match k with
  | 0 => ("WeatherHand$Archive", "counts", "[I", true)
  | 1 => ("WeatherHand$Archive", "hours", "[I", true)
  | 2 => ("WeatherHand$Archive", "writers", "[I", true)
  | 3 => ("WeatherHand$Archive", "airs", "[I", true)
  | 4 => ("WeatherHand$Archive", "bottled", "I", false)
  | 5 => ("WeatherHand$Archive", "seedNow", "I", false)
  | _ => ("WeatherHand$Archive", "kept", "Z", false)
def tyX0 : Nat → FieldType := fun k => match k with
  | 0 => .array .int
  | 1 => .array .int
  | 2 => .array .int
  | 3 => .array .int
  | 4 => .int
  | 5 => .int
  | _ => .boolean
theorem nmX0 : ∀ a, a < 7 → ∀ b, b < 7 → a ≠ b → (TX0 a).2.1 ≠ (TX0 b).2.1 := by decide +kernel
theorem tyX0_ok : ∀ k, k < 7 → parseFieldDescriptor (TX0 k).2.2.1 = some (tyX0 k) := by decide +kernel
abbrev cX0_init : ByteArray := prog_2_method_1_code
def yX0_init : MethodName := ⟨RX0, "<init>", "()V"⟩
abbrev cX0_beginAs : ByteArray := prog_2_method_2_code
def yX0_beginAs : MethodName := ⟨RX0, "beginAs", "(LWeatherHand$Valley;)V"⟩
abbrev cX0_beginPaper : ByteArray := prog_2_method_3_code
def yX0_beginPaper : MethodName := ⟨RX0, "beginPaper", "(IIII)V"⟩
abbrev cX0_copyFrom : ByteArray := prog_2_method_4_code
def yX0_copyFrom : MethodName := ⟨RX0, "copyFrom", "(LWeatherHand$Archive;)V"⟩
abbrev cX0_countOf : ByteArray := prog_2_method_5_code
def yX0_countOf : MethodName := ⟨RX0, "countOf", "(I)I"⟩
abbrev cX0_countAll : ByteArray := prog_2_method_6_code
def yX0_countAll : MethodName := ⟨RX0, "countAll", "()I"⟩
abbrev cX0_countForged : ByteArray := prog_2_method_7_code
def yX0_countForged : MethodName := ⟨RX0, "countForged", "(I)I"⟩
abbrev cX0_isFull : ByteArray := prog_2_method_8_code
def yX0_isFull : MethodName := ⟨RX0, "isFull", "(I)Z"⟩
abbrev cX0_hasLetter : ByteArray := prog_2_method_9_code
def yX0_hasLetter : MethodName := ⟨RX0, "hasLetter", "(II)Z"⟩
abbrev cX0_hourOf : ByteArray := prog_2_method_10_code
def yX0_hourOf : MethodName := ⟨RX0, "hourOf", "(II)I"⟩
abbrev cX0_writerOf : ByteArray := prog_2_method_11_code
def yX0_writerOf : MethodName := ⟨RX0, "writerOf", "(II)I"⟩
abbrev cX0_airOf : ByteArray := prog_2_method_12_code
def yX0_airOf : MethodName := ⟨RX0, "airOf", "(II)I"⟩
abbrev cX0_isForged : ByteArray := prog_2_method_13_code
def yX0_isForged : MethodName := ⟨RX0, "isForged", "(II)Z"⟩
abbrev cX0_lookOf : ByteArray := prog_2_method_14_code
def yX0_lookOf : MethodName := ⟨RX0, "lookOf", "(LWeatherHand$Valley;II)I"⟩
abbrev cX0_looksAsBy : ByteArray := prog_2_method_15_code
def yX0_looksAsBy : MethodName := ⟨RX0, "looksAsBy", "(LWeatherHand$Valley;III)Z"⟩
abbrev cX0_countAsBy : ByteArray := prog_2_method_16_code
def yX0_countAsBy : MethodName := ⟨RX0, "countAsBy", "(LWeatherHand$Valley;II)I"⟩
abbrev cX0_put : ByteArray := prog_2_method_17_code
def yX0_put : MethodName := ⟨RX0, "put", "(IIII)V"⟩
abbrev cX0_dropLast : ByteArray := prog_2_method_18_code
def yX0_dropLast : MethodName := ⟨RX0, "dropLast", "(I)V"⟩
abbrev cX0_draw : ByteArray := prog_2_method_19_code
def yX0_draw : MethodName := ⟨RX0, "draw", "(I)I"⟩
abbrev cX0_rowFrom : ByteArray := prog_2_method_20_code
def yX0_rowFrom : MethodName := ⟨RX0, "rowFrom", "(LWeatherHand$Valley;IIII)I"⟩
abbrev cX0_longestRow : ByteArray := prog_2_method_21_code
def yX0_longestRow : MethodName := ⟨RX0, "longestRow", "(LWeatherHand$Valley;III)I"⟩
abbrev cX0_fewestRows : ByteArray := prog_2_method_22_code
def yX0_fewestRows : MethodName := ⟨RX0, "fewestRows", "(LWeatherHand$Valley;II)I"⟩
abbrev cX0_fitsRain : ByteArray := prog_2_method_23_code
def yX0_fitsRain : MethodName := ⟨RX0, "fitsRain", "(LWeatherHand$Valley;II)Z"⟩
def RX1 : String := "WeatherHand$Beginnings"
def TX1 : u_T := fun k => match k with
  | 0 => ("WeatherHand$Beginnings", "writers", "[I", true)
  | 1 => ("WeatherHand$Beginnings", "starts", "[I", true)
  | 2 => ("WeatherHand$Beginnings", "kinds", "[I", true)
  | 3 => ("WeatherHand$Beginnings", "alike", "[I", true)
  | _ => ("WeatherHand$Beginnings", "count", "I", false)
def tyX1 : Nat → FieldType := fun k => match k with
  | 0 => .array .int
  | 1 => .array .int
  | 2 => .array .int
  | 3 => .array .int
  | _ => .int
theorem nmX1 : ∀ a, a < 5 → ∀ b, b < 5 → a ≠ b → (TX1 a).2.1 ≠ (TX1 b).2.1 := by decide +kernel
theorem tyX1_ok : ∀ k, k < 5 → parseFieldDescriptor (TX1 k).2.2.1 = some (tyX1 k) := by decide +kernel
abbrev cX1_init : ByteArray := prog_3_method_1_code
def yX1_init : MethodName := ⟨RX1, "<init>", "()V"⟩
abbrev cX1_gather : ByteArray := prog_3_method_2_code
def yX1_gather : MethodName := ⟨RX1, "gather", "(LWeatherHand$Valley;LWeatherHand$Archive;II)V"⟩
abbrev cX1_fits : ByteArray := prog_3_method_3_code
def yX1_fits : MethodName := ⟨RX1, "fits", "(LWeatherHand$Valley;LWeatherHand$Archive;IIII)Z"⟩
abbrev cX1_bestLetter : ByteArray := prog_3_method_4_code
def yX1_bestLetter : MethodName := ⟨RX1, "bestLetter", "(LWeatherHand$Valley;I)I"⟩
abbrev cX1_greatestPart : ByteArray := prog_3_method_5_code
def yX1_greatestPart : MethodName := ⟨RX1, "greatestPart", "(LWeatherHand$Valley;I)I"⟩
abbrev cX1_kindOfLook : ByteArray := prog_3_method_6_code
def yX1_kindOfLook : MethodName := ⟨RX1, "kindOfLook", "(I)I"⟩
def RX2 : String := "WeatherHand$Book"
def TX2 : u_T := fun k => match k with
  | 0 => ("WeatherHand$Book", "papers", "[I", true)
  | 1 => ("WeatherHand$Book", "places", "[I", true)
  | 2 => ("WeatherHand$Book", "looks", "[I", true)
  | _ => ("WeatherHand$Book", "entries", "I", false)
def tyX2 : Nat → FieldType := fun k => match k with
  | 0 => .array .int
  | 1 => .array .int
  | 2 => .array .int
  | _ => .int
theorem nmX2 : ∀ a, a < 4 → ∀ b, b < 4 → a ≠ b → (TX2 a).2.1 ≠ (TX2 b).2.1 := by decide +kernel
theorem tyX2_ok : ∀ k, k < 4 → parseFieldDescriptor (TX2 k).2.2.1 = some (tyX2 k) := by decide +kernel
abbrev cX2_init : ByteArray := prog_4_method_1_code
def yX2_init : MethodName := ⟨RX2, "<init>", "()V"⟩
abbrev cX2_enter : ByteArray := prog_4_method_2_code
def yX2_enter : MethodName := ⟨RX2, "enter", "(III)I"⟩
abbrev cX2_firstWrong : ByteArray := prog_4_method_3_code
def yX2_firstWrong : MethodName := ⟨RX2, "firstWrong", "(LWeatherHand$Valley;LWeatherHand$Archive;)I"⟩
def RX3 : String := "WeatherHand$Deeds"
def TX3 : u_T := fun k => match k with
  | 0 => ("WeatherHand$Deeds", "kinds", "[I", true)
  | 1 => ("WeatherHand$Deeds", "papers", "[I", true)
  | 2 => ("WeatherHand$Deeds", "writers", "[I", true)
  | 3 => ("WeatherHand$Deeds", "hours", "[I", true)
  | 4 => ("WeatherHand$Deeds", "airs", "[I", true)
  | 5 => ("WeatherHand$Deeds", "newest", "I", false)
  | _ => ("WeatherHand$Deeds", "count", "I", false)
def tyX3 : Nat → FieldType := fun k => match k with
  | 0 => .array .int
  | 1 => .array .int
  | 2 => .array .int
  | 3 => .array .int
  | 4 => .array .int
  | 5 => .int
  | _ => .int
theorem nmX3 : ∀ a, a < 7 → ∀ b, b < 7 → a ≠ b → (TX3 a).2.1 ≠ (TX3 b).2.1 := by decide +kernel
theorem tyX3_ok : ∀ k, k < 7 → parseFieldDescriptor (TX3 k).2.2.1 = some (tyX3 k) := by decide +kernel
abbrev cX3_init : ByteArray := prog_5_method_1_code
def yX3_init : MethodName := ⟨RX3, "<init>", "()V"⟩
abbrev cX3_forget : ByteArray := prog_5_method_2_code
def yX3_forget : MethodName := ⟨RX3, "forget", "()V"⟩
abbrev cX3_begin : ByteArray := prog_5_method_3_code
def yX3_begin : MethodName := ⟨RX3, "begin", "(I)V"⟩
abbrev cX3_noteAdded : ByteArray := prog_5_method_4_code
def yX3_noteAdded : MethodName := ⟨RX3, "noteAdded", "(I)V"⟩
abbrev cX3_noteBlotted : ByteArray := prog_5_method_5_code
def yX3_noteBlotted : MethodName := ⟨RX3, "noteBlotted", "(IIII)V"⟩
abbrev cX3_noteBottled : ByteArray := prog_5_method_6_code
def yX3_noteBottled : MethodName := ⟨RX3, "noteBottled", "(I)V"⟩
abbrev cX3_takeBackLast : ByteArray := prog_5_method_7_code
def yX3_takeBackLast : MethodName := ⟨RX3, "takeBackLast", "(LWeatherHand$Archive;)V"⟩
def RX4 : String := "WeatherHand$Finding"
def TX4 : u_T := fun k => match k with
  | 0 => ("WeatherHand$Finding", "likenesses", "[I", true)
  | 1 => ("WeatherHand$Finding", "most", "I", false)
  | _ => ("WeatherHand$Finding", "bestCode", "I", false)
def tyX4 : Nat → FieldType := fun k => match k with
  | 0 => .array .int
  | 1 => .int
  | _ => .int
theorem nmX4 : ∀ a, a < 3 → ∀ b, b < 3 → a ≠ b → (TX4 a).2.1 ≠ (TX4 b).2.1 := by decide +kernel
theorem tyX4_ok : ∀ k, k < 3 → parseFieldDescriptor (TX4 k).2.2.1 = some (tyX4 k) := by decide +kernel
abbrev cX4_init : ByteArray := prog_6_method_1_code
def yX4_init : MethodName := ⟨RX4, "<init>", "()V"⟩
abbrev cX4_compare : ByteArray := prog_6_method_2_code
def yX4_compare : MethodName := ⟨RX4, "compare", "(LWeatherHand$Valley;LWeatherHand$Archive;)V"⟩
abbrev cX4_search : ByteArray := prog_6_method_3_code
def yX4_search : MethodName := ⟨RX4, "search", "(II)V"⟩
abbrev cX4_handOf : ByteArray := prog_6_method_4_code
def yX4_handOf : MethodName := ⟨RX4, "handOf", "(II)I"⟩
abbrev cX4_handIn : ByteArray := prog_6_method_5_code
def yX4_handIn : MethodName := ⟨RX4, "handIn", "(III)I"⟩
abbrev cX4_likenessOf : ByteArray := prog_6_method_6_code
def yX4_likenessOf : MethodName := ⟨RX4, "likenessOf", "(III)I"⟩
def RX5 : String := "WeatherHand$Reader"
def TX5 : u_T := fun k => match k with
  | 0 => ("WeatherHand$Reader", "letters", "[I", true)
  | 1 => ("WeatherHand$Reader", "length", "I", false)
  | 2 => ("WeatherHand$Reader", "at", "I", false)
  | 3 => ("WeatherHand$Reader", "faultKind", "I", false)
  | _ => ("WeatherHand$Reader", "faultAt", "I", false)
def tyX5 : Nat → FieldType := fun k => match k with
  | 0 => .array .int
  | 1 => .int
  | 2 => .int
  | 3 => .int
  | _ => .int
theorem nmX5 : ∀ a, a < 5 → ∀ b, b < 5 → a ≠ b → (TX5 a).2.1 ≠ (TX5 b).2.1 := by decide +kernel
theorem tyX5_ok : ∀ k, k < 5 → parseFieldDescriptor (TX5 k).2.2.1 = some (tyX5 k) := by decide +kernel
abbrev cX5_init : ByteArray := prog_7_method_1_code
def yX5_init : MethodName := ⟨RX5, "<init>", "()V"⟩
abbrev cX5_take : ByteArray := prog_7_method_2_code
def yX5_take : MethodName := ⟨RX5, "take", "(I)I"⟩
abbrev cX5_readInto : ByteArray := prog_7_method_3_code
def yX5_readInto : MethodName := ⟨RX5, "readInto", "(LWeatherHand$Valley;)I"⟩
abbrev cX5_current : ByteArray := prog_7_method_4_code
def yX5_current : MethodName := ⟨RX5, "current", "()I"⟩
abbrev cX5_skipBlanks : ByteArray := prog_7_method_5_code
def yX5_skipBlanks : MethodName := ⟨RX5, "skipBlanks", "()V"⟩
abbrev cX5_fail : ByteArray := prog_7_method_6_code
def yX5_fail : MethodName := ⟨RX5, "fail", "(II)V"⟩
abbrev cX5_readClause : ByteArray := prog_7_method_7_code
def yX5_readClause : MethodName := ⟨RX5, "readClause", "(LWeatherHand$Valley;)V"⟩
abbrev cX5_mayStand : ByteArray := prog_7_method_8_code
def yX5_mayStand : MethodName := ⟨RX5, "mayStand", "(LWeatherHand$Valley;I)Z"⟩
abbrev cX5_isTooMany : ByteArray := prog_7_method_9_code
def yX5_isTooMany : MethodName := ⟨RX5, "isTooMany", "(LWeatherHand$Valley;I)Z"⟩
abbrev cX5_readWeather : ByteArray := prog_7_method_10_code
def yX5_readWeather : MethodName := ⟨RX5, "readWeather", "(LWeatherHand$Valley;)V"⟩
abbrev cX5_readRains : ByteArray := prog_7_method_11_code
def yX5_readRains : MethodName := ⟨RX5, "readRains", "(LWeatherHand$Valley;)V"⟩
abbrev cX5_readHand : ByteArray := prog_7_method_12_code
def yX5_readHand : MethodName := ⟨RX5, "readHand", "(LWeatherHand$Valley;)V"⟩
abbrev cX5_readPaper : ByteArray := prog_7_method_13_code
def yX5_readPaper : MethodName := ⟨RX5, "readPaper", "(LWeatherHand$Valley;)V"⟩
abbrev cX5_readNumber : ByteArray := prog_7_method_14_code
def yX5_readNumber : MethodName := ⟨RX5, "readNumber", "(II)I"⟩
abbrev cX5_isFigure : ByteArray := prog_7_method_15_code
def yX5_isFigure : MethodName := ⟨RX5, "isFigure", "(I)Z"⟩
abbrev cX5_takeIf : ByteArray := prog_7_method_16_code
def yX5_takeIf : MethodName := ⟨RX5, "takeIf", "(I)Z"⟩
def RX6 : String := "WeatherHand$Valley"
def TX6 : u_T := fun k => match k with
  | 0 => ("WeatherHand$Valley", "told", "Z", false)
  | 1 => ("WeatherHand$Valley", "turn", "I", false)
  | 2 => ("WeatherHand$Valley", "firstDamp", "I", false)
  | 3 => ("WeatherHand$Valley", "lightHours", "I", false)
  | 4 => ("WeatherHand$Valley", "rains", "I", false)
  | 5 => ("WeatherHand$Valley", "hands", "I", false)
  | 6 => ("WeatherHand$Valley", "papers", "I", false)
  | 7 => ("WeatherHand$Valley", "rainNumbers", "[I", true)
  | 8 => ("WeatherHand$Valley", "leans", "[I", true)
  | 9 => ("WeatherHand$Valley", "fills", "[I", true)
  | 10 => ("WeatherHand$Valley", "presses", "[I", true)
  | 11 => ("WeatherHand$Valley", "paperHands", "[I", true)
  | 12 => ("WeatherHand$Valley", "paperHours", "[I", true)
  | 13 => ("WeatherHand$Valley", "paperLengths", "[I", true)
  | _ => ("WeatherHand$Valley", "looks", "[I", true)
def tyX6 : Nat → FieldType := fun k => match k with
  | 0 => .boolean
  | 1 => .int
  | 2 => .int
  | 3 => .int
  | 4 => .int
  | 5 => .int
  | 6 => .int
  | 7 => .array .int
  | 8 => .array .int
  | 9 => .array .int
  | 10 => .array .int
  | 11 => .array .int
  | 12 => .array .int
  | 13 => .array .int
  | _ => .array .int
theorem nmX6 : ∀ a, a < 15 → ∀ b, b < 15 → a ≠ b → (TX6 a).2.1 ≠ (TX6 b).2.1 := by decide +kernel
theorem tyX6_ok : ∀ k, k < 15 → parseFieldDescriptor (TX6 k).2.2.1 = some (tyX6 k) := by decide +kernel
abbrev cX6_init : ByteArray := prog_8_method_1_code
def yX6_init : MethodName := ⟨RX6, "<init>", "()V"⟩
abbrev cX6_clear : ByteArray := prog_8_method_2_code
def yX6_clear : MethodName := ⟨RX6, "clear", "()V"⟩
abbrev cX6_hasHand : ByteArray := prog_8_method_3_code
def yX6_hasHand : MethodName := ⟨RX6, "hasHand", "(I)Z"⟩
abbrev cX6_hasPaper : ByteArray := prog_8_method_4_code
def yX6_hasPaper : MethodName := ⟨RX6, "hasPaper", "(I)Z"⟩
abbrev cX6_rainOf : ByteArray := prog_8_method_5_code
def yX6_rainOf : MethodName := ⟨RX6, "rainOf", "(I)I"⟩
abbrev cX6_windAt : ByteArray := prog_8_method_6_code
def yX6_windAt : MethodName := ⟨RX6, "windAt", "(I)I"⟩
abbrev cX6_lightAt : ByteArray := prog_8_method_7_code
def yX6_lightAt : MethodName := ⟨RX6, "lightAt", "(I)I"⟩
abbrev cX6_dampAt : ByteArray := prog_8_method_8_code
def yX6_dampAt : MethodName := ⟨RX6, "dampAt", "(II)I"⟩
abbrev cX6_makeLook : ByteArray := prog_8_method_9_code
def yX6_makeLook : MethodName := ⟨RX6, "makeLook", "(III)I"⟩
abbrev cX6_fillLooks : ByteArray := prog_8_method_10_code
def yX6_fillLooks : MethodName := ⟨RX6, "fillLooks", "()V"⟩
abbrev cX6_lookAt : ByteArray := prog_8_method_11_code
def yX6_lookAt : MethodName := ⟨RX6, "lookAt", "(II)I"⟩
abbrev cX6_firstHour : ByteArray := prog_8_method_12_code
def yX6_firstHour : MethodName := ⟨RX6, "firstHour", "(III)I"⟩
abbrev cX6_hoursOfLook : ByteArray := prog_8_method_13_code
def yX6_hoursOfLook : MethodName := ⟨RX6, "hoursOfLook", "(III)I"⟩
def RX7 : String := "WeatherHand"
def TX7 : u_T := fun k => match k with
  | 0 => ("WeatherHand", "reader", "LWeatherHand$Reader;", true)
  | 1 => ("WeatherHand", "archive", "LWeatherHand$Archive;", true)
  | 2 => ("WeatherHand", "imageZero", "LWeatherHand$Archive;", true)
  | 3 => ("WeatherHand", "imageOne", "LWeatherHand$Archive;", true)
  | 4 => ("WeatherHand", "deeds", "LWeatherHand$Deeds;", true)
  | 5 => ("WeatherHand", "book", "LWeatherHand$Book;", true)
  | 6 => ("WeatherHand", "beginnings", "LWeatherHand$Beginnings;", true)
  | 7 => ("WeatherHand", "finding", "LWeatherHand$Finding;", true)
  | 8 => ("WeatherHand", "measured", "[I", true)
  | 9 => ("WeatherHand", "here", "LWeatherHand$Valley;", false)
  | 10 => ("WeatherHand", "draft", "LWeatherHand$Valley;", false)
  | _ => ("WeatherHand", "faultAt", "I", false)
def tyX7 : Nat → FieldType := fun k => match k with
  | 0 => .object "WeatherHand$Reader"
  | 1 => .object "WeatherHand$Archive"
  | 2 => .object "WeatherHand$Archive"
  | 3 => .object "WeatherHand$Archive"
  | 4 => .object "WeatherHand$Deeds"
  | 5 => .object "WeatherHand$Book"
  | 6 => .object "WeatherHand$Beginnings"
  | 7 => .object "WeatherHand$Finding"
  | 8 => .array .int
  | 9 => .object "WeatherHand$Valley"
  | 10 => .object "WeatherHand$Valley"
  | _ => .int
theorem nmX7 : ∀ a, a < 12 → ∀ b, b < 12 → a ≠ b → (TX7 a).2.1 ≠ (TX7 b).2.1 := by decide +kernel
theorem tyX7_ok : ∀ k, k < 12 → parseFieldDescriptor (TX7 k).2.2.1 = some (tyX7 k) := by decide +kernel
abbrev cX7_init : ByteArray := prog_1_method_1_code
def yX7_init : MethodName := ⟨RX7, "<init>", "()V"⟩
abbrev cX7_feed : ByteArray := prog_1_method_2_code
def yX7_feed : MethodName := ⟨RX7, "feed", "(I)I"⟩
abbrev cX7_valley : ByteArray := prog_1_method_3_code
def yX7_valley : MethodName := ⟨RX7, "valley", "()I"⟩
abbrev cX7_fault : ByteArray := prog_1_method_4_code
def yX7_fault : MethodName := ⟨RX7, "fault", "()I"⟩
abbrev cX7_told : ByteArray := prog_1_method_5_code
def yX7_told : MethodName := ⟨RX7, "told", "(I)I"⟩
abbrev cX7_weather : ByteArray := prog_1_method_6_code
def yX7_weather : MethodName := ⟨RX7, "weather", "(II)I"⟩
abbrev cX7_hand : ByteArray := prog_1_method_7_code
def yX7_hand : MethodName := ⟨RX7, "hand", "(II)I"⟩
abbrev cX7_letter : ByteArray := prog_1_method_8_code
def yX7_letter : MethodName := ⟨RX7, "letter", "(III)I"⟩
abbrev cX7_add : ByteArray := prog_1_method_9_code
def yX7_add : MethodName := ⟨RX7, "add", "(IIIZ)I"⟩
abbrev cX7_blot : ByteArray := prog_1_method_10_code
def yX7_blot : MethodName := ⟨RX7, "blot", "(I)I"⟩
abbrev cX7_bottle : ByteArray := prog_1_method_11_code
def yX7_bottle : MethodName := ⟨RX7, "bottle", "(I)I"⟩
abbrev cX7_drift : ByteArray := prog_1_method_12_code
def yX7_drift : MethodName := ⟨RX7, "drift", "(I)I"⟩
abbrev cX7_undo : ByteArray := prog_1_method_13_code
def yX7_undo : MethodName := ⟨RX7, "undo", "(I)I"⟩
abbrev cX7_look : ByteArray := prog_1_method_14_code
def yX7_look : MethodName := ⟨RX7, "look", "(II)I"⟩
abbrev cX7_written : ByteArray := prog_1_method_15_code
def yX7_written : MethodName := ⟨RX7, "written", "(IIII)I"⟩
abbrev cX7_who : ByteArray := prog_1_method_16_code
def yX7_who : MethodName := ⟨RX7, "who", "(II)I"⟩
abbrev cX7_dated : ByteArray := prog_1_method_17_code
def yX7_dated : MethodName := ⟨RX7, "dated", "(III)I"⟩
abbrev cX7_addedAt : ByteArray := prog_1_method_18_code
def yX7_addedAt : MethodName := ⟨RX7, "addedAt", "(III)I"⟩
abbrev cX7_next : ByteArray := prog_1_method_19_code
def yX7_next : MethodName := ⟨RX7, "next", "(II)I"⟩
abbrev cX7_soonest : ByteArray := prog_1_method_20_code
def yX7_soonest : MethodName := ⟨RX7, "soonest", "(III)I"⟩
abbrev cX7_likely : ByteArray := prog_1_method_21_code
def yX7_likely : MethodName := ⟨RX7, "likely", "(II)I"⟩
abbrev cX7_hands : ByteArray := prog_1_method_22_code
def yX7_hands : MethodName := ⟨RX7, "hands", "(I)I"⟩
abbrev cX7_forged : ByteArray := prog_1_method_23_code
def yX7_forged : MethodName := ⟨RX7, "forged", "(II)I"⟩
abbrev cX7_air : ByteArray := prog_1_method_24_code
def yX7_air : MethodName := ⟨RX7, "air", "(III)I"⟩
abbrev cX7_rain : ByteArray := prog_1_method_25_code
def yX7_rain : MethodName := ⟨RX7, "rain", "(I)I"⟩
abbrev cX7_measure : ByteArray := prog_1_method_26_code
def yX7_measure : MethodName := ⟨RX7, "measure", "(II)I"⟩
abbrev cX7_write : ByteArray := prog_1_method_27_code
def yX7_write : MethodName := ⟨RX7, "write", "(III)I"⟩
abbrev cX7_judge : ByteArray := prog_1_method_28_code
def yX7_judge : MethodName := ⟨RX7, "judge", "()I"⟩
abbrev cX7_tear : ByteArray := prog_1_method_29_code
def yX7_tear : MethodName := ⟨RX7, "tear", "()I"⟩
abbrev cX7_seed : ByteArray := prog_1_method_30_code
def yX7_seed : MethodName := ⟨RX7, "seed", "(I)I"⟩
abbrev cX7_keep : ByteArray := prog_1_method_31_code
def yX7_keep : MethodName := ⟨RX7, "keep", "(I)I"⟩
abbrev cX7_goBack : ByteArray := prog_1_method_32_code
def yX7_goBack : MethodName := ⟨RX7, "goBack", "(I)I"⟩
abbrev cX7_isHour : ByteArray := prog_1_method_33_code
def yX7_isHour : MethodName := ⟨RX7, "isHour", "(I)Z"⟩
abbrev cX7_isLook : ByteArray := prog_1_method_34_code
def yX7_isLook : MethodName := ⟨RX7, "isLook", "(I)Z"⟩
abbrev cX7_isImage : ByteArray := prog_1_method_35_code
def yX7_isImage : MethodName := ⟨RX7, "isImage", "(I)Z"⟩
abbrev cX7_imageOf : ByteArray := prog_1_method_36_code
def yX7_imageOf : MethodName := ⟨RX7, "imageOf", "(I)LWeatherHand$Archive;"⟩
abbrev cX7_isMeasured : ByteArray := prog_1_method_37_code
def yX7_isMeasured : MethodName := ⟨RX7, "isMeasured", "(II)Z"⟩
abbrev cX7_ofAllLetters : ByteArray := prog_1_method_38_code
def yX7_ofAllLetters : MethodName := ⟨RX7, "ofAllLetters", "(II)I"⟩
abbrev cX7_append : ByteArray := prog_1_method_39_code
def yX7_append : MethodName := ⟨RX7, "append", "(IIII)V"⟩
abbrev cX7_dropMeasures : ByteArray := prog_1_method_40_code
def yX7_dropMeasures : MethodName := ⟨RX7, "dropMeasures", "()I"⟩
def RX8 : String := "WeatherHandModel"
def TX8 : u_T := fun k => match k with
  | 0 => ("WeatherHandModel", "w", "[I", true)
  | 1 => ("WeatherHandModel", "isKept", "[Z", true)
  | 2 => ("WeatherHandModel", "is", "Z", false)
  | 3 => ("WeatherHandModel", "newIs", "Z", false)
  | 4 => ("WeatherHandModel", "valley", "[I", true)
  | 5 => ("WeatherHandModel", "rains", "[I", true)
  | 6 => ("WeatherHandModel", "rainMany", "I", false)
  | 7 => ("WeatherHandModel", "newRains", "I", false)
  | 8 => ("WeatherHandModel", "leans", "[I", true)
  | 9 => ("WeatherHandModel", "fills", "[I", true)
  | 10 => ("WeatherHandModel", "presses", "[I", true)
  | 11 => ("WeatherHandModel", "hands", "I", false)
  | 12 => ("WeatherHandModel", "newHands", "I", false)
  | 13 => ("WeatherHandModel", "by", "[I", true)
  | 14 => ("WeatherHandModel", "begun", "[I", true)
  | 15 => ("WeatherHandModel", "long_", "[I", true)
  | 16 => ("WeatherHandModel", "papers", "I", false)
  | 17 => ("WeatherHandModel", "newPapers", "I", false)
  | 18 => ("WeatherHandModel", "text", "[I", true)
  | 19 => ("WeatherHandModel", "textSize", "I", false)
  | 20 => ("WeatherHandModel", "at", "I", false)
  | 21 => ("WeatherHandModel", "first", "I", false)
  | 22 => ("WeatherHandModel", "faultOf", "I", false)
  | 23 => ("WeatherHandModel", "fault", "I", false)
  | 24 => ("WeatherHandModel", "measured", "[I", true)
  | 25 => ("WeatherHandModel", "undoMany", "I", false)
  | 26 => ("WeatherHandModel", "could", "[Z", true)
  | 27 => ("WeatherHandModel", "alike", "[I", true)
  | 28 => ("WeatherHandModel", "fits", "[I", true)
  | 29 => ("WeatherHandModel", "notedIn", "[I", true)
  | 30 => ("WeatherHandModel", "notedAt", "[I", true)
  | 31 => ("WeatherHandModel", "notedLook", "[I", true)
  | _ => ("WeatherHandModel", "noted", "I", false)
def tyX8 : Nat → FieldType := fun k => match k with
  | 0 => .array .int
  | 1 => .array .boolean
  | 2 => .boolean
  | 3 => .boolean
  | 4 => .array .int
  | 5 => .array .int
  | 6 => .int
  | 7 => .int
  | 8 => .array .int
  | 9 => .array .int
  | 10 => .array .int
  | 11 => .int
  | 12 => .int
  | 13 => .array .int
  | 14 => .array .int
  | 15 => .array .int
  | 16 => .int
  | 17 => .int
  | 18 => .array .int
  | 19 => .int
  | 20 => .int
  | 21 => .int
  | 22 => .int
  | 23 => .int
  | 24 => .array .int
  | 25 => .int
  | 26 => .array .boolean
  | 27 => .array .int
  | 28 => .array .int
  | 29 => .array .int
  | 30 => .array .int
  | 31 => .array .int
  | _ => .int
theorem nmX8 : ∀ a, a < 33 → ∀ b, b < 33 → a ≠ b → (TX8 a).2.1 ≠ (TX8 b).2.1 := by decide +kernel
theorem tyX8_ok : ∀ k, k < 33 → parseFieldDescriptor (TX8 k).2.2.1 = some (tyX8 k) := by decide +kernel
abbrev cX8_init : ByteArray := prog_10_method_1_code
def yX8_init : MethodName := ⟨RX8, "<init>", "()V"⟩
abbrev cX8_in : ByteArray := prog_10_method_3_code
def yX8_in : MethodName := ⟨RX8, "in", "(JJJ)Z"⟩
abbrev cX8_one : ByteArray := prog_10_method_4_code
def yX8_one : MethodName := ⟨RX8, "one", "(Z)I"⟩
abbrev cX8_has : ByteArray := prog_10_method_5_code
def yX8_has : MethodName := ⟨RX8, "has", "(II)Z"⟩
abbrev cX8_ones : ByteArray := prog_10_method_6_code
def yX8_ones : MethodName := ⟨RX8, "ones", "(I)I"⟩
abbrev cX8_feed : ByteArray := prog_10_method_7_code
def yX8_feed : MethodName := ⟨RX8, "feed", "(I)I"⟩
abbrev cX8_here : ByteArray := prog_10_method_8_code
def yX8_here : MethodName := ⟨RX8, "here", "()I"⟩
abbrev cX8_want : ByteArray := prog_10_method_9_code
def yX8_want : MethodName := ⟨RX8, "want", "(ZII)Z"⟩
abbrev cX8_takeNumber : ByteArray := prog_10_method_10_code
def yX8_takeNumber : MethodName := ⟨RX8, "takeNumber", "()I"⟩
abbrev cX8_takeIn : ByteArray := prog_10_method_11_code
def yX8_takeIn : MethodName := ⟨RX8, "takeIn", "(II)I"⟩
abbrev cX8_takeValley : ByteArray := prog_10_method_12_code
def yX8_takeValley : MethodName := ⟨RX8, "takeValley", "(I)V"⟩
abbrev cX8_takeRains : ByteArray := prog_10_method_13_code
def yX8_takeRains : MethodName := ⟨RX8, "takeRains", "(I)V"⟩
abbrev cX8_takeHand : ByteArray := prog_10_method_14_code
def yX8_takeHand : MethodName := ⟨RX8, "takeHand", "(I)V"⟩
abbrev cX8_takePaper : ByteArray := prog_10_method_15_code
def yX8_takePaper : MethodName := ⟨RX8, "takePaper", "(I)V"⟩
abbrev cX8_takeClause : ByteArray := prog_10_method_16_code
def yX8_takeClause : MethodName := ⟨RX8, "takeClause", "()V"⟩
abbrev cX8_valley : ByteArray := prog_10_method_17_code
def yX8_valley : MethodName := ⟨RX8, "valley", "()I"⟩
abbrev cX8_takeHands : ByteArray := prog_10_method_18_code
def yX8_takeHands : MethodName := ⟨RX8, "takeHands", "()V"⟩
abbrev cX8_take : ByteArray := prog_10_method_19_code
def yX8_take : MethodName := ⟨RX8, "take", "()V"⟩
abbrev cX8_put : ByteArray := prog_10_method_20_code
def yX8_put : MethodName := ⟨RX8, "put", "(IIII)V"⟩
abbrev cX8_fault : ByteArray := prog_10_method_21_code
def yX8_fault : MethodName := ⟨RX8, "fault", "()I"⟩
abbrev cX8_isHand : ByteArray := prog_10_method_22_code
def yX8_isHand : MethodName := ⟨RX8, "isHand", "(I)Z"⟩
abbrev cX8_isPaper : ByteArray := prog_10_method_23_code
def yX8_isPaper : MethodName := ⟨RX8, "isPaper", "(I)Z"⟩
abbrev cX8_isLetter : ByteArray := prog_10_method_24_code
def yX8_isLetter : MethodName := ⟨RX8, "isLetter", "(II)Z"⟩
abbrev cX8_isHour : ByteArray := prog_10_method_25_code
def yX8_isHour : MethodName := ⟨RX8, "isHour", "(I)Z"⟩
abbrev cX8_allLetters : ByteArray := prog_10_method_26_code
def yX8_allLetters : MethodName := ⟨RX8, "allLetters", "()I"⟩
abbrev cX8_told : ByteArray := prog_10_method_27_code
def yX8_told : MethodName := ⟨RX8, "told", "(I)I"⟩
abbrev cX8_rainOf : ByteArray := prog_10_method_28_code
def yX8_rainOf : MethodName := ⟨RX8, "rainOf", "(I)I"⟩
abbrev cX8_dampBy : ByteArray := prog_10_method_29_code
def yX8_dampBy : MethodName := ⟨RX8, "dampBy", "(II)I"⟩
abbrev cX8_lightAt : ByteArray := prog_10_method_30_code
def yX8_lightAt : MethodName := ⟨RX8, "lightAt", "(I)I"⟩
abbrev cX8_weather : ByteArray := prog_10_method_31_code
def yX8_weather : MethodName := ⟨RX8, "weather", "(II)I"⟩
abbrev cX8_hand : ByteArray := prog_10_method_32_code
def yX8_hand : MethodName := ⟨RX8, "hand", "(II)I"⟩
abbrev cX8_lookBy : ByteArray := prog_10_method_33_code
def yX8_lookBy : MethodName := ⟨RX8, "lookBy", "(III)I"⟩
abbrev cX8_lookAt : ByteArray := prog_10_method_34_code
def yX8_lookAt : MethodName := ⟨RX8, "lookAt", "(II)I"⟩
abbrev cX8_hourOf : ByteArray := prog_10_method_35_code
def yX8_hourOf : MethodName := ⟨RX8, "hourOf", "(II)I"⟩
abbrev cX8_handOf : ByteArray := prog_10_method_36_code
def yX8_handOf : MethodName := ⟨RX8, "handOf", "(II)I"⟩
abbrev cX8_airOf : ByteArray := prog_10_method_37_code
def yX8_airOf : MethodName := ⟨RX8, "airOf", "(II)I"⟩
abbrev cX8_lookOf : ByteArray := prog_10_method_38_code
def yX8_lookOf : MethodName := ⟨RX8, "lookOf", "(II)I"⟩
abbrev cX8_forgedIn : ByteArray := prog_10_method_39_code
def yX8_forgedIn : MethodName := ⟨RX8, "forgedIn", "(I)I"⟩
abbrev cX8_letter : ByteArray := prog_10_method_40_code
def yX8_letter : MethodName := ⟨RX8, "letter", "(III)I"⟩
abbrev cX8_copy : ByteArray := prog_10_method_41_code
def yX8_copy : MethodName := ⟨RX8, "copy", "(II)V"⟩
abbrev cX8_remember : ByteArray := prog_10_method_42_code
def yX8_remember : MethodName := ⟨RX8, "remember", "()V"⟩
abbrev cX8_add : ByteArray := prog_10_method_43_code
def yX8_add : MethodName := ⟨RX8, "add", "(IIIZ)I"⟩
abbrev cX8_blot : ByteArray := prog_10_method_44_code
def yX8_blot : MethodName := ⟨RX8, "blot", "(I)I"⟩
abbrev cX8_bottle : ByteArray := prog_10_method_45_code
def yX8_bottle : MethodName := ⟨RX8, "bottle", "(I)I"⟩
abbrev cX8_draw : ByteArray := prog_10_method_46_code
def yX8_draw : MethodName := ⟨RX8, "draw", "(I)I"⟩
abbrev cX8_drift : ByteArray := prog_10_method_47_code
def yX8_drift : MethodName := ⟨RX8, "drift", "(I)I"⟩
abbrev cX8_undo : ByteArray := prog_10_method_48_code
def yX8_undo : MethodName := ⟨RX8, "undo", "(I)I"⟩
abbrev cX8_look : ByteArray := prog_10_method_49_code
def yX8_look : MethodName := ⟨RX8, "look", "(II)I"⟩
abbrev cX8_hoursOf : ByteArray := prog_10_method_50_code
def yX8_hoursOf : MethodName := ⟨RX8, "hoursOf", "(III)I"⟩
abbrev cX8_written : ByteArray := prog_10_method_51_code
def yX8_written : MethodName := ⟨RX8, "written", "(IIII)I"⟩
abbrev cX8_who : ByteArray := prog_10_method_52_code
def yX8_who : MethodName := ⟨RX8, "who", "(II)I"⟩
abbrev cX8_runFrom : ByteArray := prog_10_method_53_code
def yX8_runFrom : MethodName := ⟨RX8, "runFrom", "(IIII)I"⟩
abbrev cX8_dated : ByteArray := prog_10_method_54_code
def yX8_dated : MethodName := ⟨RX8, "dated", "(III)I"⟩
abbrev cX8_longestRun : ByteArray := prog_10_method_55_code
def yX8_longestRun : MethodName := ⟨RX8, "longestRun", "(III)I"⟩
abbrev cX8_addedAt : ByteArray := prog_10_method_56_code
def yX8_addedAt : MethodName := ⟨RX8, "addedAt", "(III)I"⟩
abbrev cX8_couldBegin : ByteArray := prog_10_method_57_code
def yX8_couldBegin : MethodName := ⟨RX8, "couldBegin", "(III)Z"⟩
abbrev cX8_findBegins : ByteArray := prog_10_method_58_code
def yX8_findBegins : MethodName := ⟨RX8, "findBegins", "(I)I"⟩
abbrev cX8_greatestPart : ByteArray := prog_10_method_59_code
def yX8_greatestPart : MethodName := ⟨RX8, "greatestPart", "(I)I"⟩
abbrev cX8_next : ByteArray := prog_10_method_60_code
def yX8_next : MethodName := ⟨RX8, "next", "(II)I"⟩
abbrev cX8_soonest : ByteArray := prog_10_method_61_code
def yX8_soonest : MethodName := ⟨RX8, "soonest", "(III)I"⟩
abbrev cX8_likely : ByteArray := prog_10_method_62_code
def yX8_likely : MethodName := ⟨RX8, "likely", "(II)I"⟩
abbrev cX8_figure : ByteArray := prog_10_method_63_code
def yX8_figure : MethodName := ⟨RX8, "figure", "(III)I"⟩
abbrev cX8_layFits : ByteArray := prog_10_method_64_code
def yX8_layFits : MethodName := ⟨RX8, "layFits", "()V"⟩
abbrev cX8_fitsBy : ByteArray := prog_10_method_65_code
def yX8_fitsBy : MethodName := ⟨RX8, "fitsBy", "(I)I"⟩
abbrev cX8_hands : ByteArray := prog_10_method_66_code
def yX8_hands : MethodName := ⟨RX8, "hands", "(I)I"⟩
abbrev cX8_forged : ByteArray := prog_10_method_67_code
def yX8_forged : MethodName := ⟨RX8, "forged", "(II)I"⟩
abbrev cX8_air : ByteArray := prog_10_method_68_code
def yX8_air : MethodName := ⟨RX8, "air", "(III)I"⟩
abbrev cX8_rained : ByteArray := prog_10_method_69_code
def yX8_rained : MethodName := ⟨RX8, "rained", "(II)Z"⟩
abbrev cX8_rain : ByteArray := prog_10_method_70_code
def yX8_rain : MethodName := ⟨RX8, "rain", "(I)I"⟩
abbrev cX8_measure : ByteArray := prog_10_method_71_code
def yX8_measure : MethodName := ⟨RX8, "measure", "(II)I"⟩
abbrev cX8_write : ByteArray := prog_10_method_72_code
def yX8_write : MethodName := ⟨RX8, "write", "(III)I"⟩
abbrev cX8_judge : ByteArray := prog_10_method_73_code
def yX8_judge : MethodName := ⟨RX8, "judge", "()I"⟩
abbrev cX8_tear : ByteArray := prog_10_method_74_code
def yX8_tear : MethodName := ⟨RX8, "tear", "()I"⟩
abbrev cX8_seed : ByteArray := prog_10_method_75_code
def yX8_seed : MethodName := ⟨RX8, "seed", "(I)I"⟩
abbrev cX8_keep : ByteArray := prog_10_method_76_code
def yX8_keep : MethodName := ⟨RX8, "keep", "(I)I"⟩
abbrev cX8_goBack : ByteArray := prog_10_method_77_code
def yX8_goBack : MethodName := ⟨RX8, "goBack", "(I)I"⟩
def RJ6 : String := "java/lang/Integer"
def TJ6 : u_T := fun k => match k with
  | _ => ("", "", "", false)
def tyJ6 : Nat → FieldType := fun k => match k with
  | _ => .int
abbrev cJ6_bitCount_0f7a4 : ByteArray := prog_11_method_49_code
def yJ6_bitCount_0f7a4 : MethodName := ⟨RJ6, "bitCount", "(I)I"⟩
def RJ9 : String := "java/lang/Math"
def TJ9 : u_T := fun k => match k with
  | _ => ("", "", "", false)
def tyJ9 : Nat → FieldType := fun k => match k with
  | _ => .int
abbrev cJ9_max_7cf53 : ByteArray := prog_12_method_65_code
def yJ9_max_7cf53 : MethodName := ⟨RJ9, "max", "(II)I"⟩
abbrev cJ9_min_7cf53 : ByteArray := prog_12_method_69_code
def yJ9_min_7cf53 : MethodName := ⟨RJ9, "min", "(II)I"⟩
def RJ10 : String := "java/lang/System"
def TJ10 : u_T := fun k => match k with
  | _ => ("", "", "", false)
def tyJ10 : Nat → FieldType := fun k => match k with
  | _ => .int
def RL : String := "WeatherHandLaw"
abbrev cL_law : ByteArray := code
def yL_law : MethodName := ⟨RL, "law", "([I)Z"⟩
abbrev vwCl : List vw_C := [(RX0, TX0, 7), (RX1, TX1, 5), (RX2, TX2, 4), (RX3, TX3, 7), (RX4, TX4, 3), (RX5, TX5, 5), (RX6, TX6, 15), (RX7, TX7, 12), (RX8, TX8, 33)]
end
section
theorem dJ6_bitCount_0f7a4_0 : decode cJ6_bitCount_0f7a4 0 = .ok (.iload_n 0, 1) := by decide +kernel
theorem dJ6_bitCount_0f7a4_1 : decode cJ6_bitCount_0f7a4 1 = .ok (.iload_n 0, 1) := by decide +kernel
theorem dJ6_bitCount_0f7a4_2 : decode cJ6_bitCount_0f7a4 2 = .ok (.iconst 1, 1) := by decide +kernel
theorem dJ6_bitCount_0f7a4_3 : decode cJ6_bitCount_0f7a4 3 = .ok (.iushr, 1) := by decide +kernel
theorem dJ6_bitCount_0f7a4_4 : decode cJ6_bitCount_0f7a4 4 = .ok (.ldc_w 265, 3) := by decide +kernel
theorem dJ6_bitCount_0f7a4_7 : decode cJ6_bitCount_0f7a4 7 = .ok (.iand, 1) := by decide +kernel
theorem dJ6_bitCount_0f7a4_8 : decode cJ6_bitCount_0f7a4 8 = .ok (.isub, 1) := by decide +kernel
theorem dJ6_bitCount_0f7a4_9 : decode cJ6_bitCount_0f7a4 9 = .ok (.istore_n 0, 1) := by decide +kernel
theorem dJ6_bitCount_0f7a4_10 : decode cJ6_bitCount_0f7a4 10 = .ok (.iload_n 0, 1) := by decide +kernel
theorem dJ6_bitCount_0f7a4_11 : decode cJ6_bitCount_0f7a4 11 = .ok (.ldc_w 266, 3) := by decide +kernel
theorem dJ6_bitCount_0f7a4_14 : decode cJ6_bitCount_0f7a4 14 = .ok (.iand, 1) := by decide +kernel
theorem dJ6_bitCount_0f7a4_15 : decode cJ6_bitCount_0f7a4 15 = .ok (.iload_n 0, 1) := by decide +kernel
theorem dJ6_bitCount_0f7a4_16 : decode cJ6_bitCount_0f7a4 16 = .ok (.iconst 2, 1) := by decide +kernel
theorem dJ6_bitCount_0f7a4_17 : decode cJ6_bitCount_0f7a4 17 = .ok (.iushr, 1) := by decide +kernel
theorem dJ6_bitCount_0f7a4_18 : decode cJ6_bitCount_0f7a4 18 = .ok (.ldc_w 266, 3) := by decide +kernel
theorem dJ6_bitCount_0f7a4_21 : decode cJ6_bitCount_0f7a4 21 = .ok (.iand, 1) := by decide +kernel
theorem dJ6_bitCount_0f7a4_22 : decode cJ6_bitCount_0f7a4 22 = .ok (.iadd, 1) := by decide +kernel
theorem dJ6_bitCount_0f7a4_23 : decode cJ6_bitCount_0f7a4 23 = .ok (.istore_n 0, 1) := by decide +kernel
theorem dJ6_bitCount_0f7a4_24 : decode cJ6_bitCount_0f7a4 24 = .ok (.iload_n 0, 1) := by decide +kernel
theorem dJ6_bitCount_0f7a4_25 : decode cJ6_bitCount_0f7a4 25 = .ok (.iload_n 0, 1) := by decide +kernel
theorem dJ6_bitCount_0f7a4_26 : decode cJ6_bitCount_0f7a4 26 = .ok (.iconst 4, 1) := by decide +kernel
theorem dJ6_bitCount_0f7a4_27 : decode cJ6_bitCount_0f7a4 27 = .ok (.iushr, 1) := by decide +kernel
theorem dJ6_bitCount_0f7a4_28 : decode cJ6_bitCount_0f7a4 28 = .ok (.iadd, 1) := by decide +kernel
theorem dJ6_bitCount_0f7a4_29 : decode cJ6_bitCount_0f7a4 29 = .ok (.ldc_w 267, 3) := by decide +kernel
theorem dJ6_bitCount_0f7a4_32 : decode cJ6_bitCount_0f7a4 32 = .ok (.iand, 1) := by decide +kernel
theorem dJ6_bitCount_0f7a4_33 : decode cJ6_bitCount_0f7a4 33 = .ok (.istore_n 0, 1) := by decide +kernel
theorem dJ6_bitCount_0f7a4_34 : decode cJ6_bitCount_0f7a4 34 = .ok (.iload_n 0, 1) := by decide +kernel
theorem dJ6_bitCount_0f7a4_35 : decode cJ6_bitCount_0f7a4 35 = .ok (.iload_n 0, 1) := by decide +kernel
theorem dJ6_bitCount_0f7a4_36 : decode cJ6_bitCount_0f7a4 36 = .ok (.bipush 8, 2) := by decide +kernel
theorem dJ6_bitCount_0f7a4_38 : decode cJ6_bitCount_0f7a4 38 = .ok (.iushr, 1) := by decide +kernel
theorem dJ6_bitCount_0f7a4_39 : decode cJ6_bitCount_0f7a4 39 = .ok (.iadd, 1) := by decide +kernel
theorem dJ6_bitCount_0f7a4_40 : decode cJ6_bitCount_0f7a4 40 = .ok (.istore_n 0, 1) := by decide +kernel
theorem dJ6_bitCount_0f7a4_41 : decode cJ6_bitCount_0f7a4 41 = .ok (.iload_n 0, 1) := by decide +kernel
theorem dJ6_bitCount_0f7a4_42 : decode cJ6_bitCount_0f7a4 42 = .ok (.iload_n 0, 1) := by decide +kernel
theorem dJ6_bitCount_0f7a4_43 : decode cJ6_bitCount_0f7a4 43 = .ok (.bipush 16, 2) := by decide +kernel
theorem dJ6_bitCount_0f7a4_45 : decode cJ6_bitCount_0f7a4 45 = .ok (.iushr, 1) := by decide +kernel
theorem dJ6_bitCount_0f7a4_46 : decode cJ6_bitCount_0f7a4 46 = .ok (.iadd, 1) := by decide +kernel
theorem dJ6_bitCount_0f7a4_47 : decode cJ6_bitCount_0f7a4 47 = .ok (.istore_n 0, 1) := by decide +kernel
theorem dJ6_bitCount_0f7a4_48 : decode cJ6_bitCount_0f7a4 48 = .ok (.iload_n 0, 1) := by decide +kernel
theorem dJ6_bitCount_0f7a4_49 : decode cJ6_bitCount_0f7a4 49 = .ok (.bipush 63, 2) := by decide +kernel
theorem dJ6_bitCount_0f7a4_51 : decode cJ6_bitCount_0f7a4 51 = .ok (.iand, 1) := by decide +kernel
theorem dJ6_bitCount_0f7a4_52 : decode cJ6_bitCount_0f7a4 52 = .ok (.ireturn, 1) := by decide +kernel
theorem dJ9_max_7cf53_0 : decode cJ9_max_7cf53 0 = .ok (.iload_n 0, 1) := by decide +kernel
theorem dJ9_max_7cf53_1 : decode cJ9_max_7cf53 1 = .ok (.iload_n 1, 1) := by decide +kernel
theorem dJ9_max_7cf53_2 : decode cJ9_max_7cf53 2 = .ok (.if_icmp .lt 7, 3) := by decide +kernel
theorem dJ9_max_7cf53_5 : decode cJ9_max_7cf53 5 = .ok (.iload_n 0, 1) := by decide +kernel
theorem dJ9_max_7cf53_6 : decode cJ9_max_7cf53 6 = .ok (.goto 4, 3) := by decide +kernel
theorem dJ9_max_7cf53_9 : decode cJ9_max_7cf53 9 = .ok (.iload_n 1, 1) := by decide +kernel
theorem dJ9_max_7cf53_10 : decode cJ9_max_7cf53 10 = .ok (.ireturn, 1) := by decide +kernel
theorem dJ9_min_7cf53_0 : decode cJ9_min_7cf53 0 = .ok (.iload_n 0, 1) := by decide +kernel
theorem dJ9_min_7cf53_1 : decode cJ9_min_7cf53 1 = .ok (.iload_n 1, 1) := by decide +kernel
theorem dJ9_min_7cf53_2 : decode cJ9_min_7cf53 2 = .ok (.if_icmp .gt 7, 3) := by decide +kernel
theorem dJ9_min_7cf53_5 : decode cJ9_min_7cf53 5 = .ok (.iload_n 0, 1) := by decide +kernel
theorem dJ9_min_7cf53_6 : decode cJ9_min_7cf53 6 = .ok (.goto 4, 3) := by decide +kernel
theorem dJ9_min_7cf53_9 : decode cJ9_min_7cf53 9 = .ok (.iload_n 1, 1) := by decide +kernel
theorem dJ9_min_7cf53_10 : decode cJ9_min_7cf53 10 = .ok (.ireturn, 1) := by decide +kernel
theorem dL_law_0 : decode cL_law 0 = .ok (.new 7, 3) := by decide +kernel
theorem dL_law_3 : decode cL_law 3 = .ok (.dup, 1) := by decide +kernel
theorem dL_law_4 : decode cL_law 4 = .ok (.invokespecial 9, 3) := by decide +kernel
theorem dL_law_7 : decode cL_law 7 = .ok (.astore_n 1, 1) := by decide +kernel
theorem dL_law_8 : decode cL_law 8 = .ok (.new 10, 3) := by decide +kernel
theorem dL_law_11 : decode cL_law 11 = .ok (.dup, 1) := by decide +kernel
theorem dL_law_12 : decode cL_law 12 = .ok (.invokespecial 12, 3) := by decide +kernel
theorem dL_law_15 : decode cL_law 15 = .ok (.astore_n 2, 1) := by decide +kernel
theorem dL_law_16 : decode cL_law 16 = .ok (.iconst 0, 1) := by decide +kernel
theorem dL_law_17 : decode cL_law 17 = .ok (.istore_n 3, 1) := by decide +kernel
theorem dL_law_18 : decode cL_law 18 = .ok (.iload_n 3, 1) := by decide +kernel
theorem dL_law_19 : decode cL_law 19 = .ok (.aload_n 0, 1) := by decide +kernel
theorem dL_law_20 : decode cL_law 20 = .ok (.arraylength, 1) := by decide +kernel
theorem dL_law_21 : decode cL_law 21 = .ok (.iconst 5, 1) := by decide +kernel
theorem dL_law_22 : decode cL_law 22 = .ok (.isub, 1) := by decide +kernel
theorem dL_law_23 : decode cL_law 23 = .ok (.if_icmp .gt 1104, 3) := by decide +kernel
theorem dL_law_26 : decode cL_law 26 = .ok (.aload_n 0, 1) := by decide +kernel
theorem dL_law_27 : decode cL_law 27 = .ok (.iload_n 3, 1) := by decide +kernel
theorem dL_law_28 : decode cL_law 28 = .ok (.iaload, 1) := by decide +kernel
theorem dL_law_29 : decode cL_law 29 = .ok (.bipush 31, 2) := by decide +kernel
theorem dL_law_31 : decode cL_law 31 = .ok (.iand, 1) := by decide +kernel
theorem dL_law_32 : decode cL_law 32 = .ok (.tableswitch 1089 0 30 #[140, 163, 176, 189, 212, 245, 278, 321, 390, 413, 436, 459, 482, 515, 568, 601, 644, 687, 720, 763, 796, 819, 852, 895, 918, 951, 994, 1007, 1020, 1043, 1066], 140) := by decide +kernel
theorem dL_law_172 : decode cL_law 172 = .ok (.aload_n 1, 1) := by decide +kernel
theorem dL_law_173 : decode cL_law 173 = .ok (.aload_n 0, 1) := by decide +kernel
theorem dL_law_174 : decode cL_law 174 = .ok (.iload_n 3, 1) := by decide +kernel
theorem dL_law_175 : decode cL_law 175 = .ok (.iconst 1, 1) := by decide +kernel
theorem dL_law_176 : decode cL_law 176 = .ok (.iadd, 1) := by decide +kernel
theorem dL_law_177 : decode cL_law 177 = .ok (.iaload, 1) := by decide +kernel
theorem dL_law_178 : decode cL_law 178 = .ok (.invokevirtual 13, 3) := by decide +kernel
theorem dL_law_181 : decode cL_law 181 = .ok (.aload_n 2, 1) := by decide +kernel
theorem dL_law_182 : decode cL_law 182 = .ok (.aload_n 0, 1) := by decide +kernel
theorem dL_law_183 : decode cL_law 183 = .ok (.iload_n 3, 1) := by decide +kernel
theorem dL_law_184 : decode cL_law 184 = .ok (.iconst 1, 1) := by decide +kernel
theorem dL_law_185 : decode cL_law 185 = .ok (.iadd, 1) := by decide +kernel
theorem dL_law_186 : decode cL_law 186 = .ok (.iaload, 1) := by decide +kernel
theorem dL_law_187 : decode cL_law 187 = .ok (.invokevirtual 17, 3) := by decide +kernel
theorem dL_law_190 : decode cL_law 190 = .ok (.if_icmp .eq 931, 3) := by decide +kernel
theorem dL_law_193 : decode cL_law 193 = .ok (.iconst 0, 1) := by decide +kernel
theorem dL_law_194 : decode cL_law 194 = .ok (.ireturn, 1) := by decide +kernel
theorem dL_law_195 : decode cL_law 195 = .ok (.aload_n 1, 1) := by decide +kernel
theorem dL_law_196 : decode cL_law 196 = .ok (.invokevirtual 18, 3) := by decide +kernel
theorem dL_law_199 : decode cL_law 199 = .ok (.aload_n 2, 1) := by decide +kernel
theorem dL_law_200 : decode cL_law 200 = .ok (.invokevirtual 22, 3) := by decide +kernel
theorem dL_law_203 : decode cL_law 203 = .ok (.if_icmp .eq 918, 3) := by decide +kernel
theorem dL_law_206 : decode cL_law 206 = .ok (.iconst 0, 1) := by decide +kernel
theorem dL_law_207 : decode cL_law 207 = .ok (.ireturn, 1) := by decide +kernel
theorem dL_law_208 : decode cL_law 208 = .ok (.aload_n 1, 1) := by decide +kernel
theorem dL_law_209 : decode cL_law 209 = .ok (.invokevirtual 23, 3) := by decide +kernel
theorem dL_law_212 : decode cL_law 212 = .ok (.aload_n 2, 1) := by decide +kernel
theorem dL_law_213 : decode cL_law 213 = .ok (.invokevirtual 26, 3) := by decide +kernel
theorem dL_law_216 : decode cL_law 216 = .ok (.if_icmp .eq 905, 3) := by decide +kernel
theorem dL_law_219 : decode cL_law 219 = .ok (.iconst 0, 1) := by decide +kernel
theorem dL_law_220 : decode cL_law 220 = .ok (.ireturn, 1) := by decide +kernel
theorem dL_law_221 : decode cL_law 221 = .ok (.aload_n 1, 1) := by decide +kernel
theorem dL_law_222 : decode cL_law 222 = .ok (.aload_n 0, 1) := by decide +kernel
theorem dL_law_223 : decode cL_law 223 = .ok (.iload_n 3, 1) := by decide +kernel
theorem dL_law_224 : decode cL_law 224 = .ok (.iconst 1, 1) := by decide +kernel
theorem dL_law_225 : decode cL_law 225 = .ok (.iadd, 1) := by decide +kernel
theorem dL_law_226 : decode cL_law 226 = .ok (.iaload, 1) := by decide +kernel
theorem dL_law_227 : decode cL_law 227 = .ok (.invokevirtual 27, 3) := by decide +kernel
theorem dL_law_230 : decode cL_law 230 = .ok (.aload_n 2, 1) := by decide +kernel
theorem dL_law_231 : decode cL_law 231 = .ok (.aload_n 0, 1) := by decide +kernel
theorem dL_law_232 : decode cL_law 232 = .ok (.iload_n 3, 1) := by decide +kernel
theorem dL_law_233 : decode cL_law 233 = .ok (.iconst 1, 1) := by decide +kernel
theorem dL_law_234 : decode cL_law 234 = .ok (.iadd, 1) := by decide +kernel
theorem dL_law_235 : decode cL_law 235 = .ok (.iaload, 1) := by decide +kernel
theorem dL_law_236 : decode cL_law 236 = .ok (.invokevirtual 30, 3) := by decide +kernel
theorem dL_law_239 : decode cL_law 239 = .ok (.if_icmp .eq 882, 3) := by decide +kernel
theorem dL_law_242 : decode cL_law 242 = .ok (.iconst 0, 1) := by decide +kernel
theorem dL_law_243 : decode cL_law 243 = .ok (.ireturn, 1) := by decide +kernel
theorem dL_law_244 : decode cL_law 244 = .ok (.aload_n 1, 1) := by decide +kernel
theorem dL_law_245 : decode cL_law 245 = .ok (.aload_n 0, 1) := by decide +kernel
theorem dL_law_246 : decode cL_law 246 = .ok (.iload_n 3, 1) := by decide +kernel
theorem dL_law_247 : decode cL_law 247 = .ok (.iconst 1, 1) := by decide +kernel
theorem dL_law_248 : decode cL_law 248 = .ok (.iadd, 1) := by decide +kernel
theorem dL_law_249 : decode cL_law 249 = .ok (.iaload, 1) := by decide +kernel
theorem dL_law_250 : decode cL_law 250 = .ok (.aload_n 0, 1) := by decide +kernel
theorem dL_law_251 : decode cL_law 251 = .ok (.iload_n 3, 1) := by decide +kernel
theorem dL_law_252 : decode cL_law 252 = .ok (.iconst 2, 1) := by decide +kernel
theorem dL_law_253 : decode cL_law 253 = .ok (.iadd, 1) := by decide +kernel
theorem dL_law_254 : decode cL_law 254 = .ok (.iaload, 1) := by decide +kernel
theorem dL_law_255 : decode cL_law 255 = .ok (.invokevirtual 31, 3) := by decide +kernel
theorem dL_law_258 : decode cL_law 258 = .ok (.aload_n 2, 1) := by decide +kernel
theorem dL_law_259 : decode cL_law 259 = .ok (.aload_n 0, 1) := by decide +kernel
theorem dL_law_260 : decode cL_law 260 = .ok (.iload_n 3, 1) := by decide +kernel
theorem dL_law_261 : decode cL_law 261 = .ok (.iconst 1, 1) := by decide +kernel
theorem dL_law_262 : decode cL_law 262 = .ok (.iadd, 1) := by decide +kernel
theorem dL_law_263 : decode cL_law 263 = .ok (.iaload, 1) := by decide +kernel
theorem dL_law_264 : decode cL_law 264 = .ok (.aload_n 0, 1) := by decide +kernel
theorem dL_law_265 : decode cL_law 265 = .ok (.iload_n 3, 1) := by decide +kernel
theorem dL_law_266 : decode cL_law 266 = .ok (.iconst 2, 1) := by decide +kernel
theorem dL_law_267 : decode cL_law 267 = .ok (.iadd, 1) := by decide +kernel
theorem dL_law_268 : decode cL_law 268 = .ok (.iaload, 1) := by decide +kernel
theorem dL_law_269 : decode cL_law 269 = .ok (.invokevirtual 35, 3) := by decide +kernel
theorem dL_law_272 : decode cL_law 272 = .ok (.if_icmp .eq 849, 3) := by decide +kernel
theorem dL_law_275 : decode cL_law 275 = .ok (.iconst 0, 1) := by decide +kernel
theorem dL_law_276 : decode cL_law 276 = .ok (.ireturn, 1) := by decide +kernel
theorem dL_law_277 : decode cL_law 277 = .ok (.aload_n 1, 1) := by decide +kernel
theorem dL_law_278 : decode cL_law 278 = .ok (.aload_n 0, 1) := by decide +kernel
theorem dL_law_279 : decode cL_law 279 = .ok (.iload_n 3, 1) := by decide +kernel
theorem dL_law_280 : decode cL_law 280 = .ok (.iconst 1, 1) := by decide +kernel
theorem dL_law_281 : decode cL_law 281 = .ok (.iadd, 1) := by decide +kernel
theorem dL_law_282 : decode cL_law 282 = .ok (.iaload, 1) := by decide +kernel
theorem dL_law_283 : decode cL_law 283 = .ok (.aload_n 0, 1) := by decide +kernel
theorem dL_law_284 : decode cL_law 284 = .ok (.iload_n 3, 1) := by decide +kernel
theorem dL_law_285 : decode cL_law 285 = .ok (.iconst 2, 1) := by decide +kernel
theorem dL_law_286 : decode cL_law 286 = .ok (.iadd, 1) := by decide +kernel
theorem dL_law_287 : decode cL_law 287 = .ok (.iaload, 1) := by decide +kernel
theorem dL_law_288 : decode cL_law 288 = .ok (.invokevirtual 36, 3) := by decide +kernel
theorem dL_law_291 : decode cL_law 291 = .ok (.aload_n 2, 1) := by decide +kernel
theorem dL_law_292 : decode cL_law 292 = .ok (.aload_n 0, 1) := by decide +kernel
theorem dL_law_293 : decode cL_law 293 = .ok (.iload_n 3, 1) := by decide +kernel
theorem dL_law_294 : decode cL_law 294 = .ok (.iconst 1, 1) := by decide +kernel
theorem dL_law_295 : decode cL_law 295 = .ok (.iadd, 1) := by decide +kernel
theorem dL_law_296 : decode cL_law 296 = .ok (.iaload, 1) := by decide +kernel
theorem dL_law_297 : decode cL_law 297 = .ok (.aload_n 0, 1) := by decide +kernel
theorem dL_law_298 : decode cL_law 298 = .ok (.iload_n 3, 1) := by decide +kernel
theorem dL_law_299 : decode cL_law 299 = .ok (.iconst 2, 1) := by decide +kernel
theorem dL_law_300 : decode cL_law 300 = .ok (.iadd, 1) := by decide +kernel
theorem dL_law_301 : decode cL_law 301 = .ok (.iaload, 1) := by decide +kernel
theorem dL_law_302 : decode cL_law 302 = .ok (.invokevirtual 39, 3) := by decide +kernel
theorem dL_law_305 : decode cL_law 305 = .ok (.if_icmp .eq 816, 3) := by decide +kernel
theorem dL_law_308 : decode cL_law 308 = .ok (.iconst 0, 1) := by decide +kernel
theorem dL_law_309 : decode cL_law 309 = .ok (.ireturn, 1) := by decide +kernel
theorem dL_law_310 : decode cL_law 310 = .ok (.aload_n 1, 1) := by decide +kernel
theorem dL_law_311 : decode cL_law 311 = .ok (.aload_n 0, 1) := by decide +kernel
theorem dL_law_312 : decode cL_law 312 = .ok (.iload_n 3, 1) := by decide +kernel
theorem dL_law_313 : decode cL_law 313 = .ok (.iconst 1, 1) := by decide +kernel
theorem dL_law_314 : decode cL_law 314 = .ok (.iadd, 1) := by decide +kernel
theorem dL_law_315 : decode cL_law 315 = .ok (.iaload, 1) := by decide +kernel
theorem dL_law_316 : decode cL_law 316 = .ok (.aload_n 0, 1) := by decide +kernel
theorem dL_law_317 : decode cL_law 317 = .ok (.iload_n 3, 1) := by decide +kernel
theorem dL_law_318 : decode cL_law 318 = .ok (.iconst 2, 1) := by decide +kernel
theorem dL_law_319 : decode cL_law 319 = .ok (.iadd, 1) := by decide +kernel
theorem dL_law_320 : decode cL_law 320 = .ok (.iaload, 1) := by decide +kernel
theorem dL_law_321 : decode cL_law 321 = .ok (.aload_n 0, 1) := by decide +kernel
theorem dL_law_322 : decode cL_law 322 = .ok (.iload_n 3, 1) := by decide +kernel
theorem dL_law_323 : decode cL_law 323 = .ok (.iconst 3, 1) := by decide +kernel
theorem dL_law_324 : decode cL_law 324 = .ok (.iadd, 1) := by decide +kernel
theorem dL_law_325 : decode cL_law 325 = .ok (.iaload, 1) := by decide +kernel
theorem dL_law_326 : decode cL_law 326 = .ok (.invokevirtual 40, 3) := by decide +kernel
theorem dL_law_329 : decode cL_law 329 = .ok (.aload_n 2, 1) := by decide +kernel
theorem dL_law_330 : decode cL_law 330 = .ok (.aload_n 0, 1) := by decide +kernel
theorem dL_law_331 : decode cL_law 331 = .ok (.iload_n 3, 1) := by decide +kernel
theorem dL_law_332 : decode cL_law 332 = .ok (.iconst 1, 1) := by decide +kernel
theorem dL_law_333 : decode cL_law 333 = .ok (.iadd, 1) := by decide +kernel
theorem dL_law_334 : decode cL_law 334 = .ok (.iaload, 1) := by decide +kernel
theorem dL_law_335 : decode cL_law 335 = .ok (.aload_n 0, 1) := by decide +kernel
theorem dL_law_336 : decode cL_law 336 = .ok (.iload_n 3, 1) := by decide +kernel
theorem dL_law_337 : decode cL_law 337 = .ok (.iconst 2, 1) := by decide +kernel
theorem dL_law_338 : decode cL_law 338 = .ok (.iadd, 1) := by decide +kernel
theorem dL_law_339 : decode cL_law 339 = .ok (.iaload, 1) := by decide +kernel
theorem dL_law_340 : decode cL_law 340 = .ok (.aload_n 0, 1) := by decide +kernel
theorem dL_law_341 : decode cL_law 341 = .ok (.iload_n 3, 1) := by decide +kernel
theorem dL_law_342 : decode cL_law 342 = .ok (.iconst 3, 1) := by decide +kernel
theorem dL_law_343 : decode cL_law 343 = .ok (.iadd, 1) := by decide +kernel
theorem dL_law_344 : decode cL_law 344 = .ok (.iaload, 1) := by decide +kernel
theorem dL_law_345 : decode cL_law 345 = .ok (.invokevirtual 44, 3) := by decide +kernel
theorem dL_law_348 : decode cL_law 348 = .ok (.if_icmp .eq 773, 3) := by decide +kernel
theorem dL_law_351 : decode cL_law 351 = .ok (.iconst 0, 1) := by decide +kernel
theorem dL_law_352 : decode cL_law 352 = .ok (.ireturn, 1) := by decide +kernel
theorem dL_law_353 : decode cL_law 353 = .ok (.aload_n 1, 1) := by decide +kernel
theorem dL_law_354 : decode cL_law 354 = .ok (.aload_n 0, 1) := by decide +kernel
theorem dL_law_355 : decode cL_law 355 = .ok (.iload_n 3, 1) := by decide +kernel
theorem dL_law_356 : decode cL_law 356 = .ok (.iconst 1, 1) := by decide +kernel
theorem dL_law_357 : decode cL_law 357 = .ok (.iadd, 1) := by decide +kernel
theorem dL_law_358 : decode cL_law 358 = .ok (.iaload, 1) := by decide +kernel
theorem dL_law_359 : decode cL_law 359 = .ok (.aload_n 0, 1) := by decide +kernel
theorem dL_law_360 : decode cL_law 360 = .ok (.iload_n 3, 1) := by decide +kernel
theorem dL_law_361 : decode cL_law 361 = .ok (.iconst 2, 1) := by decide +kernel
theorem dL_law_362 : decode cL_law 362 = .ok (.iadd, 1) := by decide +kernel
theorem dL_law_363 : decode cL_law 363 = .ok (.iaload, 1) := by decide +kernel
theorem dL_law_364 : decode cL_law 364 = .ok (.aload_n 0, 1) := by decide +kernel
theorem dL_law_365 : decode cL_law 365 = .ok (.iload_n 3, 1) := by decide +kernel
theorem dL_law_366 : decode cL_law 366 = .ok (.iconst 3, 1) := by decide +kernel
theorem dL_law_367 : decode cL_law 367 = .ok (.iadd, 1) := by decide +kernel
theorem dL_law_368 : decode cL_law 368 = .ok (.iaload, 1) := by decide +kernel
theorem dL_law_369 : decode cL_law 369 = .ok (.aload_n 0, 1) := by decide +kernel
theorem dL_law_370 : decode cL_law 370 = .ok (.iload_n 3, 1) := by decide +kernel
theorem dL_law_371 : decode cL_law 371 = .ok (.iconst 4, 1) := by decide +kernel
theorem dL_law_372 : decode cL_law 372 = .ok (.iadd, 1) := by decide +kernel
theorem dL_law_373 : decode cL_law 373 = .ok (.iaload, 1) := by decide +kernel
theorem dL_law_374 : decode cL_law 374 = .ok (.ifCond .eq 7, 3) := by decide +kernel
theorem dL_law_377 : decode cL_law 377 = .ok (.iconst 1, 1) := by decide +kernel
theorem dL_law_378 : decode cL_law 378 = .ok (.goto 4, 3) := by decide +kernel
theorem dL_law_381 : decode cL_law 381 = .ok (.iconst 0, 1) := by decide +kernel
theorem dL_law_382 : decode cL_law 382 = .ok (.invokevirtual 45, 3) := by decide +kernel
theorem dL_law_385 : decode cL_law 385 = .ok (.aload_n 2, 1) := by decide +kernel
theorem dL_law_386 : decode cL_law 386 = .ok (.aload_n 0, 1) := by decide +kernel
theorem dL_law_387 : decode cL_law 387 = .ok (.iload_n 3, 1) := by decide +kernel
theorem dL_law_388 : decode cL_law 388 = .ok (.iconst 1, 1) := by decide +kernel
theorem dL_law_389 : decode cL_law 389 = .ok (.iadd, 1) := by decide +kernel
theorem dL_law_390 : decode cL_law 390 = .ok (.iaload, 1) := by decide +kernel
theorem dL_law_391 : decode cL_law 391 = .ok (.aload_n 0, 1) := by decide +kernel
theorem dL_law_392 : decode cL_law 392 = .ok (.iload_n 3, 1) := by decide +kernel
theorem dL_law_393 : decode cL_law 393 = .ok (.iconst 2, 1) := by decide +kernel
theorem dL_law_394 : decode cL_law 394 = .ok (.iadd, 1) := by decide +kernel
theorem dL_law_395 : decode cL_law 395 = .ok (.iaload, 1) := by decide +kernel
theorem dL_law_396 : decode cL_law 396 = .ok (.aload_n 0, 1) := by decide +kernel
theorem dL_law_397 : decode cL_law 397 = .ok (.iload_n 3, 1) := by decide +kernel
theorem dL_law_398 : decode cL_law 398 = .ok (.iconst 3, 1) := by decide +kernel
theorem dL_law_399 : decode cL_law 399 = .ok (.iadd, 1) := by decide +kernel
theorem dL_law_400 : decode cL_law 400 = .ok (.iaload, 1) := by decide +kernel
theorem dL_law_401 : decode cL_law 401 = .ok (.aload_n 0, 1) := by decide +kernel
theorem dL_law_402 : decode cL_law 402 = .ok (.iload_n 3, 1) := by decide +kernel
theorem dL_law_403 : decode cL_law 403 = .ok (.iconst 4, 1) := by decide +kernel
theorem dL_law_404 : decode cL_law 404 = .ok (.iadd, 1) := by decide +kernel
theorem dL_law_405 : decode cL_law 405 = .ok (.iaload, 1) := by decide +kernel
theorem dL_law_406 : decode cL_law 406 = .ok (.ifCond .eq 7, 3) := by decide +kernel
theorem dL_law_409 : decode cL_law 409 = .ok (.iconst 1, 1) := by decide +kernel
theorem dL_law_410 : decode cL_law 410 = .ok (.goto 4, 3) := by decide +kernel
theorem dL_law_413 : decode cL_law 413 = .ok (.iconst 0, 1) := by decide +kernel
theorem dL_law_414 : decode cL_law 414 = .ok (.invokevirtual 49, 3) := by decide +kernel
theorem dL_law_417 : decode cL_law 417 = .ok (.if_icmp .eq 704, 3) := by decide +kernel
theorem dL_law_420 : decode cL_law 420 = .ok (.iconst 0, 1) := by decide +kernel
theorem dL_law_421 : decode cL_law 421 = .ok (.ireturn, 1) := by decide +kernel
theorem dL_law_422 : decode cL_law 422 = .ok (.aload_n 1, 1) := by decide +kernel
theorem dL_law_423 : decode cL_law 423 = .ok (.aload_n 0, 1) := by decide +kernel
theorem dL_law_424 : decode cL_law 424 = .ok (.iload_n 3, 1) := by decide +kernel
theorem dL_law_425 : decode cL_law 425 = .ok (.iconst 1, 1) := by decide +kernel
theorem dL_law_426 : decode cL_law 426 = .ok (.iadd, 1) := by decide +kernel
theorem dL_law_427 : decode cL_law 427 = .ok (.iaload, 1) := by decide +kernel
theorem dL_law_428 : decode cL_law 428 = .ok (.invokevirtual 50, 3) := by decide +kernel
theorem dL_law_431 : decode cL_law 431 = .ok (.aload_n 2, 1) := by decide +kernel
theorem dL_law_432 : decode cL_law 432 = .ok (.aload_n 0, 1) := by decide +kernel
theorem dL_law_433 : decode cL_law 433 = .ok (.iload_n 3, 1) := by decide +kernel
theorem dL_law_434 : decode cL_law 434 = .ok (.iconst 1, 1) := by decide +kernel
theorem dL_law_435 : decode cL_law 435 = .ok (.iadd, 1) := by decide +kernel
theorem dL_law_436 : decode cL_law 436 = .ok (.iaload, 1) := by decide +kernel
theorem dL_law_437 : decode cL_law 437 = .ok (.invokevirtual 53, 3) := by decide +kernel
theorem dL_law_440 : decode cL_law 440 = .ok (.if_icmp .eq 681, 3) := by decide +kernel
theorem dL_law_443 : decode cL_law 443 = .ok (.iconst 0, 1) := by decide +kernel
theorem dL_law_444 : decode cL_law 444 = .ok (.ireturn, 1) := by decide +kernel
theorem dL_law_445 : decode cL_law 445 = .ok (.aload_n 1, 1) := by decide +kernel
theorem dL_law_446 : decode cL_law 446 = .ok (.aload_n 0, 1) := by decide +kernel
theorem dL_law_447 : decode cL_law 447 = .ok (.iload_n 3, 1) := by decide +kernel
theorem dL_law_448 : decode cL_law 448 = .ok (.iconst 1, 1) := by decide +kernel
theorem dL_law_449 : decode cL_law 449 = .ok (.iadd, 1) := by decide +kernel
theorem dL_law_450 : decode cL_law 450 = .ok (.iaload, 1) := by decide +kernel
theorem dL_law_451 : decode cL_law 451 = .ok (.invokevirtual 54, 3) := by decide +kernel
theorem dL_law_454 : decode cL_law 454 = .ok (.aload_n 2, 1) := by decide +kernel
theorem dL_law_455 : decode cL_law 455 = .ok (.aload_n 0, 1) := by decide +kernel
theorem dL_law_456 : decode cL_law 456 = .ok (.iload_n 3, 1) := by decide +kernel
theorem dL_law_457 : decode cL_law 457 = .ok (.iconst 1, 1) := by decide +kernel
theorem dL_law_458 : decode cL_law 458 = .ok (.iadd, 1) := by decide +kernel
theorem dL_law_459 : decode cL_law 459 = .ok (.iaload, 1) := by decide +kernel
theorem dL_law_460 : decode cL_law 460 = .ok (.invokevirtual 57, 3) := by decide +kernel
theorem dL_law_463 : decode cL_law 463 = .ok (.if_icmp .eq 658, 3) := by decide +kernel
theorem dL_law_466 : decode cL_law 466 = .ok (.iconst 0, 1) := by decide +kernel
theorem dL_law_467 : decode cL_law 467 = .ok (.ireturn, 1) := by decide +kernel
theorem dL_law_468 : decode cL_law 468 = .ok (.aload_n 1, 1) := by decide +kernel
theorem dL_law_469 : decode cL_law 469 = .ok (.aload_n 0, 1) := by decide +kernel
theorem dL_law_470 : decode cL_law 470 = .ok (.iload_n 3, 1) := by decide +kernel
theorem dL_law_471 : decode cL_law 471 = .ok (.iconst 1, 1) := by decide +kernel
theorem dL_law_472 : decode cL_law 472 = .ok (.iadd, 1) := by decide +kernel
theorem dL_law_473 : decode cL_law 473 = .ok (.iaload, 1) := by decide +kernel
theorem dL_law_474 : decode cL_law 474 = .ok (.invokevirtual 58, 3) := by decide +kernel
theorem dL_law_477 : decode cL_law 477 = .ok (.aload_n 2, 1) := by decide +kernel
theorem dL_law_478 : decode cL_law 478 = .ok (.aload_n 0, 1) := by decide +kernel
theorem dL_law_479 : decode cL_law 479 = .ok (.iload_n 3, 1) := by decide +kernel
theorem dL_law_480 : decode cL_law 480 = .ok (.iconst 1, 1) := by decide +kernel
theorem dL_law_481 : decode cL_law 481 = .ok (.iadd, 1) := by decide +kernel
theorem dL_law_482 : decode cL_law 482 = .ok (.iaload, 1) := by decide +kernel
theorem dL_law_483 : decode cL_law 483 = .ok (.invokevirtual 61, 3) := by decide +kernel
theorem dL_law_486 : decode cL_law 486 = .ok (.if_icmp .eq 635, 3) := by decide +kernel
theorem dL_law_489 : decode cL_law 489 = .ok (.iconst 0, 1) := by decide +kernel
theorem dL_law_490 : decode cL_law 490 = .ok (.ireturn, 1) := by decide +kernel
theorem dL_law_491 : decode cL_law 491 = .ok (.aload_n 1, 1) := by decide +kernel
theorem dL_law_492 : decode cL_law 492 = .ok (.aload_n 0, 1) := by decide +kernel
theorem dL_law_493 : decode cL_law 493 = .ok (.iload_n 3, 1) := by decide +kernel
theorem dL_law_494 : decode cL_law 494 = .ok (.iconst 1, 1) := by decide +kernel
theorem dL_law_495 : decode cL_law 495 = .ok (.iadd, 1) := by decide +kernel
theorem dL_law_496 : decode cL_law 496 = .ok (.iaload, 1) := by decide +kernel
theorem dL_law_497 : decode cL_law 497 = .ok (.invokevirtual 62, 3) := by decide +kernel
theorem dL_law_500 : decode cL_law 500 = .ok (.aload_n 2, 1) := by decide +kernel
theorem dL_law_501 : decode cL_law 501 = .ok (.aload_n 0, 1) := by decide +kernel
theorem dL_law_502 : decode cL_law 502 = .ok (.iload_n 3, 1) := by decide +kernel
theorem dL_law_503 : decode cL_law 503 = .ok (.iconst 1, 1) := by decide +kernel
theorem dL_law_504 : decode cL_law 504 = .ok (.iadd, 1) := by decide +kernel
theorem dL_law_505 : decode cL_law 505 = .ok (.iaload, 1) := by decide +kernel
theorem dL_law_506 : decode cL_law 506 = .ok (.invokevirtual 65, 3) := by decide +kernel
theorem dL_law_509 : decode cL_law 509 = .ok (.if_icmp .eq 612, 3) := by decide +kernel
theorem dL_law_512 : decode cL_law 512 = .ok (.iconst 0, 1) := by decide +kernel
theorem dL_law_513 : decode cL_law 513 = .ok (.ireturn, 1) := by decide +kernel
theorem dL_law_514 : decode cL_law 514 = .ok (.aload_n 1, 1) := by decide +kernel
theorem dL_law_515 : decode cL_law 515 = .ok (.aload_n 0, 1) := by decide +kernel
theorem dL_law_516 : decode cL_law 516 = .ok (.iload_n 3, 1) := by decide +kernel
theorem dL_law_517 : decode cL_law 517 = .ok (.iconst 1, 1) := by decide +kernel
theorem dL_law_518 : decode cL_law 518 = .ok (.iadd, 1) := by decide +kernel
theorem dL_law_519 : decode cL_law 519 = .ok (.iaload, 1) := by decide +kernel
theorem dL_law_520 : decode cL_law 520 = .ok (.aload_n 0, 1) := by decide +kernel
theorem dL_law_521 : decode cL_law 521 = .ok (.iload_n 3, 1) := by decide +kernel
theorem dL_law_522 : decode cL_law 522 = .ok (.iconst 2, 1) := by decide +kernel
theorem dL_law_523 : decode cL_law 523 = .ok (.iadd, 1) := by decide +kernel
theorem dL_law_524 : decode cL_law 524 = .ok (.iaload, 1) := by decide +kernel
theorem dL_law_525 : decode cL_law 525 = .ok (.invokevirtual 66, 3) := by decide +kernel
theorem dL_law_528 : decode cL_law 528 = .ok (.aload_n 2, 1) := by decide +kernel
theorem dL_law_529 : decode cL_law 529 = .ok (.aload_n 0, 1) := by decide +kernel
theorem dL_law_530 : decode cL_law 530 = .ok (.iload_n 3, 1) := by decide +kernel
theorem dL_law_531 : decode cL_law 531 = .ok (.iconst 1, 1) := by decide +kernel
theorem dL_law_532 : decode cL_law 532 = .ok (.iadd, 1) := by decide +kernel
theorem dL_law_533 : decode cL_law 533 = .ok (.iaload, 1) := by decide +kernel
theorem dL_law_534 : decode cL_law 534 = .ok (.aload_n 0, 1) := by decide +kernel
theorem dL_law_535 : decode cL_law 535 = .ok (.iload_n 3, 1) := by decide +kernel
theorem dL_law_536 : decode cL_law 536 = .ok (.iconst 2, 1) := by decide +kernel
theorem dL_law_537 : decode cL_law 537 = .ok (.iadd, 1) := by decide +kernel
theorem dL_law_538 : decode cL_law 538 = .ok (.iaload, 1) := by decide +kernel
theorem dL_law_539 : decode cL_law 539 = .ok (.invokevirtual 69, 3) := by decide +kernel
theorem dL_law_542 : decode cL_law 542 = .ok (.if_icmp .eq 579, 3) := by decide +kernel
theorem dL_law_545 : decode cL_law 545 = .ok (.iconst 0, 1) := by decide +kernel
theorem dL_law_546 : decode cL_law 546 = .ok (.ireturn, 1) := by decide +kernel
theorem dL_law_547 : decode cL_law 547 = .ok (.aload_n 1, 1) := by decide +kernel
theorem dL_law_548 : decode cL_law 548 = .ok (.aload_n 0, 1) := by decide +kernel
theorem dL_law_549 : decode cL_law 549 = .ok (.iload_n 3, 1) := by decide +kernel
theorem dL_law_550 : decode cL_law 550 = .ok (.iconst 1, 1) := by decide +kernel
theorem dL_law_551 : decode cL_law 551 = .ok (.iadd, 1) := by decide +kernel
theorem dL_law_552 : decode cL_law 552 = .ok (.iaload, 1) := by decide +kernel
theorem dL_law_553 : decode cL_law 553 = .ok (.aload_n 0, 1) := by decide +kernel
theorem dL_law_554 : decode cL_law 554 = .ok (.iload_n 3, 1) := by decide +kernel
theorem dL_law_555 : decode cL_law 555 = .ok (.iconst 2, 1) := by decide +kernel
theorem dL_law_556 : decode cL_law 556 = .ok (.iadd, 1) := by decide +kernel
theorem dL_law_557 : decode cL_law 557 = .ok (.iaload, 1) := by decide +kernel
theorem dL_law_558 : decode cL_law 558 = .ok (.aload_n 0, 1) := by decide +kernel
theorem dL_law_559 : decode cL_law 559 = .ok (.iload_n 3, 1) := by decide +kernel
theorem dL_law_560 : decode cL_law 560 = .ok (.iconst 3, 1) := by decide +kernel
theorem dL_law_561 : decode cL_law 561 = .ok (.iadd, 1) := by decide +kernel
theorem dL_law_562 : decode cL_law 562 = .ok (.iaload, 1) := by decide +kernel
theorem dL_law_563 : decode cL_law 563 = .ok (.aload_n 0, 1) := by decide +kernel
theorem dL_law_564 : decode cL_law 564 = .ok (.iload_n 3, 1) := by decide +kernel
theorem dL_law_565 : decode cL_law 565 = .ok (.iconst 4, 1) := by decide +kernel
theorem dL_law_566 : decode cL_law 566 = .ok (.iadd, 1) := by decide +kernel
theorem dL_law_567 : decode cL_law 567 = .ok (.iaload, 1) := by decide +kernel
theorem dL_law_568 : decode cL_law 568 = .ok (.invokevirtual 70, 3) := by decide +kernel
theorem dL_law_571 : decode cL_law 571 = .ok (.aload_n 2, 1) := by decide +kernel
theorem dL_law_572 : decode cL_law 572 = .ok (.aload_n 0, 1) := by decide +kernel
theorem dL_law_573 : decode cL_law 573 = .ok (.iload_n 3, 1) := by decide +kernel
theorem dL_law_574 : decode cL_law 574 = .ok (.iconst 1, 1) := by decide +kernel
theorem dL_law_575 : decode cL_law 575 = .ok (.iadd, 1) := by decide +kernel
theorem dL_law_576 : decode cL_law 576 = .ok (.iaload, 1) := by decide +kernel
theorem dL_law_577 : decode cL_law 577 = .ok (.aload_n 0, 1) := by decide +kernel
theorem dL_law_578 : decode cL_law 578 = .ok (.iload_n 3, 1) := by decide +kernel
theorem dL_law_579 : decode cL_law 579 = .ok (.iconst 2, 1) := by decide +kernel
theorem dL_law_580 : decode cL_law 580 = .ok (.iadd, 1) := by decide +kernel
theorem dL_law_581 : decode cL_law 581 = .ok (.iaload, 1) := by decide +kernel
theorem dL_law_582 : decode cL_law 582 = .ok (.aload_n 0, 1) := by decide +kernel
theorem dL_law_583 : decode cL_law 583 = .ok (.iload_n 3, 1) := by decide +kernel
theorem dL_law_584 : decode cL_law 584 = .ok (.iconst 3, 1) := by decide +kernel
theorem dL_law_585 : decode cL_law 585 = .ok (.iadd, 1) := by decide +kernel
theorem dL_law_586 : decode cL_law 586 = .ok (.iaload, 1) := by decide +kernel
theorem dL_law_587 : decode cL_law 587 = .ok (.aload_n 0, 1) := by decide +kernel
theorem dL_law_588 : decode cL_law 588 = .ok (.iload_n 3, 1) := by decide +kernel
theorem dL_law_589 : decode cL_law 589 = .ok (.iconst 4, 1) := by decide +kernel
theorem dL_law_590 : decode cL_law 590 = .ok (.iadd, 1) := by decide +kernel
theorem dL_law_591 : decode cL_law 591 = .ok (.iaload, 1) := by decide +kernel
theorem dL_law_592 : decode cL_law 592 = .ok (.invokevirtual 74, 3) := by decide +kernel
theorem dL_law_595 : decode cL_law 595 = .ok (.if_icmp .eq 526, 3) := by decide +kernel
theorem dL_law_598 : decode cL_law 598 = .ok (.iconst 0, 1) := by decide +kernel
theorem dL_law_599 : decode cL_law 599 = .ok (.ireturn, 1) := by decide +kernel
theorem dL_law_600 : decode cL_law 600 = .ok (.aload_n 1, 1) := by decide +kernel
theorem dL_law_601 : decode cL_law 601 = .ok (.aload_n 0, 1) := by decide +kernel
theorem dL_law_602 : decode cL_law 602 = .ok (.iload_n 3, 1) := by decide +kernel
theorem dL_law_603 : decode cL_law 603 = .ok (.iconst 1, 1) := by decide +kernel
theorem dL_law_604 : decode cL_law 604 = .ok (.iadd, 1) := by decide +kernel
theorem dL_law_605 : decode cL_law 605 = .ok (.iaload, 1) := by decide +kernel
theorem dL_law_606 : decode cL_law 606 = .ok (.aload_n 0, 1) := by decide +kernel
theorem dL_law_607 : decode cL_law 607 = .ok (.iload_n 3, 1) := by decide +kernel
theorem dL_law_608 : decode cL_law 608 = .ok (.iconst 2, 1) := by decide +kernel
theorem dL_law_609 : decode cL_law 609 = .ok (.iadd, 1) := by decide +kernel
theorem dL_law_610 : decode cL_law 610 = .ok (.iaload, 1) := by decide +kernel
theorem dL_law_611 : decode cL_law 611 = .ok (.invokevirtual 75, 3) := by decide +kernel
theorem dL_law_614 : decode cL_law 614 = .ok (.aload_n 2, 1) := by decide +kernel
theorem dL_law_615 : decode cL_law 615 = .ok (.aload_n 0, 1) := by decide +kernel
theorem dL_law_616 : decode cL_law 616 = .ok (.iload_n 3, 1) := by decide +kernel
theorem dL_law_617 : decode cL_law 617 = .ok (.iconst 1, 1) := by decide +kernel
theorem dL_law_618 : decode cL_law 618 = .ok (.iadd, 1) := by decide +kernel
theorem dL_law_619 : decode cL_law 619 = .ok (.iaload, 1) := by decide +kernel
theorem dL_law_620 : decode cL_law 620 = .ok (.aload_n 0, 1) := by decide +kernel
theorem dL_law_621 : decode cL_law 621 = .ok (.iload_n 3, 1) := by decide +kernel
theorem dL_law_622 : decode cL_law 622 = .ok (.iconst 2, 1) := by decide +kernel
theorem dL_law_623 : decode cL_law 623 = .ok (.iadd, 1) := by decide +kernel
theorem dL_law_624 : decode cL_law 624 = .ok (.iaload, 1) := by decide +kernel
theorem dL_law_625 : decode cL_law 625 = .ok (.invokevirtual 78, 3) := by decide +kernel
theorem dL_law_628 : decode cL_law 628 = .ok (.if_icmp .eq 493, 3) := by decide +kernel
theorem dL_law_631 : decode cL_law 631 = .ok (.iconst 0, 1) := by decide +kernel
theorem dL_law_632 : decode cL_law 632 = .ok (.ireturn, 1) := by decide +kernel
theorem dL_law_633 : decode cL_law 633 = .ok (.aload_n 1, 1) := by decide +kernel
theorem dL_law_634 : decode cL_law 634 = .ok (.aload_n 0, 1) := by decide +kernel
theorem dL_law_635 : decode cL_law 635 = .ok (.iload_n 3, 1) := by decide +kernel
theorem dL_law_636 : decode cL_law 636 = .ok (.iconst 1, 1) := by decide +kernel
theorem dL_law_637 : decode cL_law 637 = .ok (.iadd, 1) := by decide +kernel
theorem dL_law_638 : decode cL_law 638 = .ok (.iaload, 1) := by decide +kernel
theorem dL_law_639 : decode cL_law 639 = .ok (.aload_n 0, 1) := by decide +kernel
theorem dL_law_640 : decode cL_law 640 = .ok (.iload_n 3, 1) := by decide +kernel
theorem dL_law_641 : decode cL_law 641 = .ok (.iconst 2, 1) := by decide +kernel
theorem dL_law_642 : decode cL_law 642 = .ok (.iadd, 1) := by decide +kernel
theorem dL_law_643 : decode cL_law 643 = .ok (.iaload, 1) := by decide +kernel
theorem dL_law_644 : decode cL_law 644 = .ok (.aload_n 0, 1) := by decide +kernel
theorem dL_law_645 : decode cL_law 645 = .ok (.iload_n 3, 1) := by decide +kernel
theorem dL_law_646 : decode cL_law 646 = .ok (.iconst 3, 1) := by decide +kernel
theorem dL_law_647 : decode cL_law 647 = .ok (.iadd, 1) := by decide +kernel
theorem dL_law_648 : decode cL_law 648 = .ok (.iaload, 1) := by decide +kernel
theorem dL_law_649 : decode cL_law 649 = .ok (.invokevirtual 79, 3) := by decide +kernel
theorem dL_law_652 : decode cL_law 652 = .ok (.aload_n 2, 1) := by decide +kernel
theorem dL_law_653 : decode cL_law 653 = .ok (.aload_n 0, 1) := by decide +kernel
theorem dL_law_654 : decode cL_law 654 = .ok (.iload_n 3, 1) := by decide +kernel
theorem dL_law_655 : decode cL_law 655 = .ok (.iconst 1, 1) := by decide +kernel
theorem dL_law_656 : decode cL_law 656 = .ok (.iadd, 1) := by decide +kernel
theorem dL_law_657 : decode cL_law 657 = .ok (.iaload, 1) := by decide +kernel
theorem dL_law_658 : decode cL_law 658 = .ok (.aload_n 0, 1) := by decide +kernel
theorem dL_law_659 : decode cL_law 659 = .ok (.iload_n 3, 1) := by decide +kernel
theorem dL_law_660 : decode cL_law 660 = .ok (.iconst 2, 1) := by decide +kernel
theorem dL_law_661 : decode cL_law 661 = .ok (.iadd, 1) := by decide +kernel
theorem dL_law_662 : decode cL_law 662 = .ok (.iaload, 1) := by decide +kernel
theorem dL_law_663 : decode cL_law 663 = .ok (.aload_n 0, 1) := by decide +kernel
theorem dL_law_664 : decode cL_law 664 = .ok (.iload_n 3, 1) := by decide +kernel
theorem dL_law_665 : decode cL_law 665 = .ok (.iconst 3, 1) := by decide +kernel
theorem dL_law_666 : decode cL_law 666 = .ok (.iadd, 1) := by decide +kernel
theorem dL_law_667 : decode cL_law 667 = .ok (.iaload, 1) := by decide +kernel
theorem dL_law_668 : decode cL_law 668 = .ok (.invokevirtual 82, 3) := by decide +kernel
theorem dL_law_671 : decode cL_law 671 = .ok (.if_icmp .eq 450, 3) := by decide +kernel
theorem dL_law_674 : decode cL_law 674 = .ok (.iconst 0, 1) := by decide +kernel
theorem dL_law_675 : decode cL_law 675 = .ok (.ireturn, 1) := by decide +kernel
theorem dL_law_676 : decode cL_law 676 = .ok (.aload_n 1, 1) := by decide +kernel
theorem dL_law_677 : decode cL_law 677 = .ok (.aload_n 0, 1) := by decide +kernel
theorem dL_law_678 : decode cL_law 678 = .ok (.iload_n 3, 1) := by decide +kernel
theorem dL_law_679 : decode cL_law 679 = .ok (.iconst 1, 1) := by decide +kernel
theorem dL_law_680 : decode cL_law 680 = .ok (.iadd, 1) := by decide +kernel
theorem dL_law_681 : decode cL_law 681 = .ok (.iaload, 1) := by decide +kernel
theorem dL_law_682 : decode cL_law 682 = .ok (.aload_n 0, 1) := by decide +kernel
theorem dL_law_683 : decode cL_law 683 = .ok (.iload_n 3, 1) := by decide +kernel
theorem dL_law_684 : decode cL_law 684 = .ok (.iconst 2, 1) := by decide +kernel
theorem dL_law_685 : decode cL_law 685 = .ok (.iadd, 1) := by decide +kernel
theorem dL_law_686 : decode cL_law 686 = .ok (.iaload, 1) := by decide +kernel
theorem dL_law_687 : decode cL_law 687 = .ok (.aload_n 0, 1) := by decide +kernel
theorem dL_law_688 : decode cL_law 688 = .ok (.iload_n 3, 1) := by decide +kernel
theorem dL_law_689 : decode cL_law 689 = .ok (.iconst 3, 1) := by decide +kernel
theorem dL_law_690 : decode cL_law 690 = .ok (.iadd, 1) := by decide +kernel
theorem dL_law_691 : decode cL_law 691 = .ok (.iaload, 1) := by decide +kernel
theorem dL_law_692 : decode cL_law 692 = .ok (.invokevirtual 83, 3) := by decide +kernel
theorem dL_law_695 : decode cL_law 695 = .ok (.aload_n 2, 1) := by decide +kernel
theorem dL_law_696 : decode cL_law 696 = .ok (.aload_n 0, 1) := by decide +kernel
theorem dL_law_697 : decode cL_law 697 = .ok (.iload_n 3, 1) := by decide +kernel
theorem dL_law_698 : decode cL_law 698 = .ok (.iconst 1, 1) := by decide +kernel
theorem dL_law_699 : decode cL_law 699 = .ok (.iadd, 1) := by decide +kernel
theorem dL_law_700 : decode cL_law 700 = .ok (.iaload, 1) := by decide +kernel
theorem dL_law_701 : decode cL_law 701 = .ok (.aload_n 0, 1) := by decide +kernel
theorem dL_law_702 : decode cL_law 702 = .ok (.iload_n 3, 1) := by decide +kernel
theorem dL_law_703 : decode cL_law 703 = .ok (.iconst 2, 1) := by decide +kernel
theorem dL_law_704 : decode cL_law 704 = .ok (.iadd, 1) := by decide +kernel
theorem dL_law_705 : decode cL_law 705 = .ok (.iaload, 1) := by decide +kernel
theorem dL_law_706 : decode cL_law 706 = .ok (.aload_n 0, 1) := by decide +kernel
theorem dL_law_707 : decode cL_law 707 = .ok (.iload_n 3, 1) := by decide +kernel
theorem dL_law_708 : decode cL_law 708 = .ok (.iconst 3, 1) := by decide +kernel
theorem dL_law_709 : decode cL_law 709 = .ok (.iadd, 1) := by decide +kernel
theorem dL_law_710 : decode cL_law 710 = .ok (.iaload, 1) := by decide +kernel
theorem dL_law_711 : decode cL_law 711 = .ok (.invokevirtual 86, 3) := by decide +kernel
theorem dL_law_714 : decode cL_law 714 = .ok (.if_icmp .eq 407, 3) := by decide +kernel
theorem dL_law_717 : decode cL_law 717 = .ok (.iconst 0, 1) := by decide +kernel
theorem dL_law_718 : decode cL_law 718 = .ok (.ireturn, 1) := by decide +kernel
theorem dL_law_719 : decode cL_law 719 = .ok (.aload_n 1, 1) := by decide +kernel
theorem dL_law_720 : decode cL_law 720 = .ok (.aload_n 0, 1) := by decide +kernel
theorem dL_law_721 : decode cL_law 721 = .ok (.iload_n 3, 1) := by decide +kernel
theorem dL_law_722 : decode cL_law 722 = .ok (.iconst 1, 1) := by decide +kernel
theorem dL_law_723 : decode cL_law 723 = .ok (.iadd, 1) := by decide +kernel
theorem dL_law_724 : decode cL_law 724 = .ok (.iaload, 1) := by decide +kernel
theorem dL_law_725 : decode cL_law 725 = .ok (.aload_n 0, 1) := by decide +kernel
theorem dL_law_726 : decode cL_law 726 = .ok (.iload_n 3, 1) := by decide +kernel
theorem dL_law_727 : decode cL_law 727 = .ok (.iconst 2, 1) := by decide +kernel
theorem dL_law_728 : decode cL_law 728 = .ok (.iadd, 1) := by decide +kernel
theorem dL_law_729 : decode cL_law 729 = .ok (.iaload, 1) := by decide +kernel
theorem dL_law_730 : decode cL_law 730 = .ok (.invokevirtual 87, 3) := by decide +kernel
theorem dL_law_733 : decode cL_law 733 = .ok (.aload_n 2, 1) := by decide +kernel
theorem dL_law_734 : decode cL_law 734 = .ok (.aload_n 0, 1) := by decide +kernel
theorem dL_law_735 : decode cL_law 735 = .ok (.iload_n 3, 1) := by decide +kernel
theorem dL_law_736 : decode cL_law 736 = .ok (.iconst 1, 1) := by decide +kernel
theorem dL_law_737 : decode cL_law 737 = .ok (.iadd, 1) := by decide +kernel
theorem dL_law_738 : decode cL_law 738 = .ok (.iaload, 1) := by decide +kernel
theorem dL_law_739 : decode cL_law 739 = .ok (.aload_n 0, 1) := by decide +kernel
theorem dL_law_740 : decode cL_law 740 = .ok (.iload_n 3, 1) := by decide +kernel
theorem dL_law_741 : decode cL_law 741 = .ok (.iconst 2, 1) := by decide +kernel
theorem dL_law_742 : decode cL_law 742 = .ok (.iadd, 1) := by decide +kernel
theorem dL_law_743 : decode cL_law 743 = .ok (.iaload, 1) := by decide +kernel
theorem dL_law_744 : decode cL_law 744 = .ok (.invokevirtual 90, 3) := by decide +kernel
theorem dL_law_747 : decode cL_law 747 = .ok (.if_icmp .eq 374, 3) := by decide +kernel
theorem dL_law_750 : decode cL_law 750 = .ok (.iconst 0, 1) := by decide +kernel
theorem dL_law_751 : decode cL_law 751 = .ok (.ireturn, 1) := by decide +kernel
theorem dL_law_752 : decode cL_law 752 = .ok (.aload_n 1, 1) := by decide +kernel
theorem dL_law_753 : decode cL_law 753 = .ok (.aload_n 0, 1) := by decide +kernel
theorem dL_law_754 : decode cL_law 754 = .ok (.iload_n 3, 1) := by decide +kernel
theorem dL_law_755 : decode cL_law 755 = .ok (.iconst 1, 1) := by decide +kernel
theorem dL_law_756 : decode cL_law 756 = .ok (.iadd, 1) := by decide +kernel
theorem dL_law_757 : decode cL_law 757 = .ok (.iaload, 1) := by decide +kernel
theorem dL_law_758 : decode cL_law 758 = .ok (.aload_n 0, 1) := by decide +kernel
theorem dL_law_759 : decode cL_law 759 = .ok (.iload_n 3, 1) := by decide +kernel
theorem dL_law_760 : decode cL_law 760 = .ok (.iconst 2, 1) := by decide +kernel
theorem dL_law_761 : decode cL_law 761 = .ok (.iadd, 1) := by decide +kernel
theorem dL_law_762 : decode cL_law 762 = .ok (.iaload, 1) := by decide +kernel
theorem dL_law_763 : decode cL_law 763 = .ok (.aload_n 0, 1) := by decide +kernel
theorem dL_law_764 : decode cL_law 764 = .ok (.iload_n 3, 1) := by decide +kernel
theorem dL_law_765 : decode cL_law 765 = .ok (.iconst 3, 1) := by decide +kernel
theorem dL_law_766 : decode cL_law 766 = .ok (.iadd, 1) := by decide +kernel
theorem dL_law_767 : decode cL_law 767 = .ok (.iaload, 1) := by decide +kernel
theorem dL_law_768 : decode cL_law 768 = .ok (.invokevirtual 91, 3) := by decide +kernel
theorem dL_law_771 : decode cL_law 771 = .ok (.aload_n 2, 1) := by decide +kernel
theorem dL_law_772 : decode cL_law 772 = .ok (.aload_n 0, 1) := by decide +kernel
theorem dL_law_773 : decode cL_law 773 = .ok (.iload_n 3, 1) := by decide +kernel
theorem dL_law_774 : decode cL_law 774 = .ok (.iconst 1, 1) := by decide +kernel
theorem dL_law_775 : decode cL_law 775 = .ok (.iadd, 1) := by decide +kernel
theorem dL_law_776 : decode cL_law 776 = .ok (.iaload, 1) := by decide +kernel
theorem dL_law_777 : decode cL_law 777 = .ok (.aload_n 0, 1) := by decide +kernel
theorem dL_law_778 : decode cL_law 778 = .ok (.iload_n 3, 1) := by decide +kernel
theorem dL_law_779 : decode cL_law 779 = .ok (.iconst 2, 1) := by decide +kernel
theorem dL_law_780 : decode cL_law 780 = .ok (.iadd, 1) := by decide +kernel
theorem dL_law_781 : decode cL_law 781 = .ok (.iaload, 1) := by decide +kernel
theorem dL_law_782 : decode cL_law 782 = .ok (.aload_n 0, 1) := by decide +kernel
theorem dL_law_783 : decode cL_law 783 = .ok (.iload_n 3, 1) := by decide +kernel
theorem dL_law_784 : decode cL_law 784 = .ok (.iconst 3, 1) := by decide +kernel
theorem dL_law_785 : decode cL_law 785 = .ok (.iadd, 1) := by decide +kernel
theorem dL_law_786 : decode cL_law 786 = .ok (.iaload, 1) := by decide +kernel
theorem dL_law_787 : decode cL_law 787 = .ok (.invokevirtual 94, 3) := by decide +kernel
theorem dL_law_790 : decode cL_law 790 = .ok (.if_icmp .eq 331, 3) := by decide +kernel
theorem dL_law_793 : decode cL_law 793 = .ok (.iconst 0, 1) := by decide +kernel
theorem dL_law_794 : decode cL_law 794 = .ok (.ireturn, 1) := by decide +kernel
theorem dL_law_795 : decode cL_law 795 = .ok (.aload_n 1, 1) := by decide +kernel
theorem dL_law_796 : decode cL_law 796 = .ok (.aload_n 0, 1) := by decide +kernel
theorem dL_law_797 : decode cL_law 797 = .ok (.iload_n 3, 1) := by decide +kernel
theorem dL_law_798 : decode cL_law 798 = .ok (.iconst 1, 1) := by decide +kernel
theorem dL_law_799 : decode cL_law 799 = .ok (.iadd, 1) := by decide +kernel
theorem dL_law_800 : decode cL_law 800 = .ok (.iaload, 1) := by decide +kernel
theorem dL_law_801 : decode cL_law 801 = .ok (.aload_n 0, 1) := by decide +kernel
theorem dL_law_802 : decode cL_law 802 = .ok (.iload_n 3, 1) := by decide +kernel
theorem dL_law_803 : decode cL_law 803 = .ok (.iconst 2, 1) := by decide +kernel
theorem dL_law_804 : decode cL_law 804 = .ok (.iadd, 1) := by decide +kernel
theorem dL_law_805 : decode cL_law 805 = .ok (.iaload, 1) := by decide +kernel
theorem dL_law_806 : decode cL_law 806 = .ok (.invokevirtual 95, 3) := by decide +kernel
theorem dL_law_809 : decode cL_law 809 = .ok (.aload_n 2, 1) := by decide +kernel
theorem dL_law_810 : decode cL_law 810 = .ok (.aload_n 0, 1) := by decide +kernel
theorem dL_law_811 : decode cL_law 811 = .ok (.iload_n 3, 1) := by decide +kernel
theorem dL_law_812 : decode cL_law 812 = .ok (.iconst 1, 1) := by decide +kernel
theorem dL_law_813 : decode cL_law 813 = .ok (.iadd, 1) := by decide +kernel
theorem dL_law_814 : decode cL_law 814 = .ok (.iaload, 1) := by decide +kernel
theorem dL_law_815 : decode cL_law 815 = .ok (.aload_n 0, 1) := by decide +kernel
theorem dL_law_816 : decode cL_law 816 = .ok (.iload_n 3, 1) := by decide +kernel
theorem dL_law_817 : decode cL_law 817 = .ok (.iconst 2, 1) := by decide +kernel
theorem dL_law_818 : decode cL_law 818 = .ok (.iadd, 1) := by decide +kernel
theorem dL_law_819 : decode cL_law 819 = .ok (.iaload, 1) := by decide +kernel
theorem dL_law_820 : decode cL_law 820 = .ok (.invokevirtual 98, 3) := by decide +kernel
theorem dL_law_823 : decode cL_law 823 = .ok (.if_icmp .eq 298, 3) := by decide +kernel
theorem dL_law_826 : decode cL_law 826 = .ok (.iconst 0, 1) := by decide +kernel
theorem dL_law_827 : decode cL_law 827 = .ok (.ireturn, 1) := by decide +kernel
theorem dL_law_828 : decode cL_law 828 = .ok (.aload_n 1, 1) := by decide +kernel
theorem dL_law_829 : decode cL_law 829 = .ok (.aload_n 0, 1) := by decide +kernel
theorem dL_law_830 : decode cL_law 830 = .ok (.iload_n 3, 1) := by decide +kernel
theorem dL_law_831 : decode cL_law 831 = .ok (.iconst 1, 1) := by decide +kernel
theorem dL_law_832 : decode cL_law 832 = .ok (.iadd, 1) := by decide +kernel
theorem dL_law_833 : decode cL_law 833 = .ok (.iaload, 1) := by decide +kernel
theorem dL_law_834 : decode cL_law 834 = .ok (.invokevirtual 99, 3) := by decide +kernel
theorem dL_law_837 : decode cL_law 837 = .ok (.aload_n 2, 1) := by decide +kernel
theorem dL_law_838 : decode cL_law 838 = .ok (.aload_n 0, 1) := by decide +kernel
theorem dL_law_839 : decode cL_law 839 = .ok (.iload_n 3, 1) := by decide +kernel
theorem dL_law_840 : decode cL_law 840 = .ok (.iconst 1, 1) := by decide +kernel
theorem dL_law_841 : decode cL_law 841 = .ok (.iadd, 1) := by decide +kernel
theorem dL_law_842 : decode cL_law 842 = .ok (.iaload, 1) := by decide +kernel
theorem dL_law_843 : decode cL_law 843 = .ok (.invokevirtual 102, 3) := by decide +kernel
theorem dL_law_846 : decode cL_law 846 = .ok (.if_icmp .eq 275, 3) := by decide +kernel
theorem dL_law_849 : decode cL_law 849 = .ok (.iconst 0, 1) := by decide +kernel
theorem dL_law_850 : decode cL_law 850 = .ok (.ireturn, 1) := by decide +kernel
theorem dL_law_851 : decode cL_law 851 = .ok (.aload_n 1, 1) := by decide +kernel
theorem dL_law_852 : decode cL_law 852 = .ok (.aload_n 0, 1) := by decide +kernel
theorem dL_law_853 : decode cL_law 853 = .ok (.iload_n 3, 1) := by decide +kernel
theorem dL_law_854 : decode cL_law 854 = .ok (.iconst 1, 1) := by decide +kernel
theorem dL_law_855 : decode cL_law 855 = .ok (.iadd, 1) := by decide +kernel
theorem dL_law_856 : decode cL_law 856 = .ok (.iaload, 1) := by decide +kernel
theorem dL_law_857 : decode cL_law 857 = .ok (.aload_n 0, 1) := by decide +kernel
theorem dL_law_858 : decode cL_law 858 = .ok (.iload_n 3, 1) := by decide +kernel
theorem dL_law_859 : decode cL_law 859 = .ok (.iconst 2, 1) := by decide +kernel
theorem dL_law_860 : decode cL_law 860 = .ok (.iadd, 1) := by decide +kernel
theorem dL_law_861 : decode cL_law 861 = .ok (.iaload, 1) := by decide +kernel
theorem dL_law_862 : decode cL_law 862 = .ok (.invokevirtual 103, 3) := by decide +kernel
theorem dL_law_865 : decode cL_law 865 = .ok (.aload_n 2, 1) := by decide +kernel
theorem dL_law_866 : decode cL_law 866 = .ok (.aload_n 0, 1) := by decide +kernel
theorem dL_law_867 : decode cL_law 867 = .ok (.iload_n 3, 1) := by decide +kernel
theorem dL_law_868 : decode cL_law 868 = .ok (.iconst 1, 1) := by decide +kernel
theorem dL_law_869 : decode cL_law 869 = .ok (.iadd, 1) := by decide +kernel
theorem dL_law_870 : decode cL_law 870 = .ok (.iaload, 1) := by decide +kernel
theorem dL_law_871 : decode cL_law 871 = .ok (.aload_n 0, 1) := by decide +kernel
theorem dL_law_872 : decode cL_law 872 = .ok (.iload_n 3, 1) := by decide +kernel
theorem dL_law_873 : decode cL_law 873 = .ok (.iconst 2, 1) := by decide +kernel
theorem dL_law_874 : decode cL_law 874 = .ok (.iadd, 1) := by decide +kernel
theorem dL_law_875 : decode cL_law 875 = .ok (.iaload, 1) := by decide +kernel
theorem dL_law_876 : decode cL_law 876 = .ok (.invokevirtual 106, 3) := by decide +kernel
theorem dL_law_879 : decode cL_law 879 = .ok (.if_icmp .eq 242, 3) := by decide +kernel
theorem dL_law_882 : decode cL_law 882 = .ok (.iconst 0, 1) := by decide +kernel
theorem dL_law_883 : decode cL_law 883 = .ok (.ireturn, 1) := by decide +kernel
theorem dL_law_884 : decode cL_law 884 = .ok (.aload_n 1, 1) := by decide +kernel
theorem dL_law_885 : decode cL_law 885 = .ok (.aload_n 0, 1) := by decide +kernel
theorem dL_law_886 : decode cL_law 886 = .ok (.iload_n 3, 1) := by decide +kernel
theorem dL_law_887 : decode cL_law 887 = .ok (.iconst 1, 1) := by decide +kernel
theorem dL_law_888 : decode cL_law 888 = .ok (.iadd, 1) := by decide +kernel
theorem dL_law_889 : decode cL_law 889 = .ok (.iaload, 1) := by decide +kernel
theorem dL_law_890 : decode cL_law 890 = .ok (.aload_n 0, 1) := by decide +kernel
theorem dL_law_891 : decode cL_law 891 = .ok (.iload_n 3, 1) := by decide +kernel
theorem dL_law_892 : decode cL_law 892 = .ok (.iconst 2, 1) := by decide +kernel
theorem dL_law_893 : decode cL_law 893 = .ok (.iadd, 1) := by decide +kernel
theorem dL_law_894 : decode cL_law 894 = .ok (.iaload, 1) := by decide +kernel
theorem dL_law_895 : decode cL_law 895 = .ok (.aload_n 0, 1) := by decide +kernel
theorem dL_law_896 : decode cL_law 896 = .ok (.iload_n 3, 1) := by decide +kernel
theorem dL_law_897 : decode cL_law 897 = .ok (.iconst 3, 1) := by decide +kernel
theorem dL_law_898 : decode cL_law 898 = .ok (.iadd, 1) := by decide +kernel
theorem dL_law_899 : decode cL_law 899 = .ok (.iaload, 1) := by decide +kernel
theorem dL_law_900 : decode cL_law 900 = .ok (.invokevirtual 107, 3) := by decide +kernel
theorem dL_law_903 : decode cL_law 903 = .ok (.aload_n 2, 1) := by decide +kernel
theorem dL_law_904 : decode cL_law 904 = .ok (.aload_n 0, 1) := by decide +kernel
theorem dL_law_905 : decode cL_law 905 = .ok (.iload_n 3, 1) := by decide +kernel
theorem dL_law_906 : decode cL_law 906 = .ok (.iconst 1, 1) := by decide +kernel
theorem dL_law_907 : decode cL_law 907 = .ok (.iadd, 1) := by decide +kernel
theorem dL_law_908 : decode cL_law 908 = .ok (.iaload, 1) := by decide +kernel
theorem dL_law_909 : decode cL_law 909 = .ok (.aload_n 0, 1) := by decide +kernel
theorem dL_law_910 : decode cL_law 910 = .ok (.iload_n 3, 1) := by decide +kernel
theorem dL_law_911 : decode cL_law 911 = .ok (.iconst 2, 1) := by decide +kernel
theorem dL_law_912 : decode cL_law 912 = .ok (.iadd, 1) := by decide +kernel
theorem dL_law_913 : decode cL_law 913 = .ok (.iaload, 1) := by decide +kernel
theorem dL_law_914 : decode cL_law 914 = .ok (.aload_n 0, 1) := by decide +kernel
theorem dL_law_915 : decode cL_law 915 = .ok (.iload_n 3, 1) := by decide +kernel
theorem dL_law_916 : decode cL_law 916 = .ok (.iconst 3, 1) := by decide +kernel
theorem dL_law_917 : decode cL_law 917 = .ok (.iadd, 1) := by decide +kernel
theorem dL_law_918 : decode cL_law 918 = .ok (.iaload, 1) := by decide +kernel
theorem dL_law_919 : decode cL_law 919 = .ok (.invokevirtual 110, 3) := by decide +kernel
theorem dL_law_922 : decode cL_law 922 = .ok (.if_icmp .eq 199, 3) := by decide +kernel
theorem dL_law_925 : decode cL_law 925 = .ok (.iconst 0, 1) := by decide +kernel
theorem dL_law_926 : decode cL_law 926 = .ok (.ireturn, 1) := by decide +kernel
theorem dL_law_927 : decode cL_law 927 = .ok (.aload_n 1, 1) := by decide +kernel
theorem dL_law_928 : decode cL_law 928 = .ok (.aload_n 0, 1) := by decide +kernel
theorem dL_law_929 : decode cL_law 929 = .ok (.iload_n 3, 1) := by decide +kernel
theorem dL_law_930 : decode cL_law 930 = .ok (.iconst 1, 1) := by decide +kernel
theorem dL_law_931 : decode cL_law 931 = .ok (.iadd, 1) := by decide +kernel
theorem dL_law_932 : decode cL_law 932 = .ok (.iaload, 1) := by decide +kernel
theorem dL_law_933 : decode cL_law 933 = .ok (.invokevirtual 111, 3) := by decide +kernel
theorem dL_law_936 : decode cL_law 936 = .ok (.aload_n 2, 1) := by decide +kernel
theorem dL_law_937 : decode cL_law 937 = .ok (.aload_n 0, 1) := by decide +kernel
theorem dL_law_938 : decode cL_law 938 = .ok (.iload_n 3, 1) := by decide +kernel
theorem dL_law_939 : decode cL_law 939 = .ok (.iconst 1, 1) := by decide +kernel
theorem dL_law_940 : decode cL_law 940 = .ok (.iadd, 1) := by decide +kernel
theorem dL_law_941 : decode cL_law 941 = .ok (.iaload, 1) := by decide +kernel
theorem dL_law_942 : decode cL_law 942 = .ok (.invokevirtual 114, 3) := by decide +kernel
theorem dL_law_945 : decode cL_law 945 = .ok (.if_icmp .eq 176, 3) := by decide +kernel
theorem dL_law_948 : decode cL_law 948 = .ok (.iconst 0, 1) := by decide +kernel
theorem dL_law_949 : decode cL_law 949 = .ok (.ireturn, 1) := by decide +kernel
theorem dL_law_950 : decode cL_law 950 = .ok (.aload_n 1, 1) := by decide +kernel
theorem dL_law_951 : decode cL_law 951 = .ok (.aload_n 0, 1) := by decide +kernel
theorem dL_law_952 : decode cL_law 952 = .ok (.iload_n 3, 1) := by decide +kernel
theorem dL_law_953 : decode cL_law 953 = .ok (.iconst 1, 1) := by decide +kernel
theorem dL_law_954 : decode cL_law 954 = .ok (.iadd, 1) := by decide +kernel
theorem dL_law_955 : decode cL_law 955 = .ok (.iaload, 1) := by decide +kernel
theorem dL_law_956 : decode cL_law 956 = .ok (.aload_n 0, 1) := by decide +kernel
theorem dL_law_957 : decode cL_law 957 = .ok (.iload_n 3, 1) := by decide +kernel
theorem dL_law_958 : decode cL_law 958 = .ok (.iconst 2, 1) := by decide +kernel
theorem dL_law_959 : decode cL_law 959 = .ok (.iadd, 1) := by decide +kernel
theorem dL_law_960 : decode cL_law 960 = .ok (.iaload, 1) := by decide +kernel
theorem dL_law_961 : decode cL_law 961 = .ok (.invokevirtual 115, 3) := by decide +kernel
theorem dL_law_964 : decode cL_law 964 = .ok (.aload_n 2, 1) := by decide +kernel
theorem dL_law_965 : decode cL_law 965 = .ok (.aload_n 0, 1) := by decide +kernel
theorem dL_law_966 : decode cL_law 966 = .ok (.iload_n 3, 1) := by decide +kernel
theorem dL_law_967 : decode cL_law 967 = .ok (.iconst 1, 1) := by decide +kernel
theorem dL_law_968 : decode cL_law 968 = .ok (.iadd, 1) := by decide +kernel
theorem dL_law_969 : decode cL_law 969 = .ok (.iaload, 1) := by decide +kernel
theorem dL_law_970 : decode cL_law 970 = .ok (.aload_n 0, 1) := by decide +kernel
theorem dL_law_971 : decode cL_law 971 = .ok (.iload_n 3, 1) := by decide +kernel
theorem dL_law_972 : decode cL_law 972 = .ok (.iconst 2, 1) := by decide +kernel
theorem dL_law_973 : decode cL_law 973 = .ok (.iadd, 1) := by decide +kernel
theorem dL_law_974 : decode cL_law 974 = .ok (.iaload, 1) := by decide +kernel
theorem dL_law_975 : decode cL_law 975 = .ok (.invokevirtual 118, 3) := by decide +kernel
theorem dL_law_978 : decode cL_law 978 = .ok (.if_icmp .eq 143, 3) := by decide +kernel
theorem dL_law_981 : decode cL_law 981 = .ok (.iconst 0, 1) := by decide +kernel
theorem dL_law_982 : decode cL_law 982 = .ok (.ireturn, 1) := by decide +kernel
theorem dL_law_983 : decode cL_law 983 = .ok (.aload_n 1, 1) := by decide +kernel
theorem dL_law_984 : decode cL_law 984 = .ok (.aload_n 0, 1) := by decide +kernel
theorem dL_law_985 : decode cL_law 985 = .ok (.iload_n 3, 1) := by decide +kernel
theorem dL_law_986 : decode cL_law 986 = .ok (.iconst 1, 1) := by decide +kernel
theorem dL_law_987 : decode cL_law 987 = .ok (.iadd, 1) := by decide +kernel
theorem dL_law_988 : decode cL_law 988 = .ok (.iaload, 1) := by decide +kernel
theorem dL_law_989 : decode cL_law 989 = .ok (.aload_n 0, 1) := by decide +kernel
theorem dL_law_990 : decode cL_law 990 = .ok (.iload_n 3, 1) := by decide +kernel
theorem dL_law_991 : decode cL_law 991 = .ok (.iconst 2, 1) := by decide +kernel
theorem dL_law_992 : decode cL_law 992 = .ok (.iadd, 1) := by decide +kernel
theorem dL_law_993 : decode cL_law 993 = .ok (.iaload, 1) := by decide +kernel
theorem dL_law_994 : decode cL_law 994 = .ok (.aload_n 0, 1) := by decide +kernel
theorem dL_law_995 : decode cL_law 995 = .ok (.iload_n 3, 1) := by decide +kernel
theorem dL_law_996 : decode cL_law 996 = .ok (.iconst 3, 1) := by decide +kernel
theorem dL_law_997 : decode cL_law 997 = .ok (.iadd, 1) := by decide +kernel
theorem dL_law_998 : decode cL_law 998 = .ok (.iaload, 1) := by decide +kernel
theorem dL_law_999 : decode cL_law 999 = .ok (.invokevirtual 119, 3) := by decide +kernel
theorem dL_law_1002 : decode cL_law 1002 = .ok (.aload_n 2, 1) := by decide +kernel
theorem dL_law_1003 : decode cL_law 1003 = .ok (.aload_n 0, 1) := by decide +kernel
theorem dL_law_1004 : decode cL_law 1004 = .ok (.iload_n 3, 1) := by decide +kernel
theorem dL_law_1005 : decode cL_law 1005 = .ok (.iconst 1, 1) := by decide +kernel
theorem dL_law_1006 : decode cL_law 1006 = .ok (.iadd, 1) := by decide +kernel
theorem dL_law_1007 : decode cL_law 1007 = .ok (.iaload, 1) := by decide +kernel
theorem dL_law_1008 : decode cL_law 1008 = .ok (.aload_n 0, 1) := by decide +kernel
theorem dL_law_1009 : decode cL_law 1009 = .ok (.iload_n 3, 1) := by decide +kernel
theorem dL_law_1010 : decode cL_law 1010 = .ok (.iconst 2, 1) := by decide +kernel
theorem dL_law_1011 : decode cL_law 1011 = .ok (.iadd, 1) := by decide +kernel
theorem dL_law_1012 : decode cL_law 1012 = .ok (.iaload, 1) := by decide +kernel
theorem dL_law_1013 : decode cL_law 1013 = .ok (.aload_n 0, 1) := by decide +kernel
theorem dL_law_1014 : decode cL_law 1014 = .ok (.iload_n 3, 1) := by decide +kernel
theorem dL_law_1015 : decode cL_law 1015 = .ok (.iconst 3, 1) := by decide +kernel
theorem dL_law_1016 : decode cL_law 1016 = .ok (.iadd, 1) := by decide +kernel
theorem dL_law_1017 : decode cL_law 1017 = .ok (.iaload, 1) := by decide +kernel
theorem dL_law_1018 : decode cL_law 1018 = .ok (.invokevirtual 122, 3) := by decide +kernel
theorem dL_law_1021 : decode cL_law 1021 = .ok (.if_icmp .eq 100, 3) := by decide +kernel
theorem dL_law_1024 : decode cL_law 1024 = .ok (.iconst 0, 1) := by decide +kernel
theorem dL_law_1025 : decode cL_law 1025 = .ok (.ireturn, 1) := by decide +kernel
theorem dL_law_1026 : decode cL_law 1026 = .ok (.aload_n 1, 1) := by decide +kernel
theorem dL_law_1027 : decode cL_law 1027 = .ok (.invokevirtual 123, 3) := by decide +kernel
theorem dL_law_1030 : decode cL_law 1030 = .ok (.aload_n 2, 1) := by decide +kernel
theorem dL_law_1031 : decode cL_law 1031 = .ok (.invokevirtual 126, 3) := by decide +kernel
theorem dL_law_1034 : decode cL_law 1034 = .ok (.if_icmp .eq 87, 3) := by decide +kernel
theorem dL_law_1037 : decode cL_law 1037 = .ok (.iconst 0, 1) := by decide +kernel
theorem dL_law_1038 : decode cL_law 1038 = .ok (.ireturn, 1) := by decide +kernel
theorem dL_law_1039 : decode cL_law 1039 = .ok (.aload_n 1, 1) := by decide +kernel
theorem dL_law_1040 : decode cL_law 1040 = .ok (.invokevirtual 127, 3) := by decide +kernel
theorem dL_law_1043 : decode cL_law 1043 = .ok (.aload_n 2, 1) := by decide +kernel
theorem dL_law_1044 : decode cL_law 1044 = .ok (.invokevirtual 130, 3) := by decide +kernel
theorem dL_law_1047 : decode cL_law 1047 = .ok (.if_icmp .eq 74, 3) := by decide +kernel
theorem dL_law_1050 : decode cL_law 1050 = .ok (.iconst 0, 1) := by decide +kernel
theorem dL_law_1051 : decode cL_law 1051 = .ok (.ireturn, 1) := by decide +kernel
theorem dL_law_1052 : decode cL_law 1052 = .ok (.aload_n 1, 1) := by decide +kernel
theorem dL_law_1053 : decode cL_law 1053 = .ok (.aload_n 0, 1) := by decide +kernel
theorem dL_law_1054 : decode cL_law 1054 = .ok (.iload_n 3, 1) := by decide +kernel
theorem dL_law_1055 : decode cL_law 1055 = .ok (.iconst 1, 1) := by decide +kernel
theorem dL_law_1056 : decode cL_law 1056 = .ok (.iadd, 1) := by decide +kernel
theorem dL_law_1057 : decode cL_law 1057 = .ok (.iaload, 1) := by decide +kernel
theorem dL_law_1058 : decode cL_law 1058 = .ok (.invokevirtual 131, 3) := by decide +kernel
theorem dL_law_1061 : decode cL_law 1061 = .ok (.aload_n 2, 1) := by decide +kernel
theorem dL_law_1062 : decode cL_law 1062 = .ok (.aload_n 0, 1) := by decide +kernel
theorem dL_law_1063 : decode cL_law 1063 = .ok (.iload_n 3, 1) := by decide +kernel
theorem dL_law_1064 : decode cL_law 1064 = .ok (.iconst 1, 1) := by decide +kernel
theorem dL_law_1065 : decode cL_law 1065 = .ok (.iadd, 1) := by decide +kernel
theorem dL_law_1066 : decode cL_law 1066 = .ok (.iaload, 1) := by decide +kernel
theorem dL_law_1067 : decode cL_law 1067 = .ok (.invokevirtual 134, 3) := by decide +kernel
theorem dL_law_1070 : decode cL_law 1070 = .ok (.if_icmp .eq 51, 3) := by decide +kernel
theorem dL_law_1073 : decode cL_law 1073 = .ok (.iconst 0, 1) := by decide +kernel
theorem dL_law_1074 : decode cL_law 1074 = .ok (.ireturn, 1) := by decide +kernel
theorem dL_law_1075 : decode cL_law 1075 = .ok (.aload_n 1, 1) := by decide +kernel
theorem dL_law_1076 : decode cL_law 1076 = .ok (.aload_n 0, 1) := by decide +kernel
theorem dL_law_1077 : decode cL_law 1077 = .ok (.iload_n 3, 1) := by decide +kernel
theorem dL_law_1078 : decode cL_law 1078 = .ok (.iconst 1, 1) := by decide +kernel
theorem dL_law_1079 : decode cL_law 1079 = .ok (.iadd, 1) := by decide +kernel
theorem dL_law_1080 : decode cL_law 1080 = .ok (.iaload, 1) := by decide +kernel
theorem dL_law_1081 : decode cL_law 1081 = .ok (.invokevirtual 135, 3) := by decide +kernel
theorem dL_law_1084 : decode cL_law 1084 = .ok (.aload_n 2, 1) := by decide +kernel
theorem dL_law_1085 : decode cL_law 1085 = .ok (.aload_n 0, 1) := by decide +kernel
theorem dL_law_1086 : decode cL_law 1086 = .ok (.iload_n 3, 1) := by decide +kernel
theorem dL_law_1087 : decode cL_law 1087 = .ok (.iconst 1, 1) := by decide +kernel
theorem dL_law_1088 : decode cL_law 1088 = .ok (.iadd, 1) := by decide +kernel
theorem dL_law_1089 : decode cL_law 1089 = .ok (.iaload, 1) := by decide +kernel
theorem dL_law_1090 : decode cL_law 1090 = .ok (.invokevirtual 138, 3) := by decide +kernel
theorem dL_law_1093 : decode cL_law 1093 = .ok (.if_icmp .eq 28, 3) := by decide +kernel
theorem dL_law_1096 : decode cL_law 1096 = .ok (.iconst 0, 1) := by decide +kernel
theorem dL_law_1097 : decode cL_law 1097 = .ok (.ireturn, 1) := by decide +kernel
theorem dL_law_1098 : decode cL_law 1098 = .ok (.aload_n 1, 1) := by decide +kernel
theorem dL_law_1099 : decode cL_law 1099 = .ok (.aload_n 0, 1) := by decide +kernel
theorem dL_law_1100 : decode cL_law 1100 = .ok (.iload_n 3, 1) := by decide +kernel
theorem dL_law_1101 : decode cL_law 1101 = .ok (.iconst 1, 1) := by decide +kernel
theorem dL_law_1102 : decode cL_law 1102 = .ok (.iadd, 1) := by decide +kernel
theorem dL_law_1103 : decode cL_law 1103 = .ok (.iaload, 1) := by decide +kernel
theorem dL_law_1104 : decode cL_law 1104 = .ok (.invokevirtual 139, 3) := by decide +kernel
theorem dL_law_1107 : decode cL_law 1107 = .ok (.aload_n 2, 1) := by decide +kernel
theorem dL_law_1108 : decode cL_law 1108 = .ok (.aload_n 0, 1) := by decide +kernel
theorem dL_law_1109 : decode cL_law 1109 = .ok (.iload_n 3, 1) := by decide +kernel
theorem dL_law_1110 : decode cL_law 1110 = .ok (.iconst 1, 1) := by decide +kernel
theorem dL_law_1111 : decode cL_law 1111 = .ok (.iadd, 1) := by decide +kernel
theorem dL_law_1112 : decode cL_law 1112 = .ok (.iaload, 1) := by decide +kernel
theorem dL_law_1113 : decode cL_law 1113 = .ok (.invokevirtual 142, 3) := by decide +kernel
theorem dL_law_1116 : decode cL_law 1116 = .ok (.if_icmp .eq 5, 3) := by decide +kernel
theorem dL_law_1119 : decode cL_law 1119 = .ok (.iconst 0, 1) := by decide +kernel
theorem dL_law_1120 : decode cL_law 1120 = .ok (.ireturn, 1) := by decide +kernel
theorem dL_law_1121 : decode cL_law 1121 = .ok (.iinc 3 5, 3) := by decide +kernel
theorem dL_law_1124 : decode cL_law 1124 = .ok (.goto (-1106), 3) := by decide +kernel
theorem dL_law_1127 : decode cL_law 1127 = .ok (.iconst 1, 1) := by decide +kernel
theorem dL_law_1128 : decode cL_law 1128 = .ok (.ireturn, 1) := by decide +kernel
theorem dX0_init_0 : decode cX0_init 0 = .ok (.aload_n 0, 1) := by decide +kernel
theorem dX0_init_1 : decode cX0_init 1 = .ok (.invokespecial 3, 3) := by decide +kernel
theorem dX0_init_4 : decode cX0_init 4 = .ok (.aload_n 0, 1) := by decide +kernel
theorem dX0_init_5 : decode cX0_init 5 = .ok (.iconst 4, 1) := by decide +kernel
theorem dX0_init_6 : decode cX0_init 6 = .ok (.newarray .int, 2) := by decide +kernel
theorem dX0_init_8 : decode cX0_init 8 = .ok (.putfield 9, 3) := by decide +kernel
theorem dX0_init_11 : decode cX0_init 11 = .ok (.aload_n 0, 1) := by decide +kernel
theorem dX0_init_12 : decode cX0_init 12 = .ok (.bipush 48, 2) := by decide +kernel
theorem dX0_init_14 : decode cX0_init 14 = .ok (.newarray .int, 2) := by decide +kernel
theorem dX0_init_16 : decode cX0_init 16 = .ok (.putfield 15, 3) := by decide +kernel
theorem dX0_init_19 : decode cX0_init 19 = .ok (.aload_n 0, 1) := by decide +kernel
theorem dX0_init_20 : decode cX0_init 20 = .ok (.bipush 48, 2) := by decide +kernel
theorem dX0_init_22 : decode cX0_init 22 = .ok (.newarray .int, 2) := by decide +kernel
theorem dX0_init_24 : decode cX0_init 24 = .ok (.putfield 18, 3) := by decide +kernel
theorem dX0_init_27 : decode cX0_init 27 = .ok (.aload_n 0, 1) := by decide +kernel
theorem dX0_init_28 : decode cX0_init 28 = .ok (.bipush 48, 2) := by decide +kernel
theorem dX0_init_30 : decode cX0_init 30 = .ok (.newarray .int, 2) := by decide +kernel
theorem dX0_init_32 : decode cX0_init 32 = .ok (.putfield 21, 3) := by decide +kernel
theorem dX0_init_35 : decode cX0_init 35 = .ok (.aload_n 0, 1) := by decide +kernel
theorem dX0_init_36 : decode cX0_init 36 = .ok (.iconst (-1), 1) := by decide +kernel
theorem dX0_init_37 : decode cX0_init 37 = .ok (.putfield 24, 3) := by decide +kernel
theorem dX0_init_40 : decode cX0_init 40 = .ok (.return_, 1) := by decide +kernel
theorem dX0_beginAs_0 : decode cX0_beginAs 0 = .ok (.aload_n 0, 1) := by decide +kernel
theorem dX0_beginAs_1 : decode cX0_beginAs 1 = .ok (.iconst (-1), 1) := by decide +kernel
theorem dX0_beginAs_2 : decode cX0_beginAs 2 = .ok (.putfield 24, 3) := by decide +kernel
theorem dX0_beginAs_5 : decode cX0_beginAs 5 = .ok (.iconst 0, 1) := by decide +kernel
theorem dX0_beginAs_6 : decode cX0_beginAs 6 = .ok (.istore_n 2, 1) := by decide +kernel
theorem dX0_beginAs_7 : decode cX0_beginAs 7 = .ok (.iload_n 2, 1) := by decide +kernel
theorem dX0_beginAs_8 : decode cX0_beginAs 8 = .ok (.iconst 4, 1) := by decide +kernel
theorem dX0_beginAs_9 : decode cX0_beginAs 9 = .ok (.if_icmp .ge 47, 3) := by decide +kernel
theorem dX0_beginAs_12 : decode cX0_beginAs 12 = .ok (.aload_n 0, 1) := by decide +kernel
theorem dX0_beginAs_13 : decode cX0_beginAs 13 = .ok (.getfield 9, 3) := by decide +kernel
theorem dX0_beginAs_16 : decode cX0_beginAs 16 = .ok (.iload_n 2, 1) := by decide +kernel
theorem dX0_beginAs_17 : decode cX0_beginAs 17 = .ok (.iconst 0, 1) := by decide +kernel
theorem dX0_beginAs_18 : decode cX0_beginAs 18 = .ok (.iastore, 1) := by decide +kernel
theorem dX0_beginAs_19 : decode cX0_beginAs 19 = .ok (.aload_n 1, 1) := by decide +kernel
theorem dX0_beginAs_20 : decode cX0_beginAs 20 = .ok (.iload_n 2, 1) := by decide +kernel
theorem dX0_beginAs_21 : decode cX0_beginAs 21 = .ok (.invokevirtual 28, 3) := by decide +kernel
theorem dX0_beginAs_24 : decode cX0_beginAs 24 = .ok (.ifCond .eq 26, 3) := by decide +kernel
theorem dX0_beginAs_27 : decode cX0_beginAs 27 = .ok (.aload_n 0, 1) := by decide +kernel
theorem dX0_beginAs_28 : decode cX0_beginAs 28 = .ok (.iload_n 2, 1) := by decide +kernel
theorem dX0_beginAs_29 : decode cX0_beginAs 29 = .ok (.aload_n 1, 1) := by decide +kernel
theorem dX0_beginAs_30 : decode cX0_beginAs 30 = .ok (.getfield 34, 3) := by decide +kernel
theorem dX0_beginAs_33 : decode cX0_beginAs 33 = .ok (.iload_n 2, 1) := by decide +kernel
theorem dX0_beginAs_34 : decode cX0_beginAs 34 = .ok (.iaload, 1) := by decide +kernel
theorem dX0_beginAs_35 : decode cX0_beginAs 35 = .ok (.aload_n 1, 1) := by decide +kernel
theorem dX0_beginAs_36 : decode cX0_beginAs 36 = .ok (.getfield 37, 3) := by decide +kernel
theorem dX0_beginAs_39 : decode cX0_beginAs 39 = .ok (.iload_n 2, 1) := by decide +kernel
theorem dX0_beginAs_40 : decode cX0_beginAs 40 = .ok (.iaload, 1) := by decide +kernel
theorem dX0_beginAs_41 : decode cX0_beginAs 41 = .ok (.aload_n 1, 1) := by decide +kernel
theorem dX0_beginAs_42 : decode cX0_beginAs 42 = .ok (.getfield 40, 3) := by decide +kernel
theorem dX0_beginAs_45 : decode cX0_beginAs 45 = .ok (.iload_n 2, 1) := by decide +kernel
theorem dX0_beginAs_46 : decode cX0_beginAs 46 = .ok (.iaload, 1) := by decide +kernel
theorem dX0_beginAs_47 : decode cX0_beginAs 47 = .ok (.invokevirtual 43, 3) := by decide +kernel
theorem dX0_beginAs_50 : decode cX0_beginAs 50 = .ok (.iinc 2 1, 3) := by decide +kernel
theorem dX0_beginAs_53 : decode cX0_beginAs 53 = .ok (.goto (-46), 3) := by decide +kernel
theorem dX0_beginAs_56 : decode cX0_beginAs 56 = .ok (.return_, 1) := by decide +kernel
theorem dX0_beginPaper_0 : decode cX0_beginPaper 0 = .ok (.iconst 0, 1) := by decide +kernel
theorem dX0_beginPaper_1 : decode cX0_beginPaper 1 = .ok (.istore 5, 2) := by decide +kernel
theorem dX0_beginPaper_3 : decode cX0_beginPaper 3 = .ok (.iload 5, 2) := by decide +kernel
theorem dX0_beginPaper_5 : decode cX0_beginPaper 5 = .ok (.iload 4, 2) := by decide +kernel
theorem dX0_beginPaper_7 : decode cX0_beginPaper 7 = .ok (.if_icmp .ge 29, 3) := by decide +kernel
theorem dX0_beginPaper_10 : decode cX0_beginPaper 10 = .ok (.iload_n 3, 1) := by decide +kernel
theorem dX0_beginPaper_11 : decode cX0_beginPaper 11 = .ok (.iload 5, 2) := by decide +kernel
theorem dX0_beginPaper_13 : decode cX0_beginPaper 13 = .ok (.iadd, 1) := by decide +kernel
theorem dX0_beginPaper_14 : decode cX0_beginPaper 14 = .ok (.bipush 96, 2) := by decide +kernel
theorem dX0_beginPaper_16 : decode cX0_beginPaper 16 = .ok (.if_icmp .ge 20, 3) := by decide +kernel
theorem dX0_beginPaper_19 : decode cX0_beginPaper 19 = .ok (.aload_n 0, 1) := by decide +kernel
theorem dX0_beginPaper_20 : decode cX0_beginPaper 20 = .ok (.iload_n 1, 1) := by decide +kernel
theorem dX0_beginPaper_21 : decode cX0_beginPaper 21 = .ok (.iload_n 2, 1) := by decide +kernel
theorem dX0_beginPaper_22 : decode cX0_beginPaper 22 = .ok (.iload_n 3, 1) := by decide +kernel
theorem dX0_beginPaper_23 : decode cX0_beginPaper 23 = .ok (.iload 5, 2) := by decide +kernel
theorem dX0_beginPaper_25 : decode cX0_beginPaper 25 = .ok (.iadd, 1) := by decide +kernel
theorem dX0_beginPaper_26 : decode cX0_beginPaper 26 = .ok (.iconst (-1), 1) := by decide +kernel
theorem dX0_beginPaper_27 : decode cX0_beginPaper 27 = .ok (.invokevirtual 47, 3) := by decide +kernel
theorem dX0_beginPaper_30 : decode cX0_beginPaper 30 = .ok (.iinc 5 1, 3) := by decide +kernel
theorem dX0_beginPaper_33 : decode cX0_beginPaper 33 = .ok (.goto (-30), 3) := by decide +kernel
theorem dX0_beginPaper_36 : decode cX0_beginPaper 36 = .ok (.return_, 1) := by decide +kernel
theorem dX0_copyFrom_0 : decode cX0_copyFrom 0 = .ok (.aload_n 1, 1) := by decide +kernel
theorem dX0_copyFrom_1 : decode cX0_copyFrom 1 = .ok (.getfield 9, 3) := by decide +kernel
theorem dX0_copyFrom_4 : decode cX0_copyFrom 4 = .ok (.iconst 0, 1) := by decide +kernel
theorem dX0_copyFrom_5 : decode cX0_copyFrom 5 = .ok (.aload_n 0, 1) := by decide +kernel
theorem dX0_copyFrom_6 : decode cX0_copyFrom 6 = .ok (.getfield 9, 3) := by decide +kernel
theorem dX0_copyFrom_9 : decode cX0_copyFrom 9 = .ok (.iconst 0, 1) := by decide +kernel
theorem dX0_copyFrom_10 : decode cX0_copyFrom 10 = .ok (.iconst 4, 1) := by decide +kernel
theorem dX0_copyFrom_11 : decode cX0_copyFrom 11 = .ok (.invokestatic 50, 3) := by decide +kernel
theorem dX0_copyFrom_14 : decode cX0_copyFrom 14 = .ok (.aload_n 1, 1) := by decide +kernel
theorem dX0_copyFrom_15 : decode cX0_copyFrom 15 = .ok (.getfield 15, 3) := by decide +kernel
theorem dX0_copyFrom_18 : decode cX0_copyFrom 18 = .ok (.iconst 0, 1) := by decide +kernel
theorem dX0_copyFrom_19 : decode cX0_copyFrom 19 = .ok (.aload_n 0, 1) := by decide +kernel
theorem dX0_copyFrom_20 : decode cX0_copyFrom 20 = .ok (.getfield 15, 3) := by decide +kernel
theorem dX0_copyFrom_23 : decode cX0_copyFrom 23 = .ok (.iconst 0, 1) := by decide +kernel
theorem dX0_copyFrom_24 : decode cX0_copyFrom 24 = .ok (.bipush 48, 2) := by decide +kernel
theorem dX0_copyFrom_26 : decode cX0_copyFrom 26 = .ok (.invokestatic 50, 3) := by decide +kernel
theorem dX0_copyFrom_29 : decode cX0_copyFrom 29 = .ok (.aload_n 1, 1) := by decide +kernel
theorem dX0_copyFrom_30 : decode cX0_copyFrom 30 = .ok (.getfield 18, 3) := by decide +kernel
theorem dX0_copyFrom_33 : decode cX0_copyFrom 33 = .ok (.iconst 0, 1) := by decide +kernel
theorem dX0_copyFrom_34 : decode cX0_copyFrom 34 = .ok (.aload_n 0, 1) := by decide +kernel
theorem dX0_copyFrom_35 : decode cX0_copyFrom 35 = .ok (.getfield 18, 3) := by decide +kernel
theorem dX0_copyFrom_38 : decode cX0_copyFrom 38 = .ok (.iconst 0, 1) := by decide +kernel
theorem dX0_copyFrom_39 : decode cX0_copyFrom 39 = .ok (.bipush 48, 2) := by decide +kernel
theorem dX0_copyFrom_41 : decode cX0_copyFrom 41 = .ok (.invokestatic 50, 3) := by decide +kernel
theorem dX0_copyFrom_44 : decode cX0_copyFrom 44 = .ok (.aload_n 1, 1) := by decide +kernel
theorem dX0_copyFrom_45 : decode cX0_copyFrom 45 = .ok (.getfield 21, 3) := by decide +kernel
theorem dX0_copyFrom_48 : decode cX0_copyFrom 48 = .ok (.iconst 0, 1) := by decide +kernel
theorem dX0_copyFrom_49 : decode cX0_copyFrom 49 = .ok (.aload_n 0, 1) := by decide +kernel
theorem dX0_copyFrom_50 : decode cX0_copyFrom 50 = .ok (.getfield 21, 3) := by decide +kernel
theorem dX0_copyFrom_53 : decode cX0_copyFrom 53 = .ok (.iconst 0, 1) := by decide +kernel
theorem dX0_copyFrom_54 : decode cX0_copyFrom 54 = .ok (.bipush 48, 2) := by decide +kernel
theorem dX0_copyFrom_56 : decode cX0_copyFrom 56 = .ok (.invokestatic 50, 3) := by decide +kernel
theorem dX0_copyFrom_59 : decode cX0_copyFrom 59 = .ok (.aload_n 0, 1) := by decide +kernel
theorem dX0_copyFrom_60 : decode cX0_copyFrom 60 = .ok (.aload_n 1, 1) := by decide +kernel
theorem dX0_copyFrom_61 : decode cX0_copyFrom 61 = .ok (.getfield 24, 3) := by decide +kernel
theorem dX0_copyFrom_64 : decode cX0_copyFrom 64 = .ok (.putfield 24, 3) := by decide +kernel
theorem dX0_copyFrom_67 : decode cX0_copyFrom 67 = .ok (.aload_n 0, 1) := by decide +kernel
theorem dX0_copyFrom_68 : decode cX0_copyFrom 68 = .ok (.aload_n 1, 1) := by decide +kernel
theorem dX0_copyFrom_69 : decode cX0_copyFrom 69 = .ok (.getfield 56, 3) := by decide +kernel
theorem dX0_copyFrom_72 : decode cX0_copyFrom 72 = .ok (.putfield 56, 3) := by decide +kernel
theorem dX0_copyFrom_75 : decode cX0_copyFrom 75 = .ok (.return_, 1) := by decide +kernel
theorem dX0_countOf_0 : decode cX0_countOf 0 = .ok (.iload_n 1, 1) := by decide +kernel
theorem dX0_countOf_1 : decode cX0_countOf 1 = .ok (.ifCond .lt 17, 3) := by decide +kernel
theorem dX0_countOf_4 : decode cX0_countOf 4 = .ok (.iload_n 1, 1) := by decide +kernel
theorem dX0_countOf_5 : decode cX0_countOf 5 = .ok (.iconst 4, 1) := by decide +kernel
theorem dX0_countOf_6 : decode cX0_countOf 6 = .ok (.if_icmp .ge 12, 3) := by decide +kernel
theorem dX0_countOf_9 : decode cX0_countOf 9 = .ok (.aload_n 0, 1) := by decide +kernel
theorem dX0_countOf_10 : decode cX0_countOf 10 = .ok (.getfield 9, 3) := by decide +kernel
theorem dX0_countOf_13 : decode cX0_countOf 13 = .ok (.iload_n 1, 1) := by decide +kernel
theorem dX0_countOf_14 : decode cX0_countOf 14 = .ok (.iaload, 1) := by decide +kernel
theorem dX0_countOf_15 : decode cX0_countOf 15 = .ok (.goto 4, 3) := by decide +kernel
theorem dX0_countOf_18 : decode cX0_countOf 18 = .ok (.iconst 0, 1) := by decide +kernel
theorem dX0_countOf_19 : decode cX0_countOf 19 = .ok (.ireturn, 1) := by decide +kernel
theorem dX0_countAll_0 : decode cX0_countAll 0 = .ok (.iconst 0, 1) := by decide +kernel
theorem dX0_countAll_1 : decode cX0_countAll 1 = .ok (.istore_n 1, 1) := by decide +kernel
theorem dX0_countAll_2 : decode cX0_countAll 2 = .ok (.iconst 0, 1) := by decide +kernel
theorem dX0_countAll_3 : decode cX0_countAll 3 = .ok (.istore_n 2, 1) := by decide +kernel
theorem dX0_countAll_4 : decode cX0_countAll 4 = .ok (.iload_n 2, 1) := by decide +kernel
theorem dX0_countAll_5 : decode cX0_countAll 5 = .ok (.iconst 4, 1) := by decide +kernel
theorem dX0_countAll_6 : decode cX0_countAll 6 = .ok (.if_icmp .ge 18, 3) := by decide +kernel
theorem dX0_countAll_9 : decode cX0_countAll 9 = .ok (.iload_n 1, 1) := by decide +kernel
theorem dX0_countAll_10 : decode cX0_countAll 10 = .ok (.aload_n 0, 1) := by decide +kernel
theorem dX0_countAll_11 : decode cX0_countAll 11 = .ok (.getfield 9, 3) := by decide +kernel
theorem dX0_countAll_14 : decode cX0_countAll 14 = .ok (.iload_n 2, 1) := by decide +kernel
theorem dX0_countAll_15 : decode cX0_countAll 15 = .ok (.iaload, 1) := by decide +kernel
theorem dX0_countAll_16 : decode cX0_countAll 16 = .ok (.iadd, 1) := by decide +kernel
theorem dX0_countAll_17 : decode cX0_countAll 17 = .ok (.istore_n 1, 1) := by decide +kernel
theorem dX0_countAll_18 : decode cX0_countAll 18 = .ok (.iinc 2 1, 3) := by decide +kernel
theorem dX0_countAll_21 : decode cX0_countAll 21 = .ok (.goto (-17), 3) := by decide +kernel
theorem dX0_countAll_24 : decode cX0_countAll 24 = .ok (.iload_n 1, 1) := by decide +kernel
theorem dX0_countAll_25 : decode cX0_countAll 25 = .ok (.ireturn, 1) := by decide +kernel
theorem dX0_countForged_0 : decode cX0_countForged 0 = .ok (.aload_n 0, 1) := by decide +kernel
theorem dX0_countForged_1 : decode cX0_countForged 1 = .ok (.iload_n 1, 1) := by decide +kernel
theorem dX0_countForged_2 : decode cX0_countForged 2 = .ok (.invokevirtual 59, 3) := by decide +kernel
theorem dX0_countForged_5 : decode cX0_countForged 5 = .ok (.istore_n 2, 1) := by decide +kernel
theorem dX0_countForged_6 : decode cX0_countForged 6 = .ok (.iconst 0, 1) := by decide +kernel
theorem dX0_countForged_7 : decode cX0_countForged 7 = .ok (.istore_n 3, 1) := by decide +kernel
theorem dX0_countForged_8 : decode cX0_countForged 8 = .ok (.iconst 0, 1) := by decide +kernel
theorem dX0_countForged_9 : decode cX0_countForged 9 = .ok (.istore 4, 2) := by decide +kernel
theorem dX0_countForged_11 : decode cX0_countForged 11 = .ok (.iload 4, 2) := by decide +kernel
theorem dX0_countForged_13 : decode cX0_countForged 13 = .ok (.iload_n 2, 1) := by decide +kernel
theorem dX0_countForged_14 : decode cX0_countForged 14 = .ok (.if_icmp .ge 22, 3) := by decide +kernel
theorem dX0_countForged_17 : decode cX0_countForged 17 = .ok (.aload_n 0, 1) := by decide +kernel
theorem dX0_countForged_18 : decode cX0_countForged 18 = .ok (.iload_n 1, 1) := by decide +kernel
theorem dX0_countForged_19 : decode cX0_countForged 19 = .ok (.iload 4, 2) := by decide +kernel
theorem dX0_countForged_21 : decode cX0_countForged 21 = .ok (.invokevirtual 63, 3) := by decide +kernel
theorem dX0_countForged_24 : decode cX0_countForged 24 = .ok (.ifCond .eq 6, 3) := by decide +kernel
theorem dX0_countForged_27 : decode cX0_countForged 27 = .ok (.iinc 3 1, 3) := by decide +kernel
theorem dX0_countForged_30 : decode cX0_countForged 30 = .ok (.iinc 4 1, 3) := by decide +kernel
theorem dX0_countForged_33 : decode cX0_countForged 33 = .ok (.goto (-22), 3) := by decide +kernel
theorem dX0_countForged_36 : decode cX0_countForged 36 = .ok (.iload_n 3, 1) := by decide +kernel
theorem dX0_countForged_37 : decode cX0_countForged 37 = .ok (.ireturn, 1) := by decide +kernel
theorem dX0_isFull_0 : decode cX0_isFull 0 = .ok (.aload_n 0, 1) := by decide +kernel
theorem dX0_isFull_1 : decode cX0_isFull 1 = .ok (.iload_n 1, 1) := by decide +kernel
theorem dX0_isFull_2 : decode cX0_isFull 2 = .ok (.invokevirtual 59, 3) := by decide +kernel
theorem dX0_isFull_5 : decode cX0_isFull 5 = .ok (.bipush 12, 2) := by decide +kernel
theorem dX0_isFull_7 : decode cX0_isFull 7 = .ok (.if_icmp .lt 7, 3) := by decide +kernel
theorem dX0_isFull_10 : decode cX0_isFull 10 = .ok (.iconst 1, 1) := by decide +kernel
theorem dX0_isFull_11 : decode cX0_isFull 11 = .ok (.goto 4, 3) := by decide +kernel
theorem dX0_isFull_14 : decode cX0_isFull 14 = .ok (.iconst 0, 1) := by decide +kernel
theorem dX0_isFull_15 : decode cX0_isFull 15 = .ok (.ireturn, 1) := by decide +kernel
theorem dX0_hasLetter_0 : decode cX0_hasLetter 0 = .ok (.iload_n 1, 1) := by decide +kernel
theorem dX0_hasLetter_1 : decode cX0_hasLetter 1 = .ok (.ifCond .lt 32, 3) := by decide +kernel
theorem dX0_hasLetter_4 : decode cX0_hasLetter 4 = .ok (.iload_n 1, 1) := by decide +kernel
theorem dX0_hasLetter_5 : decode cX0_hasLetter 5 = .ok (.iconst 4, 1) := by decide +kernel
theorem dX0_hasLetter_6 : decode cX0_hasLetter 6 = .ok (.if_icmp .ge 27, 3) := by decide +kernel
theorem dX0_hasLetter_9 : decode cX0_hasLetter 9 = .ok (.iload_n 2, 1) := by decide +kernel
theorem dX0_hasLetter_10 : decode cX0_hasLetter 10 = .ok (.ifCond .lt 23, 3) := by decide +kernel
theorem dX0_hasLetter_13 : decode cX0_hasLetter 13 = .ok (.iload_n 2, 1) := by decide +kernel
theorem dX0_hasLetter_14 : decode cX0_hasLetter 14 = .ok (.bipush 12, 2) := by decide +kernel
theorem dX0_hasLetter_16 : decode cX0_hasLetter 16 = .ok (.if_icmp .ge 17, 3) := by decide +kernel
theorem dX0_hasLetter_19 : decode cX0_hasLetter 19 = .ok (.iload_n 2, 1) := by decide +kernel
theorem dX0_hasLetter_20 : decode cX0_hasLetter 20 = .ok (.aload_n 0, 1) := by decide +kernel
theorem dX0_hasLetter_21 : decode cX0_hasLetter 21 = .ok (.getfield 9, 3) := by decide +kernel
theorem dX0_hasLetter_24 : decode cX0_hasLetter 24 = .ok (.iload_n 1, 1) := by decide +kernel
theorem dX0_hasLetter_25 : decode cX0_hasLetter 25 = .ok (.iaload, 1) := by decide +kernel
theorem dX0_hasLetter_26 : decode cX0_hasLetter 26 = .ok (.if_icmp .ge 7, 3) := by decide +kernel
theorem dX0_hasLetter_29 : decode cX0_hasLetter 29 = .ok (.iconst 1, 1) := by decide +kernel
theorem dX0_hasLetter_30 : decode cX0_hasLetter 30 = .ok (.goto 4, 3) := by decide +kernel
theorem dX0_hasLetter_33 : decode cX0_hasLetter 33 = .ok (.iconst 0, 1) := by decide +kernel
theorem dX0_hasLetter_34 : decode cX0_hasLetter 34 = .ok (.ireturn, 1) := by decide +kernel
theorem dX0_hourOf_0 : decode cX0_hourOf 0 = .ok (.aload_n 0, 1) := by decide +kernel
theorem dX0_hourOf_1 : decode cX0_hourOf 1 = .ok (.iload_n 1, 1) := by decide +kernel
theorem dX0_hourOf_2 : decode cX0_hourOf 2 = .ok (.iload_n 2, 1) := by decide +kernel
theorem dX0_hourOf_3 : decode cX0_hourOf 3 = .ok (.invokevirtual 67, 3) := by decide +kernel
theorem dX0_hourOf_6 : decode cX0_hourOf 6 = .ok (.ifCond .eq 17, 3) := by decide +kernel
theorem dX0_hourOf_9 : decode cX0_hourOf 9 = .ok (.aload_n 0, 1) := by decide +kernel
theorem dX0_hourOf_10 : decode cX0_hourOf 10 = .ok (.getfield 15, 3) := by decide +kernel
theorem dX0_hourOf_13 : decode cX0_hourOf 13 = .ok (.iload_n 1, 1) := by decide +kernel
theorem dX0_hourOf_14 : decode cX0_hourOf 14 = .ok (.bipush 12, 2) := by decide +kernel
theorem dX0_hourOf_16 : decode cX0_hourOf 16 = .ok (.imul, 1) := by decide +kernel
theorem dX0_hourOf_17 : decode cX0_hourOf 17 = .ok (.iload_n 2, 1) := by decide +kernel
theorem dX0_hourOf_18 : decode cX0_hourOf 18 = .ok (.iadd, 1) := by decide +kernel
theorem dX0_hourOf_19 : decode cX0_hourOf 19 = .ok (.iaload, 1) := by decide +kernel
theorem dX0_hourOf_20 : decode cX0_hourOf 20 = .ok (.goto 4, 3) := by decide +kernel
theorem dX0_hourOf_23 : decode cX0_hourOf 23 = .ok (.iconst (-1), 1) := by decide +kernel
theorem dX0_hourOf_24 : decode cX0_hourOf 24 = .ok (.ireturn, 1) := by decide +kernel
theorem dX0_writerOf_0 : decode cX0_writerOf 0 = .ok (.aload_n 0, 1) := by decide +kernel
theorem dX0_writerOf_1 : decode cX0_writerOf 1 = .ok (.iload_n 1, 1) := by decide +kernel
theorem dX0_writerOf_2 : decode cX0_writerOf 2 = .ok (.iload_n 2, 1) := by decide +kernel
theorem dX0_writerOf_3 : decode cX0_writerOf 3 = .ok (.invokevirtual 67, 3) := by decide +kernel
theorem dX0_writerOf_6 : decode cX0_writerOf 6 = .ok (.ifCond .eq 17, 3) := by decide +kernel
theorem dX0_writerOf_9 : decode cX0_writerOf 9 = .ok (.aload_n 0, 1) := by decide +kernel
theorem dX0_writerOf_10 : decode cX0_writerOf 10 = .ok (.getfield 18, 3) := by decide +kernel
theorem dX0_writerOf_13 : decode cX0_writerOf 13 = .ok (.iload_n 1, 1) := by decide +kernel
theorem dX0_writerOf_14 : decode cX0_writerOf 14 = .ok (.bipush 12, 2) := by decide +kernel
theorem dX0_writerOf_16 : decode cX0_writerOf 16 = .ok (.imul, 1) := by decide +kernel
theorem dX0_writerOf_17 : decode cX0_writerOf 17 = .ok (.iload_n 2, 1) := by decide +kernel
theorem dX0_writerOf_18 : decode cX0_writerOf 18 = .ok (.iadd, 1) := by decide +kernel
theorem dX0_writerOf_19 : decode cX0_writerOf 19 = .ok (.iaload, 1) := by decide +kernel
theorem dX0_writerOf_20 : decode cX0_writerOf 20 = .ok (.goto 4, 3) := by decide +kernel
theorem dX0_writerOf_23 : decode cX0_writerOf 23 = .ok (.iconst (-1), 1) := by decide +kernel
theorem dX0_writerOf_24 : decode cX0_writerOf 24 = .ok (.ireturn, 1) := by decide +kernel
theorem dX0_airOf_0 : decode cX0_airOf 0 = .ok (.aload_n 0, 1) := by decide +kernel
theorem dX0_airOf_1 : decode cX0_airOf 1 = .ok (.iload_n 1, 1) := by decide +kernel
theorem dX0_airOf_2 : decode cX0_airOf 2 = .ok (.iload_n 2, 1) := by decide +kernel
theorem dX0_airOf_3 : decode cX0_airOf 3 = .ok (.invokevirtual 67, 3) := by decide +kernel
theorem dX0_airOf_6 : decode cX0_airOf 6 = .ok (.ifCond .eq 17, 3) := by decide +kernel
theorem dX0_airOf_9 : decode cX0_airOf 9 = .ok (.aload_n 0, 1) := by decide +kernel
theorem dX0_airOf_10 : decode cX0_airOf 10 = .ok (.getfield 21, 3) := by decide +kernel
theorem dX0_airOf_13 : decode cX0_airOf 13 = .ok (.iload_n 1, 1) := by decide +kernel
theorem dX0_airOf_14 : decode cX0_airOf 14 = .ok (.bipush 12, 2) := by decide +kernel
theorem dX0_airOf_16 : decode cX0_airOf 16 = .ok (.imul, 1) := by decide +kernel
theorem dX0_airOf_17 : decode cX0_airOf 17 = .ok (.iload_n 2, 1) := by decide +kernel
theorem dX0_airOf_18 : decode cX0_airOf 18 = .ok (.iadd, 1) := by decide +kernel
theorem dX0_airOf_19 : decode cX0_airOf 19 = .ok (.iaload, 1) := by decide +kernel
theorem dX0_airOf_20 : decode cX0_airOf 20 = .ok (.goto 4, 3) := by decide +kernel
theorem dX0_airOf_23 : decode cX0_airOf 23 = .ok (.iconst (-1), 1) := by decide +kernel
theorem dX0_airOf_24 : decode cX0_airOf 24 = .ok (.ireturn, 1) := by decide +kernel
theorem dX0_isForged_0 : decode cX0_isForged 0 = .ok (.aload_n 0, 1) := by decide +kernel
theorem dX0_isForged_1 : decode cX0_isForged 1 = .ok (.iload_n 1, 1) := by decide +kernel
theorem dX0_isForged_2 : decode cX0_isForged 2 = .ok (.iload_n 2, 1) := by decide +kernel
theorem dX0_isForged_3 : decode cX0_isForged 3 = .ok (.invokevirtual 70, 3) := by decide +kernel
theorem dX0_isForged_6 : decode cX0_isForged 6 = .ok (.iconst (-1), 1) := by decide +kernel
theorem dX0_isForged_7 : decode cX0_isForged 7 = .ok (.if_icmp .eq 7, 3) := by decide +kernel
theorem dX0_isForged_10 : decode cX0_isForged 10 = .ok (.iconst 1, 1) := by decide +kernel
theorem dX0_isForged_11 : decode cX0_isForged 11 = .ok (.goto 4, 3) := by decide +kernel
theorem dX0_isForged_14 : decode cX0_isForged 14 = .ok (.iconst 0, 1) := by decide +kernel
theorem dX0_isForged_15 : decode cX0_isForged 15 = .ok (.ireturn, 1) := by decide +kernel
theorem dX0_lookOf_0 : decode cX0_lookOf 0 = .ok (.aload_n 0, 1) := by decide +kernel
theorem dX0_lookOf_1 : decode cX0_lookOf 1 = .ok (.iload_n 2, 1) := by decide +kernel
theorem dX0_lookOf_2 : decode cX0_lookOf 2 = .ok (.iload_n 3, 1) := by decide +kernel
theorem dX0_lookOf_3 : decode cX0_lookOf 3 = .ok (.invokevirtual 67, 3) := by decide +kernel
theorem dX0_lookOf_6 : decode cX0_lookOf 6 = .ok (.ifCond .ne 5, 3) := by decide +kernel
theorem dX0_lookOf_9 : decode cX0_lookOf 9 = .ok (.iconst (-1), 1) := by decide +kernel
theorem dX0_lookOf_10 : decode cX0_lookOf 10 = .ok (.ireturn, 1) := by decide +kernel
theorem dX0_lookOf_11 : decode cX0_lookOf 11 = .ok (.iload_n 2, 1) := by decide +kernel
theorem dX0_lookOf_12 : decode cX0_lookOf 12 = .ok (.bipush 12, 2) := by decide +kernel
theorem dX0_lookOf_14 : decode cX0_lookOf 14 = .ok (.imul, 1) := by decide +kernel
theorem dX0_lookOf_15 : decode cX0_lookOf 15 = .ok (.iload_n 3, 1) := by decide +kernel
theorem dX0_lookOf_16 : decode cX0_lookOf 16 = .ok (.iadd, 1) := by decide +kernel
theorem dX0_lookOf_17 : decode cX0_lookOf 17 = .ok (.istore 4, 2) := by decide +kernel
theorem dX0_lookOf_19 : decode cX0_lookOf 19 = .ok (.aload_n 1, 1) := by decide +kernel
theorem dX0_lookOf_20 : decode cX0_lookOf 20 = .ok (.aload_n 0, 1) := by decide +kernel
theorem dX0_lookOf_21 : decode cX0_lookOf 21 = .ok (.getfield 18, 3) := by decide +kernel
theorem dX0_lookOf_24 : decode cX0_lookOf 24 = .ok (.iload 4, 2) := by decide +kernel
theorem dX0_lookOf_26 : decode cX0_lookOf 26 = .ok (.iaload, 1) := by decide +kernel
theorem dX0_lookOf_27 : decode cX0_lookOf 27 = .ok (.aload_n 0, 1) := by decide +kernel
theorem dX0_lookOf_28 : decode cX0_lookOf 28 = .ok (.getfield 21, 3) := by decide +kernel
theorem dX0_lookOf_31 : decode cX0_lookOf 31 = .ok (.iload 4, 2) := by decide +kernel
theorem dX0_lookOf_33 : decode cX0_lookOf 33 = .ok (.iaload, 1) := by decide +kernel
theorem dX0_lookOf_34 : decode cX0_lookOf 34 = .ok (.iconst (-1), 1) := by decide +kernel
theorem dX0_lookOf_35 : decode cX0_lookOf 35 = .ok (.if_icmp .ne 13, 3) := by decide +kernel
theorem dX0_lookOf_38 : decode cX0_lookOf 38 = .ok (.aload_n 0, 1) := by decide +kernel
theorem dX0_lookOf_39 : decode cX0_lookOf 39 = .ok (.getfield 15, 3) := by decide +kernel
theorem dX0_lookOf_42 : decode cX0_lookOf 42 = .ok (.iload 4, 2) := by decide +kernel
theorem dX0_lookOf_44 : decode cX0_lookOf 44 = .ok (.iaload, 1) := by decide +kernel
theorem dX0_lookOf_45 : decode cX0_lookOf 45 = .ok (.goto 10, 3) := by decide +kernel
theorem dX0_lookOf_48 : decode cX0_lookOf 48 = .ok (.aload_n 0, 1) := by decide +kernel
theorem dX0_lookOf_49 : decode cX0_lookOf 49 = .ok (.getfield 21, 3) := by decide +kernel
theorem dX0_lookOf_52 : decode cX0_lookOf 52 = .ok (.iload 4, 2) := by decide +kernel
theorem dX0_lookOf_54 : decode cX0_lookOf 54 = .ok (.iaload, 1) := by decide +kernel
theorem dX0_lookOf_55 : decode cX0_lookOf 55 = .ok (.invokevirtual 74, 3) := by decide +kernel
theorem dX0_lookOf_58 : decode cX0_lookOf 58 = .ok (.ireturn, 1) := by decide +kernel
theorem dX0_looksAsBy_0 : decode cX0_looksAsBy 0 = .ok (.aload_n 0, 1) := by decide +kernel
theorem dX0_looksAsBy_1 : decode cX0_looksAsBy 1 = .ok (.aload_n 1, 1) := by decide +kernel
theorem dX0_looksAsBy_2 : decode cX0_looksAsBy 2 = .ok (.iload_n 2, 1) := by decide +kernel
theorem dX0_looksAsBy_3 : decode cX0_looksAsBy 3 = .ok (.iload_n 3, 1) := by decide +kernel
theorem dX0_looksAsBy_4 : decode cX0_looksAsBy 4 = .ok (.invokevirtual 77, 3) := by decide +kernel
theorem dX0_looksAsBy_7 : decode cX0_looksAsBy 7 = .ok (.aload_n 1, 1) := by decide +kernel
theorem dX0_looksAsBy_8 : decode cX0_looksAsBy 8 = .ok (.iload 4, 2) := by decide +kernel
theorem dX0_looksAsBy_10 : decode cX0_looksAsBy 10 = .ok (.aload_n 0, 1) := by decide +kernel
theorem dX0_looksAsBy_11 : decode cX0_looksAsBy 11 = .ok (.iload_n 2, 1) := by decide +kernel
theorem dX0_looksAsBy_12 : decode cX0_looksAsBy 12 = .ok (.iload_n 3, 1) := by decide +kernel
theorem dX0_looksAsBy_13 : decode cX0_looksAsBy 13 = .ok (.invokevirtual 81, 3) := by decide +kernel
theorem dX0_looksAsBy_16 : decode cX0_looksAsBy 16 = .ok (.invokevirtual 74, 3) := by decide +kernel
theorem dX0_looksAsBy_19 : decode cX0_looksAsBy 19 = .ok (.if_icmp .ne 7, 3) := by decide +kernel
theorem dX0_looksAsBy_22 : decode cX0_looksAsBy 22 = .ok (.iconst 1, 1) := by decide +kernel
theorem dX0_looksAsBy_23 : decode cX0_looksAsBy 23 = .ok (.goto 4, 3) := by decide +kernel
theorem dX0_looksAsBy_26 : decode cX0_looksAsBy 26 = .ok (.iconst 0, 1) := by decide +kernel
theorem dX0_looksAsBy_27 : decode cX0_looksAsBy 27 = .ok (.ireturn, 1) := by decide +kernel
theorem dX0_countAsBy_0 : decode cX0_countAsBy 0 = .ok (.aload_n 0, 1) := by decide +kernel
theorem dX0_countAsBy_1 : decode cX0_countAsBy 1 = .ok (.iload_n 2, 1) := by decide +kernel
theorem dX0_countAsBy_2 : decode cX0_countAsBy 2 = .ok (.invokevirtual 59, 3) := by decide +kernel
theorem dX0_countAsBy_5 : decode cX0_countAsBy 5 = .ok (.istore 4, 2) := by decide +kernel
theorem dX0_countAsBy_7 : decode cX0_countAsBy 7 = .ok (.iconst 0, 1) := by decide +kernel
theorem dX0_countAsBy_8 : decode cX0_countAsBy 8 = .ok (.istore 5, 2) := by decide +kernel
theorem dX0_countAsBy_10 : decode cX0_countAsBy 10 = .ok (.iconst 0, 1) := by decide +kernel
theorem dX0_countAsBy_11 : decode cX0_countAsBy 11 = .ok (.istore 6, 2) := by decide +kernel
theorem dX0_countAsBy_13 : decode cX0_countAsBy 13 = .ok (.iload 6, 2) := by decide +kernel
theorem dX0_countAsBy_15 : decode cX0_countAsBy 15 = .ok (.iload 4, 2) := by decide +kernel
theorem dX0_countAsBy_17 : decode cX0_countAsBy 17 = .ok (.if_icmp .ge 31, 3) := by decide +kernel
theorem dX0_countAsBy_20 : decode cX0_countAsBy 20 = .ok (.iload 5, 2) := by decide +kernel
theorem dX0_countAsBy_22 : decode cX0_countAsBy 22 = .ok (.aload_n 0, 1) := by decide +kernel
theorem dX0_countAsBy_23 : decode cX0_countAsBy 23 = .ok (.aload_n 1, 1) := by decide +kernel
theorem dX0_countAsBy_24 : decode cX0_countAsBy 24 = .ok (.iload_n 2, 1) := by decide +kernel
theorem dX0_countAsBy_25 : decode cX0_countAsBy 25 = .ok (.iload 6, 2) := by decide +kernel
theorem dX0_countAsBy_27 : decode cX0_countAsBy 27 = .ok (.iload_n 3, 1) := by decide +kernel
theorem dX0_countAsBy_28 : decode cX0_countAsBy 28 = .ok (.invokevirtual 84, 3) := by decide +kernel
theorem dX0_countAsBy_31 : decode cX0_countAsBy 31 = .ok (.ifCond .eq 7, 3) := by decide +kernel
theorem dX0_countAsBy_34 : decode cX0_countAsBy 34 = .ok (.iconst 1, 1) := by decide +kernel
theorem dX0_countAsBy_35 : decode cX0_countAsBy 35 = .ok (.goto 4, 3) := by decide +kernel
theorem dX0_countAsBy_38 : decode cX0_countAsBy 38 = .ok (.iconst 0, 1) := by decide +kernel
theorem dX0_countAsBy_39 : decode cX0_countAsBy 39 = .ok (.iadd, 1) := by decide +kernel
theorem dX0_countAsBy_40 : decode cX0_countAsBy 40 = .ok (.istore 5, 2) := by decide +kernel
theorem dX0_countAsBy_42 : decode cX0_countAsBy 42 = .ok (.iinc 6 1, 3) := by decide +kernel
theorem dX0_countAsBy_45 : decode cX0_countAsBy 45 = .ok (.goto (-32), 3) := by decide +kernel
theorem dX0_countAsBy_48 : decode cX0_countAsBy 48 = .ok (.iload 5, 2) := by decide +kernel
theorem dX0_countAsBy_50 : decode cX0_countAsBy 50 = .ok (.ireturn, 1) := by decide +kernel
theorem dX0_put_0 : decode cX0_put 0 = .ok (.iload_n 1, 1) := by decide +kernel
theorem dX0_put_1 : decode cX0_put 1 = .ok (.ifCond .lt 28, 3) := by decide +kernel
theorem dX0_put_4 : decode cX0_put 4 = .ok (.iload_n 1, 1) := by decide +kernel
theorem dX0_put_5 : decode cX0_put 5 = .ok (.iconst 4, 1) := by decide +kernel
theorem dX0_put_6 : decode cX0_put 6 = .ok (.if_icmp .ge 23, 3) := by decide +kernel
theorem dX0_put_9 : decode cX0_put 9 = .ok (.aload_n 0, 1) := by decide +kernel
theorem dX0_put_10 : decode cX0_put 10 = .ok (.getfield 9, 3) := by decide +kernel
theorem dX0_put_13 : decode cX0_put 13 = .ok (.iload_n 1, 1) := by decide +kernel
theorem dX0_put_14 : decode cX0_put 14 = .ok (.iaload, 1) := by decide +kernel
theorem dX0_put_15 : decode cX0_put 15 = .ok (.ifCond .lt 14, 3) := by decide +kernel
theorem dX0_put_18 : decode cX0_put 18 = .ok (.aload_n 0, 1) := by decide +kernel
theorem dX0_put_19 : decode cX0_put 19 = .ok (.getfield 9, 3) := by decide +kernel
theorem dX0_put_22 : decode cX0_put 22 = .ok (.iload_n 1, 1) := by decide +kernel
theorem dX0_put_23 : decode cX0_put 23 = .ok (.iaload, 1) := by decide +kernel
theorem dX0_put_24 : decode cX0_put 24 = .ok (.bipush 12, 2) := by decide +kernel
theorem dX0_put_26 : decode cX0_put 26 = .ok (.if_icmp .lt 4, 3) := by decide +kernel
theorem dX0_put_29 : decode cX0_put 29 = .ok (.return_, 1) := by decide +kernel
theorem dX0_put_30 : decode cX0_put 30 = .ok (.iload_n 1, 1) := by decide +kernel
theorem dX0_put_31 : decode cX0_put 31 = .ok (.bipush 12, 2) := by decide +kernel
theorem dX0_put_33 : decode cX0_put 33 = .ok (.imul, 1) := by decide +kernel
theorem dX0_put_34 : decode cX0_put 34 = .ok (.aload_n 0, 1) := by decide +kernel
theorem dX0_put_35 : decode cX0_put 35 = .ok (.getfield 9, 3) := by decide +kernel
theorem dX0_put_38 : decode cX0_put 38 = .ok (.iload_n 1, 1) := by decide +kernel
theorem dX0_put_39 : decode cX0_put 39 = .ok (.iaload, 1) := by decide +kernel
theorem dX0_put_40 : decode cX0_put 40 = .ok (.iadd, 1) := by decide +kernel
theorem dX0_put_41 : decode cX0_put 41 = .ok (.istore 5, 2) := by decide +kernel
theorem dX0_put_43 : decode cX0_put 43 = .ok (.aload_n 0, 1) := by decide +kernel
theorem dX0_put_44 : decode cX0_put 44 = .ok (.getfield 15, 3) := by decide +kernel
theorem dX0_put_47 : decode cX0_put 47 = .ok (.iload 5, 2) := by decide +kernel
theorem dX0_put_49 : decode cX0_put 49 = .ok (.iload_n 3, 1) := by decide +kernel
theorem dX0_put_50 : decode cX0_put 50 = .ok (.iastore, 1) := by decide +kernel
theorem dX0_put_51 : decode cX0_put 51 = .ok (.aload_n 0, 1) := by decide +kernel
theorem dX0_put_52 : decode cX0_put 52 = .ok (.getfield 18, 3) := by decide +kernel
theorem dX0_put_55 : decode cX0_put 55 = .ok (.iload 5, 2) := by decide +kernel
theorem dX0_put_57 : decode cX0_put 57 = .ok (.iload_n 2, 1) := by decide +kernel
theorem dX0_put_58 : decode cX0_put 58 = .ok (.iastore, 1) := by decide +kernel
theorem dX0_put_59 : decode cX0_put 59 = .ok (.aload_n 0, 1) := by decide +kernel
theorem dX0_put_60 : decode cX0_put 60 = .ok (.getfield 21, 3) := by decide +kernel
theorem dX0_put_63 : decode cX0_put 63 = .ok (.iload 5, 2) := by decide +kernel
theorem dX0_put_65 : decode cX0_put 65 = .ok (.iload 4, 2) := by decide +kernel
theorem dX0_put_67 : decode cX0_put 67 = .ok (.iastore, 1) := by decide +kernel
theorem dX0_put_68 : decode cX0_put 68 = .ok (.aload_n 0, 1) := by decide +kernel
theorem dX0_put_69 : decode cX0_put 69 = .ok (.getfield 9, 3) := by decide +kernel
theorem dX0_put_72 : decode cX0_put 72 = .ok (.iload_n 1, 1) := by decide +kernel
theorem dX0_put_73 : decode cX0_put 73 = .ok (.dup2, 1) := by decide +kernel
theorem dX0_put_74 : decode cX0_put 74 = .ok (.iaload, 1) := by decide +kernel
theorem dX0_put_75 : decode cX0_put 75 = .ok (.iconst 1, 1) := by decide +kernel
theorem dX0_put_76 : decode cX0_put 76 = .ok (.iadd, 1) := by decide +kernel
theorem dX0_put_77 : decode cX0_put 77 = .ok (.iastore, 1) := by decide +kernel
theorem dX0_put_78 : decode cX0_put 78 = .ok (.return_, 1) := by decide +kernel
theorem dX0_dropLast_0 : decode cX0_dropLast 0 = .ok (.aload_n 0, 1) := by decide +kernel
theorem dX0_dropLast_1 : decode cX0_dropLast 1 = .ok (.iload_n 1, 1) := by decide +kernel
theorem dX0_dropLast_2 : decode cX0_dropLast 2 = .ok (.invokevirtual 59, 3) := by decide +kernel
theorem dX0_dropLast_5 : decode cX0_dropLast 5 = .ok (.ifCond .le 13, 3) := by decide +kernel
theorem dX0_dropLast_8 : decode cX0_dropLast 8 = .ok (.aload_n 0, 1) := by decide +kernel
theorem dX0_dropLast_9 : decode cX0_dropLast 9 = .ok (.getfield 9, 3) := by decide +kernel
theorem dX0_dropLast_12 : decode cX0_dropLast 12 = .ok (.iload_n 1, 1) := by decide +kernel
theorem dX0_dropLast_13 : decode cX0_dropLast 13 = .ok (.dup2, 1) := by decide +kernel
theorem dX0_dropLast_14 : decode cX0_dropLast 14 = .ok (.iaload, 1) := by decide +kernel
theorem dX0_dropLast_15 : decode cX0_dropLast 15 = .ok (.iconst 1, 1) := by decide +kernel
theorem dX0_dropLast_16 : decode cX0_dropLast 16 = .ok (.isub, 1) := by decide +kernel
theorem dX0_dropLast_17 : decode cX0_dropLast 17 = .ok (.iastore, 1) := by decide +kernel
theorem dX0_dropLast_18 : decode cX0_dropLast 18 = .ok (.return_, 1) := by decide +kernel
theorem dX0_draw_0 : decode cX0_draw 0 = .ok (.iload_n 1, 1) := by decide +kernel
theorem dX0_draw_1 : decode cX0_draw 1 = .ok (.iconst 1, 1) := by decide +kernel
theorem dX0_draw_2 : decode cX0_draw 2 = .ok (.if_icmp .ge 5, 3) := by decide +kernel
theorem dX0_draw_5 : decode cX0_draw 5 = .ok (.iconst 0, 1) := by decide +kernel
theorem dX0_draw_6 : decode cX0_draw 6 = .ok (.ireturn, 1) := by decide +kernel
theorem dX0_draw_7 : decode cX0_draw 7 = .ok (.aload_n 0, 1) := by decide +kernel
theorem dX0_draw_8 : decode cX0_draw 8 = .ok (.aload_n 0, 1) := by decide +kernel
theorem dX0_draw_9 : decode cX0_draw 9 = .ok (.getfield 56, 3) := by decide +kernel
theorem dX0_draw_12 : decode cX0_draw 12 = .ok (.i2l, 1) := by decide +kernel
theorem dX0_draw_13 : decode cX0_draw 13 = .ok (.ldc2_w 88, 3) := by decide +kernel
theorem dX0_draw_16 : decode cX0_draw 16 = .ok (.lmul, 1) := by decide +kernel
theorem dX0_draw_17 : decode cX0_draw 17 = .ok (.ldc2_w 90, 3) := by decide +kernel
theorem dX0_draw_20 : decode cX0_draw 20 = .ok (.ladd, 1) := by decide +kernel
theorem dX0_draw_21 : decode cX0_draw 21 = .ok (.ldc2_w 92, 3) := by decide +kernel
theorem dX0_draw_24 : decode cX0_draw 24 = .ok (.lrem, 1) := by decide +kernel
theorem dX0_draw_25 : decode cX0_draw 25 = .ok (.l2i, 1) := by decide +kernel
theorem dX0_draw_26 : decode cX0_draw 26 = .ok (.putfield 56, 3) := by decide +kernel
theorem dX0_draw_29 : decode cX0_draw 29 = .ok (.aload_n 0, 1) := by decide +kernel
theorem dX0_draw_30 : decode cX0_draw 30 = .ok (.getfield 56, 3) := by decide +kernel
theorem dX0_draw_33 : decode cX0_draw 33 = .ok (.ldc 94, 2) := by decide +kernel
theorem dX0_draw_35 : decode cX0_draw 35 = .ok (.idiv, 1) := by decide +kernel
theorem dX0_draw_36 : decode cX0_draw 36 = .ok (.iload_n 1, 1) := by decide +kernel
theorem dX0_draw_37 : decode cX0_draw 37 = .ok (.irem, 1) := by decide +kernel
theorem dX0_draw_38 : decode cX0_draw 38 = .ok (.ireturn, 1) := by decide +kernel
theorem dX0_rowFrom_0 : decode cX0_rowFrom 0 = .ok (.aload_n 0, 1) := by decide +kernel
theorem dX0_rowFrom_1 : decode cX0_rowFrom 1 = .ok (.iload_n 2, 1) := by decide +kernel
theorem dX0_rowFrom_2 : decode cX0_rowFrom 2 = .ok (.invokevirtual 59, 3) := by decide +kernel
theorem dX0_rowFrom_5 : decode cX0_rowFrom 5 = .ok (.istore 6, 2) := by decide +kernel
theorem dX0_rowFrom_7 : decode cX0_rowFrom 7 = .ok (.iconst 0, 1) := by decide +kernel
theorem dX0_rowFrom_8 : decode cX0_rowFrom 8 = .ok (.istore 7, 2) := by decide +kernel
theorem dX0_rowFrom_10 : decode cX0_rowFrom 10 = .ok (.iload_n 3, 1) := by decide +kernel
theorem dX0_rowFrom_11 : decode cX0_rowFrom 11 = .ok (.iload 7, 2) := by decide +kernel
theorem dX0_rowFrom_13 : decode cX0_rowFrom 13 = .ok (.iadd, 1) := by decide +kernel
theorem dX0_rowFrom_14 : decode cX0_rowFrom 14 = .ok (.iload 6, 2) := by decide +kernel
theorem dX0_rowFrom_16 : decode cX0_rowFrom 16 = .ok (.if_icmp .ge 43, 3) := by decide +kernel
theorem dX0_rowFrom_19 : decode cX0_rowFrom 19 = .ok (.iload 5, 2) := by decide +kernel
theorem dX0_rowFrom_21 : decode cX0_rowFrom 21 = .ok (.iload 7, 2) := by decide +kernel
theorem dX0_rowFrom_23 : decode cX0_rowFrom 23 = .ok (.iadd, 1) := by decide +kernel
theorem dX0_rowFrom_24 : decode cX0_rowFrom 24 = .ok (.bipush 96, 2) := by decide +kernel
theorem dX0_rowFrom_26 : decode cX0_rowFrom 26 = .ok (.if_icmp .ge 33, 3) := by decide +kernel
theorem dX0_rowFrom_29 : decode cX0_rowFrom 29 = .ok (.aload_n 0, 1) := by decide +kernel
theorem dX0_rowFrom_30 : decode cX0_rowFrom 30 = .ok (.aload_n 1, 1) := by decide +kernel
theorem dX0_rowFrom_31 : decode cX0_rowFrom 31 = .ok (.iload_n 2, 1) := by decide +kernel
theorem dX0_rowFrom_32 : decode cX0_rowFrom 32 = .ok (.iload_n 3, 1) := by decide +kernel
theorem dX0_rowFrom_33 : decode cX0_rowFrom 33 = .ok (.iload 7, 2) := by decide +kernel
theorem dX0_rowFrom_35 : decode cX0_rowFrom 35 = .ok (.iadd, 1) := by decide +kernel
theorem dX0_rowFrom_36 : decode cX0_rowFrom 36 = .ok (.invokevirtual 77, 3) := by decide +kernel
theorem dX0_rowFrom_39 : decode cX0_rowFrom 39 = .ok (.aload_n 1, 1) := by decide +kernel
theorem dX0_rowFrom_40 : decode cX0_rowFrom 40 = .ok (.iload 4, 2) := by decide +kernel
theorem dX0_rowFrom_42 : decode cX0_rowFrom 42 = .ok (.iload 5, 2) := by decide +kernel
theorem dX0_rowFrom_44 : decode cX0_rowFrom 44 = .ok (.iload 7, 2) := by decide +kernel
theorem dX0_rowFrom_46 : decode cX0_rowFrom 46 = .ok (.iadd, 1) := by decide +kernel
theorem dX0_rowFrom_47 : decode cX0_rowFrom 47 = .ok (.invokevirtual 74, 3) := by decide +kernel
theorem dX0_rowFrom_50 : decode cX0_rowFrom 50 = .ok (.if_icmp .ne 9, 3) := by decide +kernel
theorem dX0_rowFrom_53 : decode cX0_rowFrom 53 = .ok (.iinc 7 1, 3) := by decide +kernel
theorem dX0_rowFrom_56 : decode cX0_rowFrom 56 = .ok (.goto (-46), 3) := by decide +kernel
theorem dX0_rowFrom_59 : decode cX0_rowFrom 59 = .ok (.iload 7, 2) := by decide +kernel
theorem dX0_rowFrom_61 : decode cX0_rowFrom 61 = .ok (.ireturn, 1) := by decide +kernel
theorem dX0_longestRow_0 : decode cX0_longestRow 0 = .ok (.iconst 0, 1) := by decide +kernel
theorem dX0_longestRow_1 : decode cX0_longestRow 1 = .ok (.istore 5, 2) := by decide +kernel
theorem dX0_longestRow_3 : decode cX0_longestRow 3 = .ok (.iconst 0, 1) := by decide +kernel
theorem dX0_longestRow_4 : decode cX0_longestRow 4 = .ok (.istore 6, 2) := by decide +kernel
theorem dX0_longestRow_6 : decode cX0_longestRow 6 = .ok (.iload 6, 2) := by decide +kernel
theorem dX0_longestRow_8 : decode cX0_longestRow 8 = .ok (.bipush 96, 2) := by decide +kernel
theorem dX0_longestRow_10 : decode cX0_longestRow 10 = .ok (.if_icmp .ge 27, 3) := by decide +kernel
theorem dX0_longestRow_13 : decode cX0_longestRow 13 = .ok (.iload 5, 2) := by decide +kernel
theorem dX0_longestRow_15 : decode cX0_longestRow 15 = .ok (.aload_n 0, 1) := by decide +kernel
theorem dX0_longestRow_16 : decode cX0_longestRow 16 = .ok (.aload_n 1, 1) := by decide +kernel
theorem dX0_longestRow_17 : decode cX0_longestRow 17 = .ok (.iload_n 2, 1) := by decide +kernel
theorem dX0_longestRow_18 : decode cX0_longestRow 18 = .ok (.iload_n 3, 1) := by decide +kernel
theorem dX0_longestRow_19 : decode cX0_longestRow 19 = .ok (.iload 4, 2) := by decide +kernel
theorem dX0_longestRow_21 : decode cX0_longestRow 21 = .ok (.iload 6, 2) := by decide +kernel
theorem dX0_longestRow_23 : decode cX0_longestRow 23 = .ok (.invokevirtual 95, 3) := by decide +kernel
theorem dX0_longestRow_26 : decode cX0_longestRow 26 = .ok (.invokestatic 99, 3) := by decide +kernel
theorem dX0_longestRow_29 : decode cX0_longestRow 29 = .ok (.istore 5, 2) := by decide +kernel
theorem dX0_longestRow_31 : decode cX0_longestRow 31 = .ok (.iinc 6 1, 3) := by decide +kernel
theorem dX0_longestRow_34 : decode cX0_longestRow 34 = .ok (.goto (-28), 3) := by decide +kernel
theorem dX0_longestRow_37 : decode cX0_longestRow 37 = .ok (.iload 5, 2) := by decide +kernel
theorem dX0_longestRow_39 : decode cX0_longestRow 39 = .ok (.ireturn, 1) := by decide +kernel
theorem dX0_fewestRows_0 : decode cX0_fewestRows 0 = .ok (.aload_n 0, 1) := by decide +kernel
theorem dX0_fewestRows_1 : decode cX0_fewestRows 1 = .ok (.iload_n 2, 1) := by decide +kernel
theorem dX0_fewestRows_2 : decode cX0_fewestRows 2 = .ok (.invokevirtual 59, 3) := by decide +kernel
theorem dX0_fewestRows_5 : decode cX0_fewestRows 5 = .ok (.istore 4, 2) := by decide +kernel
theorem dX0_fewestRows_7 : decode cX0_fewestRows 7 = .ok (.iconst 0, 1) := by decide +kernel
theorem dX0_fewestRows_8 : decode cX0_fewestRows 8 = .ok (.istore 5, 2) := by decide +kernel
theorem dX0_fewestRows_10 : decode cX0_fewestRows 10 = .ok (.iconst 0, 1) := by decide +kernel
theorem dX0_fewestRows_11 : decode cX0_fewestRows 11 = .ok (.istore 6, 2) := by decide +kernel
theorem dX0_fewestRows_13 : decode cX0_fewestRows 13 = .ok (.iconst 0, 1) := by decide +kernel
theorem dX0_fewestRows_14 : decode cX0_fewestRows 14 = .ok (.istore 7, 2) := by decide +kernel
theorem dX0_fewestRows_16 : decode cX0_fewestRows 16 = .ok (.iload 7, 2) := by decide +kernel
theorem dX0_fewestRows_18 : decode cX0_fewestRows 18 = .ok (.bipush 12, 2) := by decide +kernel
theorem dX0_fewestRows_20 : decode cX0_fewestRows 20 = .ok (.if_icmp .ge 45, 3) := by decide +kernel
theorem dX0_fewestRows_23 : decode cX0_fewestRows 23 = .ok (.iload 6, 2) := by decide +kernel
theorem dX0_fewestRows_25 : decode cX0_fewestRows 25 = .ok (.iload 4, 2) := by decide +kernel
theorem dX0_fewestRows_27 : decode cX0_fewestRows 27 = .ok (.if_icmp .ge 38, 3) := by decide +kernel
theorem dX0_fewestRows_30 : decode cX0_fewestRows 30 = .ok (.aload_n 0, 1) := by decide +kernel
theorem dX0_fewestRows_31 : decode cX0_fewestRows 31 = .ok (.aload_n 1, 1) := by decide +kernel
theorem dX0_fewestRows_32 : decode cX0_fewestRows 32 = .ok (.iload_n 2, 1) := by decide +kernel
theorem dX0_fewestRows_33 : decode cX0_fewestRows 33 = .ok (.iload 6, 2) := by decide +kernel
theorem dX0_fewestRows_35 : decode cX0_fewestRows 35 = .ok (.iload_n 3, 1) := by decide +kernel
theorem dX0_fewestRows_36 : decode cX0_fewestRows 36 = .ok (.invokevirtual 104, 3) := by decide +kernel
theorem dX0_fewestRows_39 : decode cX0_fewestRows 39 = .ok (.istore 8, 2) := by decide +kernel
theorem dX0_fewestRows_41 : decode cX0_fewestRows 41 = .ok (.iload 8, 2) := by decide +kernel
theorem dX0_fewestRows_43 : decode cX0_fewestRows 43 = .ok (.iconst 1, 1) := by decide +kernel
theorem dX0_fewestRows_44 : decode cX0_fewestRows 44 = .ok (.if_icmp .ge 5, 3) := by decide +kernel
theorem dX0_fewestRows_47 : decode cX0_fewestRows 47 = .ok (.iconst (-1), 1) := by decide +kernel
theorem dX0_fewestRows_48 : decode cX0_fewestRows 48 = .ok (.ireturn, 1) := by decide +kernel
theorem dX0_fewestRows_49 : decode cX0_fewestRows 49 = .ok (.iload 6, 2) := by decide +kernel
theorem dX0_fewestRows_51 : decode cX0_fewestRows 51 = .ok (.iload 8, 2) := by decide +kernel
theorem dX0_fewestRows_53 : decode cX0_fewestRows 53 = .ok (.iadd, 1) := by decide +kernel
theorem dX0_fewestRows_54 : decode cX0_fewestRows 54 = .ok (.istore 6, 2) := by decide +kernel
theorem dX0_fewestRows_56 : decode cX0_fewestRows 56 = .ok (.iinc 5 1, 3) := by decide +kernel
theorem dX0_fewestRows_59 : decode cX0_fewestRows 59 = .ok (.iinc 7 1, 3) := by decide +kernel
theorem dX0_fewestRows_62 : decode cX0_fewestRows 62 = .ok (.goto (-46), 3) := by decide +kernel
theorem dX0_fewestRows_65 : decode cX0_fewestRows 65 = .ok (.iload 5, 2) := by decide +kernel
theorem dX0_fewestRows_67 : decode cX0_fewestRows 67 = .ok (.ireturn, 1) := by decide +kernel
theorem dX0_fitsRain_0 : decode cX0_fitsRain 0 = .ok (.iconst 0, 1) := by decide +kernel
theorem dX0_fitsRain_1 : decode cX0_fitsRain 1 = .ok (.istore 4, 2) := by decide +kernel
theorem dX0_fitsRain_3 : decode cX0_fitsRain 3 = .ok (.iload 4, 2) := by decide +kernel
theorem dX0_fitsRain_5 : decode cX0_fitsRain 5 = .ok (.iconst 4, 1) := by decide +kernel
theorem dX0_fitsRain_6 : decode cX0_fitsRain 6 = .ok (.if_icmp .ge 92, 3) := by decide +kernel
theorem dX0_fitsRain_9 : decode cX0_fitsRain 9 = .ok (.aload_n 0, 1) := by decide +kernel
theorem dX0_fitsRain_10 : decode cX0_fitsRain 10 = .ok (.iload 4, 2) := by decide +kernel
theorem dX0_fitsRain_12 : decode cX0_fitsRain 12 = .ok (.invokevirtual 59, 3) := by decide +kernel
theorem dX0_fitsRain_15 : decode cX0_fitsRain 15 = .ok (.istore 5, 2) := by decide +kernel
theorem dX0_fitsRain_17 : decode cX0_fitsRain 17 = .ok (.iconst 0, 1) := by decide +kernel
theorem dX0_fitsRain_18 : decode cX0_fitsRain 18 = .ok (.istore 6, 2) := by decide +kernel
theorem dX0_fitsRain_20 : decode cX0_fitsRain 20 = .ok (.iload 6, 2) := by decide +kernel
theorem dX0_fitsRain_22 : decode cX0_fitsRain 22 = .ok (.iload 5, 2) := by decide +kernel
theorem dX0_fitsRain_24 : decode cX0_fitsRain 24 = .ok (.if_icmp .ge 68, 3) := by decide +kernel
theorem dX0_fitsRain_27 : decode cX0_fitsRain 27 = .ok (.aload_n 0, 1) := by decide +kernel
theorem dX0_fitsRain_28 : decode cX0_fitsRain 28 = .ok (.iload 4, 2) := by decide +kernel
theorem dX0_fitsRain_30 : decode cX0_fitsRain 30 = .ok (.iload 6, 2) := by decide +kernel
theorem dX0_fitsRain_32 : decode cX0_fitsRain 32 = .ok (.invokevirtual 81, 3) := by decide +kernel
theorem dX0_fitsRain_35 : decode cX0_fitsRain 35 = .ok (.istore 7, 2) := by decide +kernel
theorem dX0_fitsRain_37 : decode cX0_fitsRain 37 = .ok (.iload 7, 2) := by decide +kernel
theorem dX0_fitsRain_39 : decode cX0_fitsRain 39 = .ok (.bipush 12, 2) := by decide +kernel
theorem dX0_fitsRain_41 : decode cX0_fitsRain 41 = .ok (.idiv, 1) := by decide +kernel
theorem dX0_fitsRain_42 : decode cX0_fitsRain 42 = .ok (.iload_n 2, 1) := by decide +kernel
theorem dX0_fitsRain_43 : decode cX0_fitsRain 43 = .ok (.if_icmp .ne 43, 3) := by decide +kernel
theorem dX0_fitsRain_46 : decode cX0_fitsRain 46 = .ok (.aload_n 0, 1) := by decide +kernel
theorem dX0_fitsRain_47 : decode cX0_fitsRain 47 = .ok (.iload 4, 2) := by decide +kernel
theorem dX0_fitsRain_49 : decode cX0_fitsRain 49 = .ok (.iload 6, 2) := by decide +kernel
theorem dX0_fitsRain_51 : decode cX0_fitsRain 51 = .ok (.invokevirtual 63, 3) := by decide +kernel
theorem dX0_fitsRain_54 : decode cX0_fitsRain 54 = .ok (.ifCond .ne 32, 3) := by decide +kernel
theorem dX0_fitsRain_57 : decode cX0_fitsRain 57 = .ok (.aload_n 0, 1) := by decide +kernel
theorem dX0_fitsRain_58 : decode cX0_fitsRain 58 = .ok (.aload_n 1, 1) := by decide +kernel
theorem dX0_fitsRain_59 : decode cX0_fitsRain 59 = .ok (.iload 4, 2) := by decide +kernel
theorem dX0_fitsRain_61 : decode cX0_fitsRain 61 = .ok (.iload 6, 2) := by decide +kernel
theorem dX0_fitsRain_63 : decode cX0_fitsRain 63 = .ok (.invokevirtual 77, 3) := by decide +kernel
theorem dX0_fitsRain_66 : decode cX0_fitsRain 66 = .ok (.aload_n 1, 1) := by decide +kernel
theorem dX0_fitsRain_67 : decode cX0_fitsRain 67 = .ok (.aload_n 0, 1) := by decide +kernel
theorem dX0_fitsRain_68 : decode cX0_fitsRain 68 = .ok (.iload 4, 2) := by decide +kernel
theorem dX0_fitsRain_70 : decode cX0_fitsRain 70 = .ok (.iload 6, 2) := by decide +kernel
theorem dX0_fitsRain_72 : decode cX0_fitsRain 72 = .ok (.invokevirtual 108, 3) := by decide +kernel
theorem dX0_fitsRain_75 : decode cX0_fitsRain 75 = .ok (.iload 7, 2) := by decide +kernel
theorem dX0_fitsRain_77 : decode cX0_fitsRain 77 = .ok (.iload_n 3, 1) := by decide +kernel
theorem dX0_fitsRain_78 : decode cX0_fitsRain 78 = .ok (.invokevirtual 111, 3) := by decide +kernel
theorem dX0_fitsRain_81 : decode cX0_fitsRain 81 = .ok (.if_icmp .eq 5, 3) := by decide +kernel
theorem dX0_fitsRain_84 : decode cX0_fitsRain 84 = .ok (.iconst 0, 1) := by decide +kernel
theorem dX0_fitsRain_85 : decode cX0_fitsRain 85 = .ok (.ireturn, 1) := by decide +kernel
theorem dX0_fitsRain_86 : decode cX0_fitsRain 86 = .ok (.iinc 6 1, 3) := by decide +kernel
theorem dX0_fitsRain_89 : decode cX0_fitsRain 89 = .ok (.goto (-69), 3) := by decide +kernel
theorem dX0_fitsRain_92 : decode cX0_fitsRain 92 = .ok (.iinc 4 1, 3) := by decide +kernel
theorem dX0_fitsRain_95 : decode cX0_fitsRain 95 = .ok (.goto (-92), 3) := by decide +kernel
theorem dX0_fitsRain_98 : decode cX0_fitsRain 98 = .ok (.iconst 1, 1) := by decide +kernel
theorem dX0_fitsRain_99 : decode cX0_fitsRain 99 = .ok (.ireturn, 1) := by decide +kernel
theorem dX1_init_0 : decode cX1_init 0 = .ok (.aload_n 0, 1) := by decide +kernel
theorem dX1_init_1 : decode cX1_init 1 = .ok (.invokespecial 3, 3) := by decide +kernel
theorem dX1_init_4 : decode cX1_init 4 = .ok (.aload_n 0, 1) := by decide +kernel
theorem dX1_init_5 : decode cX1_init 5 = .ok (.sipush 384, 3) := by decide +kernel
theorem dX1_init_8 : decode cX1_init 8 = .ok (.newarray .int, 2) := by decide +kernel
theorem dX1_init_10 : decode cX1_init 10 = .ok (.putfield 9, 3) := by decide +kernel
theorem dX1_init_13 : decode cX1_init 13 = .ok (.aload_n 0, 1) := by decide +kernel
theorem dX1_init_14 : decode cX1_init 14 = .ok (.sipush 384, 3) := by decide +kernel
theorem dX1_init_17 : decode cX1_init 17 = .ok (.newarray .int, 2) := by decide +kernel
theorem dX1_init_19 : decode cX1_init 19 = .ok (.putfield 15, 3) := by decide +kernel
theorem dX1_init_22 : decode cX1_init 22 = .ok (.aload_n 0, 1) := by decide +kernel
theorem dX1_init_23 : decode cX1_init 23 = .ok (.sipush 384, 3) := by decide +kernel
theorem dX1_init_26 : decode cX1_init 26 = .ok (.newarray .int, 2) := by decide +kernel
theorem dX1_init_28 : decode cX1_init 28 = .ok (.putfield 18, 3) := by decide +kernel
theorem dX1_init_31 : decode cX1_init 31 = .ok (.aload_n 0, 1) := by decide +kernel
theorem dX1_init_32 : decode cX1_init 32 = .ok (.sipush 1440, 3) := by decide +kernel
theorem dX1_init_35 : decode cX1_init 35 = .ok (.newarray .int, 2) := by decide +kernel
theorem dX1_init_37 : decode cX1_init 37 = .ok (.putfield 21, 3) := by decide +kernel
theorem dX1_init_40 : decode cX1_init 40 = .ok (.return_, 1) := by decide +kernel
theorem dX1_gather_0 : decode cX1_gather 0 = .ok (.aload_n 0, 1) := by decide +kernel
theorem dX1_gather_1 : decode cX1_gather 1 = .ok (.iconst 0, 1) := by decide +kernel
theorem dX1_gather_2 : decode cX1_gather 2 = .ok (.putfield 24, 3) := by decide +kernel
theorem dX1_gather_5 : decode cX1_gather 5 = .ok (.aload_n 2, 1) := by decide +kernel
theorem dX1_gather_6 : decode cX1_gather 6 = .ok (.iload_n 3, 1) := by decide +kernel
theorem dX1_gather_7 : decode cX1_gather 7 = .ok (.invokevirtual 28, 3) := by decide +kernel
theorem dX1_gather_10 : decode cX1_gather 10 = .ok (.istore 5, 2) := by decide +kernel
theorem dX1_gather_12 : decode cX1_gather 12 = .ok (.iconst 0, 1) := by decide +kernel
theorem dX1_gather_13 : decode cX1_gather 13 = .ok (.istore 6, 2) := by decide +kernel
theorem dX1_gather_15 : decode cX1_gather 15 = .ok (.iload 6, 2) := by decide +kernel
theorem dX1_gather_17 : decode cX1_gather 17 = .ok (.aload_n 1, 1) := by decide +kernel
theorem dX1_gather_18 : decode cX1_gather 18 = .ok (.getfield 34, 3) := by decide +kernel
theorem dX1_gather_21 : decode cX1_gather 21 = .ok (.if_icmp .ge 92, 3) := by decide +kernel
theorem dX1_gather_24 : decode cX1_gather 24 = .ok (.iconst 0, 1) := by decide +kernel
theorem dX1_gather_25 : decode cX1_gather 25 = .ok (.istore 7, 2) := by decide +kernel
theorem dX1_gather_27 : decode cX1_gather 27 = .ok (.iload 7, 2) := by decide +kernel
theorem dX1_gather_29 : decode cX1_gather 29 = .ok (.bipush 96, 2) := by decide +kernel
theorem dX1_gather_31 : decode cX1_gather 31 = .ok (.if_icmp .ge 76, 3) := by decide +kernel
theorem dX1_gather_34 : decode cX1_gather 34 = .ok (.iload 7, 2) := by decide +kernel
theorem dX1_gather_36 : decode cX1_gather 36 = .ok (.iload 5, 2) := by decide +kernel
theorem dX1_gather_38 : decode cX1_gather 38 = .ok (.iadd, 1) := by decide +kernel
theorem dX1_gather_39 : decode cX1_gather 39 = .ok (.bipush 96, 2) := by decide +kernel
theorem dX1_gather_41 : decode cX1_gather 41 = .ok (.if_icmp .gt 66, 3) := by decide +kernel
theorem dX1_gather_44 : decode cX1_gather 44 = .ok (.aload_n 0, 1) := by decide +kernel
theorem dX1_gather_45 : decode cX1_gather 45 = .ok (.getfield 24, 3) := by decide +kernel
theorem dX1_gather_48 : decode cX1_gather 48 = .ok (.sipush 384, 3) := by decide +kernel
theorem dX1_gather_51 : decode cX1_gather 51 = .ok (.if_icmp .ge 50, 3) := by decide +kernel
theorem dX1_gather_54 : decode cX1_gather 54 = .ok (.aload_n 1, 1) := by decide +kernel
theorem dX1_gather_55 : decode cX1_gather 55 = .ok (.aload_n 2, 1) := by decide +kernel
theorem dX1_gather_56 : decode cX1_gather 56 = .ok (.iload_n 3, 1) := by decide +kernel
theorem dX1_gather_57 : decode cX1_gather 57 = .ok (.iload 4, 2) := by decide +kernel
theorem dX1_gather_59 : decode cX1_gather 59 = .ok (.iload 6, 2) := by decide +kernel
theorem dX1_gather_61 : decode cX1_gather 61 = .ok (.iload 7, 2) := by decide +kernel
theorem dX1_gather_63 : decode cX1_gather 63 = .ok (.invokestatic 39, 3) := by decide +kernel
theorem dX1_gather_66 : decode cX1_gather 66 = .ok (.ifCond .eq 35, 3) := by decide +kernel
theorem dX1_gather_69 : decode cX1_gather 69 = .ok (.aload_n 0, 1) := by decide +kernel
theorem dX1_gather_70 : decode cX1_gather 70 = .ok (.getfield 9, 3) := by decide +kernel
theorem dX1_gather_73 : decode cX1_gather 73 = .ok (.aload_n 0, 1) := by decide +kernel
theorem dX1_gather_74 : decode cX1_gather 74 = .ok (.getfield 24, 3) := by decide +kernel
theorem dX1_gather_77 : decode cX1_gather 77 = .ok (.iload 6, 2) := by decide +kernel
theorem dX1_gather_79 : decode cX1_gather 79 = .ok (.iastore, 1) := by decide +kernel
theorem dX1_gather_80 : decode cX1_gather 80 = .ok (.aload_n 0, 1) := by decide +kernel
theorem dX1_gather_81 : decode cX1_gather 81 = .ok (.getfield 15, 3) := by decide +kernel
theorem dX1_gather_84 : decode cX1_gather 84 = .ok (.aload_n 0, 1) := by decide +kernel
theorem dX1_gather_85 : decode cX1_gather 85 = .ok (.getfield 24, 3) := by decide +kernel
theorem dX1_gather_88 : decode cX1_gather 88 = .ok (.iload 7, 2) := by decide +kernel
theorem dX1_gather_90 : decode cX1_gather 90 = .ok (.iastore, 1) := by decide +kernel
theorem dX1_gather_91 : decode cX1_gather 91 = .ok (.aload_n 0, 1) := by decide +kernel
theorem dX1_gather_92 : decode cX1_gather 92 = .ok (.dup, 1) := by decide +kernel
theorem dX1_gather_93 : decode cX1_gather 93 = .ok (.getfield 24, 3) := by decide +kernel
theorem dX1_gather_96 : decode cX1_gather 96 = .ok (.iconst 1, 1) := by decide +kernel
theorem dX1_gather_97 : decode cX1_gather 97 = .ok (.iadd, 1) := by decide +kernel
theorem dX1_gather_98 : decode cX1_gather 98 = .ok (.putfield 24, 3) := by decide +kernel
theorem dX1_gather_101 : decode cX1_gather 101 = .ok (.iinc 7 1, 3) := by decide +kernel
theorem dX1_gather_104 : decode cX1_gather 104 = .ok (.goto (-77), 3) := by decide +kernel
theorem dX1_gather_107 : decode cX1_gather 107 = .ok (.iinc 6 1, 3) := by decide +kernel
theorem dX1_gather_110 : decode cX1_gather 110 = .ok (.goto (-95), 3) := by decide +kernel
theorem dX1_gather_113 : decode cX1_gather 113 = .ok (.return_, 1) := by decide +kernel
theorem dX1_fits_0 : decode cX1_fits 0 = .ok (.aload_n 1, 1) := by decide +kernel
theorem dX1_fits_1 : decode cX1_fits 1 = .ok (.iload_n 2, 1) := by decide +kernel
theorem dX1_fits_2 : decode cX1_fits 2 = .ok (.invokevirtual 28, 3) := by decide +kernel
theorem dX1_fits_5 : decode cX1_fits 5 = .ok (.istore 6, 2) := by decide +kernel
theorem dX1_fits_7 : decode cX1_fits 7 = .ok (.iconst 0, 1) := by decide +kernel
theorem dX1_fits_8 : decode cX1_fits 8 = .ok (.istore 7, 2) := by decide +kernel
theorem dX1_fits_10 : decode cX1_fits 10 = .ok (.iload 7, 2) := by decide +kernel
theorem dX1_fits_12 : decode cX1_fits 12 = .ok (.iload 6, 2) := by decide +kernel
theorem dX1_fits_14 : decode cX1_fits 14 = .ok (.if_icmp .ge 43, 3) := by decide +kernel
theorem dX1_fits_17 : decode cX1_fits 17 = .ok (.iload_n 3, 1) := by decide +kernel
theorem dX1_fits_18 : decode cX1_fits 18 = .ok (.iload 7, 2) := by decide +kernel
theorem dX1_fits_20 : decode cX1_fits 20 = .ok (.ishr, 1) := by decide +kernel
theorem dX1_fits_21 : decode cX1_fits 21 = .ok (.iconst 1, 1) := by decide +kernel
theorem dX1_fits_22 : decode cX1_fits 22 = .ok (.iand, 1) := by decide +kernel
theorem dX1_fits_23 : decode cX1_fits 23 = .ok (.iconst 1, 1) := by decide +kernel
theorem dX1_fits_24 : decode cX1_fits 24 = .ok (.if_icmp .ne 27, 3) := by decide +kernel
theorem dX1_fits_27 : decode cX1_fits 27 = .ok (.aload_n 1, 1) := by decide +kernel
theorem dX1_fits_28 : decode cX1_fits 28 = .ok (.aload_n 0, 1) := by decide +kernel
theorem dX1_fits_29 : decode cX1_fits 29 = .ok (.iload_n 2, 1) := by decide +kernel
theorem dX1_fits_30 : decode cX1_fits 30 = .ok (.iload 7, 2) := by decide +kernel
theorem dX1_fits_32 : decode cX1_fits 32 = .ok (.invokevirtual 43, 3) := by decide +kernel
theorem dX1_fits_35 : decode cX1_fits 35 = .ok (.aload_n 0, 1) := by decide +kernel
theorem dX1_fits_36 : decode cX1_fits 36 = .ok (.iload 4, 2) := by decide +kernel
theorem dX1_fits_38 : decode cX1_fits 38 = .ok (.iload 5, 2) := by decide +kernel
theorem dX1_fits_40 : decode cX1_fits 40 = .ok (.iload 7, 2) := by decide +kernel
theorem dX1_fits_42 : decode cX1_fits 42 = .ok (.iadd, 1) := by decide +kernel
theorem dX1_fits_43 : decode cX1_fits 43 = .ok (.invokevirtual 47, 3) := by decide +kernel
theorem dX1_fits_46 : decode cX1_fits 46 = .ok (.if_icmp .eq 5, 3) := by decide +kernel
theorem dX1_fits_49 : decode cX1_fits 49 = .ok (.iconst 0, 1) := by decide +kernel
theorem dX1_fits_50 : decode cX1_fits 50 = .ok (.ireturn, 1) := by decide +kernel
theorem dX1_fits_51 : decode cX1_fits 51 = .ok (.iinc 7 1, 3) := by decide +kernel
theorem dX1_fits_54 : decode cX1_fits 54 = .ok (.goto (-44), 3) := by decide +kernel
theorem dX1_fits_57 : decode cX1_fits 57 = .ok (.iconst 1, 1) := by decide +kernel
theorem dX1_fits_58 : decode cX1_fits 58 = .ok (.ireturn, 1) := by decide +kernel
theorem dX1_bestLetter_0 : decode cX1_bestLetter 0 = .ok (.iconst (-1), 1) := by decide +kernel
theorem dX1_bestLetter_1 : decode cX1_bestLetter 1 = .ok (.istore_n 3, 1) := by decide +kernel
theorem dX1_bestLetter_2 : decode cX1_bestLetter 2 = .ok (.aload_n 0, 1) := by decide +kernel
theorem dX1_bestLetter_3 : decode cX1_bestLetter 3 = .ok (.getfield 24, 3) := by decide +kernel
theorem dX1_bestLetter_6 : decode cX1_bestLetter 6 = .ok (.istore 4, 2) := by decide +kernel
theorem dX1_bestLetter_8 : decode cX1_bestLetter 8 = .ok (.iconst 0, 1) := by decide +kernel
theorem dX1_bestLetter_9 : decode cX1_bestLetter 9 = .ok (.istore 5, 2) := by decide +kernel
theorem dX1_bestLetter_11 : decode cX1_bestLetter 11 = .ok (.iload 5, 2) := by decide +kernel
theorem dX1_bestLetter_13 : decode cX1_bestLetter 13 = .ok (.iload_n 2, 1) := by decide +kernel
theorem dX1_bestLetter_14 : decode cX1_bestLetter 14 = .ok (.if_icmp .ge 32, 3) := by decide +kernel
theorem dX1_bestLetter_17 : decode cX1_bestLetter 17 = .ok (.aload_n 0, 1) := by decide +kernel
theorem dX1_bestLetter_18 : decode cX1_bestLetter 18 = .ok (.aload_n 1, 1) := by decide +kernel
theorem dX1_bestLetter_19 : decode cX1_bestLetter 19 = .ok (.iload 5, 2) := by decide +kernel
theorem dX1_bestLetter_21 : decode cX1_bestLetter 21 = .ok (.invokevirtual 51, 3) := by decide +kernel
theorem dX1_bestLetter_24 : decode cX1_bestLetter 24 = .ok (.istore 6, 2) := by decide +kernel
theorem dX1_bestLetter_26 : decode cX1_bestLetter 26 = .ok (.iload 6, 2) := by decide +kernel
theorem dX1_bestLetter_28 : decode cX1_bestLetter 28 = .ok (.iload 4, 2) := by decide +kernel
theorem dX1_bestLetter_30 : decode cX1_bestLetter 30 = .ok (.if_icmp .ge 10, 3) := by decide +kernel
theorem dX1_bestLetter_33 : decode cX1_bestLetter 33 = .ok (.iload 6, 2) := by decide +kernel
theorem dX1_bestLetter_35 : decode cX1_bestLetter 35 = .ok (.istore 4, 2) := by decide +kernel
theorem dX1_bestLetter_37 : decode cX1_bestLetter 37 = .ok (.iload 5, 2) := by decide +kernel
theorem dX1_bestLetter_39 : decode cX1_bestLetter 39 = .ok (.istore_n 3, 1) := by decide +kernel
theorem dX1_bestLetter_40 : decode cX1_bestLetter 40 = .ok (.iinc 5 1, 3) := by decide +kernel
theorem dX1_bestLetter_43 : decode cX1_bestLetter 43 = .ok (.goto (-32), 3) := by decide +kernel
theorem dX1_bestLetter_46 : decode cX1_bestLetter 46 = .ok (.iload_n 3, 1) := by decide +kernel
theorem dX1_bestLetter_47 : decode cX1_bestLetter 47 = .ok (.ireturn, 1) := by decide +kernel
theorem dX1_greatestPart_0 : decode cX1_greatestPart 0 = .ok (.iconst 0, 1) := by decide +kernel
theorem dX1_greatestPart_1 : decode cX1_greatestPart 1 = .ok (.istore_n 3, 1) := by decide +kernel
theorem dX1_greatestPart_2 : decode cX1_greatestPart 2 = .ok (.iload_n 3, 1) := by decide +kernel
theorem dX1_greatestPart_3 : decode cX1_greatestPart 3 = .ok (.aload_n 0, 1) := by decide +kernel
theorem dX1_greatestPart_4 : decode cX1_greatestPart 4 = .ok (.getfield 24, 3) := by decide +kernel
theorem dX1_greatestPart_7 : decode cX1_greatestPart 7 = .ok (.if_icmp .ge 48, 3) := by decide +kernel
theorem dX1_greatestPart_10 : decode cX1_greatestPart 10 = .ok (.aload_n 0, 1) := by decide +kernel
theorem dX1_greatestPart_11 : decode cX1_greatestPart 11 = .ok (.getfield 18, 3) := by decide +kernel
theorem dX1_greatestPart_14 : decode cX1_greatestPart 14 = .ok (.iload_n 3, 1) := by decide +kernel
theorem dX1_greatestPart_15 : decode cX1_greatestPart 15 = .ok (.aload_n 1, 1) := by decide +kernel
theorem dX1_greatestPart_16 : decode cX1_greatestPart 16 = .ok (.aload_n 0, 1) := by decide +kernel
theorem dX1_greatestPart_17 : decode cX1_greatestPart 17 = .ok (.getfield 9, 3) := by decide +kernel
theorem dX1_greatestPart_20 : decode cX1_greatestPart 20 = .ok (.iload_n 3, 1) := by decide +kernel
theorem dX1_greatestPart_21 : decode cX1_greatestPart 21 = .ok (.iaload, 1) := by decide +kernel
theorem dX1_greatestPart_22 : decode cX1_greatestPart 22 = .ok (.aload_n 0, 1) := by decide +kernel
theorem dX1_greatestPart_23 : decode cX1_greatestPart 23 = .ok (.getfield 15, 3) := by decide +kernel
theorem dX1_greatestPart_26 : decode cX1_greatestPart 26 = .ok (.iload_n 3, 1) := by decide +kernel
theorem dX1_greatestPart_27 : decode cX1_greatestPart 27 = .ok (.iaload, 1) := by decide +kernel
theorem dX1_greatestPart_28 : decode cX1_greatestPart 28 = .ok (.iload_n 2, 1) := by decide +kernel
theorem dX1_greatestPart_29 : decode cX1_greatestPart 29 = .ok (.iadd, 1) := by decide +kernel
theorem dX1_greatestPart_30 : decode cX1_greatestPart 30 = .ok (.invokevirtual 47, 3) := by decide +kernel
theorem dX1_greatestPart_33 : decode cX1_greatestPart 33 = .ok (.invokestatic 55, 3) := by decide +kernel
theorem dX1_greatestPart_36 : decode cX1_greatestPart 36 = .ok (.iastore, 1) := by decide +kernel
theorem dX1_greatestPart_37 : decode cX1_greatestPart 37 = .ok (.aload_n 0, 1) := by decide +kernel
theorem dX1_greatestPart_38 : decode cX1_greatestPart 38 = .ok (.getfield 21, 3) := by decide +kernel
theorem dX1_greatestPart_41 : decode cX1_greatestPart 41 = .ok (.aload_n 0, 1) := by decide +kernel
theorem dX1_greatestPart_42 : decode cX1_greatestPart 42 = .ok (.getfield 18, 3) := by decide +kernel
theorem dX1_greatestPart_45 : decode cX1_greatestPart 45 = .ok (.iload_n 3, 1) := by decide +kernel
theorem dX1_greatestPart_46 : decode cX1_greatestPart 46 = .ok (.iaload, 1) := by decide +kernel
theorem dX1_greatestPart_47 : decode cX1_greatestPart 47 = .ok (.iconst 0, 1) := by decide +kernel
theorem dX1_greatestPart_48 : decode cX1_greatestPart 48 = .ok (.iastore, 1) := by decide +kernel
theorem dX1_greatestPart_49 : decode cX1_greatestPart 49 = .ok (.iinc 3 1, 3) := by decide +kernel
theorem dX1_greatestPart_52 : decode cX1_greatestPart 52 = .ok (.goto (-50), 3) := by decide +kernel
theorem dX1_greatestPart_55 : decode cX1_greatestPart 55 = .ok (.iconst 0, 1) := by decide +kernel
theorem dX1_greatestPart_56 : decode cX1_greatestPart 56 = .ok (.istore_n 3, 1) := by decide +kernel
theorem dX1_greatestPart_57 : decode cX1_greatestPart 57 = .ok (.iconst 0, 1) := by decide +kernel
theorem dX1_greatestPart_58 : decode cX1_greatestPart 58 = .ok (.istore 4, 2) := by decide +kernel
theorem dX1_greatestPart_60 : decode cX1_greatestPart 60 = .ok (.iload 4, 2) := by decide +kernel
theorem dX1_greatestPart_62 : decode cX1_greatestPart 62 = .ok (.aload_n 0, 1) := by decide +kernel
theorem dX1_greatestPart_63 : decode cX1_greatestPart 63 = .ok (.getfield 24, 3) := by decide +kernel
theorem dX1_greatestPart_66 : decode cX1_greatestPart 66 = .ok (.if_icmp .ge 46, 3) := by decide +kernel
theorem dX1_greatestPart_69 : decode cX1_greatestPart 69 = .ok (.aload_n 0, 1) := by decide +kernel
theorem dX1_greatestPart_70 : decode cX1_greatestPart 70 = .ok (.getfield 21, 3) := by decide +kernel
theorem dX1_greatestPart_73 : decode cX1_greatestPart 73 = .ok (.aload_n 0, 1) := by decide +kernel
theorem dX1_greatestPart_74 : decode cX1_greatestPart 74 = .ok (.getfield 18, 3) := by decide +kernel
theorem dX1_greatestPart_77 : decode cX1_greatestPart 77 = .ok (.iload 4, 2) := by decide +kernel
theorem dX1_greatestPart_79 : decode cX1_greatestPart 79 = .ok (.iaload, 1) := by decide +kernel
theorem dX1_greatestPart_80 : decode cX1_greatestPart 80 = .ok (.iaload, 1) := by decide +kernel
theorem dX1_greatestPart_81 : decode cX1_greatestPart 81 = .ok (.iconst 1, 1) := by decide +kernel
theorem dX1_greatestPart_82 : decode cX1_greatestPart 82 = .ok (.iadd, 1) := by decide +kernel
theorem dX1_greatestPart_83 : decode cX1_greatestPart 83 = .ok (.istore 5, 2) := by decide +kernel
theorem dX1_greatestPart_85 : decode cX1_greatestPart 85 = .ok (.aload_n 0, 1) := by decide +kernel
theorem dX1_greatestPart_86 : decode cX1_greatestPart 86 = .ok (.getfield 21, 3) := by decide +kernel
theorem dX1_greatestPart_89 : decode cX1_greatestPart 89 = .ok (.aload_n 0, 1) := by decide +kernel
theorem dX1_greatestPart_90 : decode cX1_greatestPart 90 = .ok (.getfield 18, 3) := by decide +kernel
theorem dX1_greatestPart_93 : decode cX1_greatestPart 93 = .ok (.iload 4, 2) := by decide +kernel
theorem dX1_greatestPart_95 : decode cX1_greatestPart 95 = .ok (.iaload, 1) := by decide +kernel
theorem dX1_greatestPart_96 : decode cX1_greatestPart 96 = .ok (.iload 5, 2) := by decide +kernel
theorem dX1_greatestPart_98 : decode cX1_greatestPart 98 = .ok (.iastore, 1) := by decide +kernel
theorem dX1_greatestPart_99 : decode cX1_greatestPart 99 = .ok (.iload_n 3, 1) := by decide +kernel
theorem dX1_greatestPart_100 : decode cX1_greatestPart 100 = .ok (.iload 5, 2) := by decide +kernel
theorem dX1_greatestPart_102 : decode cX1_greatestPart 102 = .ok (.invokestatic 58, 3) := by decide +kernel
theorem dX1_greatestPart_105 : decode cX1_greatestPart 105 = .ok (.istore_n 3, 1) := by decide +kernel
theorem dX1_greatestPart_106 : decode cX1_greatestPart 106 = .ok (.iinc 4 1, 3) := by decide +kernel
theorem dX1_greatestPart_109 : decode cX1_greatestPart 109 = .ok (.goto (-49), 3) := by decide +kernel
theorem dX1_greatestPart_112 : decode cX1_greatestPart 112 = .ok (.iload_n 3, 1) := by decide +kernel
theorem dX1_greatestPart_113 : decode cX1_greatestPart 113 = .ok (.ireturn, 1) := by decide +kernel
theorem dX1_kindOfLook_0 : decode cX1_kindOfLook 0 = .ok (.iload_n 0, 1) := by decide +kernel
theorem dX1_kindOfLook_1 : decode cX1_kindOfLook 1 = .ok (.sipush 1000, 3) := by decide +kernel
theorem dX1_kindOfLook_4 : decode cX1_kindOfLook 4 = .ok (.idiv, 1) := by decide +kernel
theorem dX1_kindOfLook_5 : decode cX1_kindOfLook 5 = .ok (.bipush 16, 2) := by decide +kernel
theorem dX1_kindOfLook_7 : decode cX1_kindOfLook 7 = .ok (.imul, 1) := by decide +kernel
theorem dX1_kindOfLook_8 : decode cX1_kindOfLook 8 = .ok (.iload_n 0, 1) := by decide +kernel
theorem dX1_kindOfLook_9 : decode cX1_kindOfLook 9 = .ok (.sipush 1000, 3) := by decide +kernel
theorem dX1_kindOfLook_12 : decode cX1_kindOfLook 12 = .ok (.irem, 1) := by decide +kernel
theorem dX1_kindOfLook_13 : decode cX1_kindOfLook 13 = .ok (.bipush 10, 2) := by decide +kernel
theorem dX1_kindOfLook_15 : decode cX1_kindOfLook 15 = .ok (.idiv, 1) := by decide +kernel
theorem dX1_kindOfLook_16 : decode cX1_kindOfLook 16 = .ok (.iadd, 1) := by decide +kernel
theorem dX1_kindOfLook_17 : decode cX1_kindOfLook 17 = .ok (.bipush 10, 2) := by decide +kernel
theorem dX1_kindOfLook_19 : decode cX1_kindOfLook 19 = .ok (.imul, 1) := by decide +kernel
theorem dX1_kindOfLook_20 : decode cX1_kindOfLook 20 = .ok (.iload_n 0, 1) := by decide +kernel
theorem dX1_kindOfLook_21 : decode cX1_kindOfLook 21 = .ok (.bipush 10, 2) := by decide +kernel
theorem dX1_kindOfLook_23 : decode cX1_kindOfLook 23 = .ok (.irem, 1) := by decide +kernel
theorem dX1_kindOfLook_24 : decode cX1_kindOfLook 24 = .ok (.iadd, 1) := by decide +kernel
theorem dX1_kindOfLook_25 : decode cX1_kindOfLook 25 = .ok (.istore_n 1, 1) := by decide +kernel
theorem dX1_kindOfLook_26 : decode cX1_kindOfLook 26 = .ok (.iload_n 1, 1) := by decide +kernel
theorem dX1_kindOfLook_27 : decode cX1_kindOfLook 27 = .ok (.ifCond .lt 10, 3) := by decide +kernel
theorem dX1_kindOfLook_30 : decode cX1_kindOfLook 30 = .ok (.iload_n 1, 1) := by decide +kernel
theorem dX1_kindOfLook_31 : decode cX1_kindOfLook 31 = .ok (.sipush 1440, 3) := by decide +kernel
theorem dX1_kindOfLook_34 : decode cX1_kindOfLook 34 = .ok (.if_icmp .lt 7, 3) := by decide +kernel
theorem dX1_kindOfLook_37 : decode cX1_kindOfLook 37 = .ok (.iconst 0, 1) := by decide +kernel
theorem dX1_kindOfLook_38 : decode cX1_kindOfLook 38 = .ok (.goto 4, 3) := by decide +kernel
theorem dX1_kindOfLook_41 : decode cX1_kindOfLook 41 = .ok (.iload_n 1, 1) := by decide +kernel
theorem dX1_kindOfLook_42 : decode cX1_kindOfLook 42 = .ok (.ireturn, 1) := by decide +kernel
theorem dX2_init_0 : decode cX2_init 0 = .ok (.aload_n 0, 1) := by decide +kernel
theorem dX2_init_1 : decode cX2_init 1 = .ok (.invokespecial 3, 3) := by decide +kernel
theorem dX2_init_4 : decode cX2_init 4 = .ok (.aload_n 0, 1) := by decide +kernel
theorem dX2_init_5 : decode cX2_init 5 = .ok (.bipush 20, 2) := by decide +kernel
theorem dX2_init_7 : decode cX2_init 7 = .ok (.newarray .int, 2) := by decide +kernel
theorem dX2_init_9 : decode cX2_init 9 = .ok (.putfield 9, 3) := by decide +kernel
theorem dX2_init_12 : decode cX2_init 12 = .ok (.aload_n 0, 1) := by decide +kernel
theorem dX2_init_13 : decode cX2_init 13 = .ok (.bipush 20, 2) := by decide +kernel
theorem dX2_init_15 : decode cX2_init 15 = .ok (.newarray .int, 2) := by decide +kernel
theorem dX2_init_17 : decode cX2_init 17 = .ok (.putfield 15, 3) := by decide +kernel
theorem dX2_init_20 : decode cX2_init 20 = .ok (.aload_n 0, 1) := by decide +kernel
theorem dX2_init_21 : decode cX2_init 21 = .ok (.bipush 20, 2) := by decide +kernel
theorem dX2_init_23 : decode cX2_init 23 = .ok (.newarray .int, 2) := by decide +kernel
theorem dX2_init_25 : decode cX2_init 25 = .ok (.putfield 18, 3) := by decide +kernel
theorem dX2_init_28 : decode cX2_init 28 = .ok (.return_, 1) := by decide +kernel
theorem dX2_enter_0 : decode cX2_enter 0 = .ok (.aload_n 0, 1) := by decide +kernel
theorem dX2_enter_1 : decode cX2_enter 1 = .ok (.getfield 21, 3) := by decide +kernel
theorem dX2_enter_4 : decode cX2_enter 4 = .ok (.ifCond .lt 12, 3) := by decide +kernel
theorem dX2_enter_7 : decode cX2_enter 7 = .ok (.aload_n 0, 1) := by decide +kernel
theorem dX2_enter_8 : decode cX2_enter 8 = .ok (.getfield 21, 3) := by decide +kernel
theorem dX2_enter_11 : decode cX2_enter 11 = .ok (.bipush 20, 2) := by decide +kernel
theorem dX2_enter_13 : decode cX2_enter 13 = .ok (.if_icmp .lt 6, 3) := by decide +kernel
theorem dX2_enter_16 : decode cX2_enter 16 = .ok (.ldc 25, 2) := by decide +kernel
theorem dX2_enter_18 : decode cX2_enter 18 = .ok (.ireturn, 1) := by decide +kernel
theorem dX2_enter_19 : decode cX2_enter 19 = .ok (.aload_n 0, 1) := by decide +kernel
theorem dX2_enter_20 : decode cX2_enter 20 = .ok (.getfield 9, 3) := by decide +kernel
theorem dX2_enter_23 : decode cX2_enter 23 = .ok (.aload_n 0, 1) := by decide +kernel
theorem dX2_enter_24 : decode cX2_enter 24 = .ok (.getfield 21, 3) := by decide +kernel
theorem dX2_enter_27 : decode cX2_enter 27 = .ok (.iload_n 1, 1) := by decide +kernel
theorem dX2_enter_28 : decode cX2_enter 28 = .ok (.iastore, 1) := by decide +kernel
theorem dX2_enter_29 : decode cX2_enter 29 = .ok (.aload_n 0, 1) := by decide +kernel
theorem dX2_enter_30 : decode cX2_enter 30 = .ok (.getfield 15, 3) := by decide +kernel
theorem dX2_enter_33 : decode cX2_enter 33 = .ok (.aload_n 0, 1) := by decide +kernel
theorem dX2_enter_34 : decode cX2_enter 34 = .ok (.getfield 21, 3) := by decide +kernel
theorem dX2_enter_37 : decode cX2_enter 37 = .ok (.iload_n 2, 1) := by decide +kernel
theorem dX2_enter_38 : decode cX2_enter 38 = .ok (.iastore, 1) := by decide +kernel
theorem dX2_enter_39 : decode cX2_enter 39 = .ok (.aload_n 0, 1) := by decide +kernel
theorem dX2_enter_40 : decode cX2_enter 40 = .ok (.getfield 18, 3) := by decide +kernel
theorem dX2_enter_43 : decode cX2_enter 43 = .ok (.aload_n 0, 1) := by decide +kernel
theorem dX2_enter_44 : decode cX2_enter 44 = .ok (.getfield 21, 3) := by decide +kernel
theorem dX2_enter_47 : decode cX2_enter 47 = .ok (.iload_n 3, 1) := by decide +kernel
theorem dX2_enter_48 : decode cX2_enter 48 = .ok (.iastore, 1) := by decide +kernel
theorem dX2_enter_49 : decode cX2_enter 49 = .ok (.aload_n 0, 1) := by decide +kernel
theorem dX2_enter_50 : decode cX2_enter 50 = .ok (.dup, 1) := by decide +kernel
theorem dX2_enter_51 : decode cX2_enter 51 = .ok (.getfield 21, 3) := by decide +kernel
theorem dX2_enter_54 : decode cX2_enter 54 = .ok (.iconst 1, 1) := by decide +kernel
theorem dX2_enter_55 : decode cX2_enter 55 = .ok (.iadd, 1) := by decide +kernel
theorem dX2_enter_56 : decode cX2_enter 56 = .ok (.putfield 21, 3) := by decide +kernel
theorem dX2_enter_59 : decode cX2_enter 59 = .ok (.aload_n 0, 1) := by decide +kernel
theorem dX2_enter_60 : decode cX2_enter 60 = .ok (.getfield 21, 3) := by decide +kernel
theorem dX2_enter_63 : decode cX2_enter 63 = .ok (.ireturn, 1) := by decide +kernel
theorem dX2_firstWrong_0 : decode cX2_firstWrong 0 = .ok (.iconst 0, 1) := by decide +kernel
theorem dX2_firstWrong_1 : decode cX2_firstWrong 1 = .ok (.istore_n 3, 1) := by decide +kernel
theorem dX2_firstWrong_2 : decode cX2_firstWrong 2 = .ok (.iload_n 3, 1) := by decide +kernel
theorem dX2_firstWrong_3 : decode cX2_firstWrong 3 = .ok (.aload_n 0, 1) := by decide +kernel
theorem dX2_firstWrong_4 : decode cX2_firstWrong 4 = .ok (.getfield 21, 3) := by decide +kernel
theorem dX2_firstWrong_7 : decode cX2_firstWrong 7 = .ok (.if_icmp .ge 62, 3) := by decide +kernel
theorem dX2_firstWrong_10 : decode cX2_firstWrong 10 = .ok (.iload_n 3, 1) := by decide +kernel
theorem dX2_firstWrong_11 : decode cX2_firstWrong 11 = .ok (.bipush 20, 2) := by decide +kernel
theorem dX2_firstWrong_13 : decode cX2_firstWrong 13 = .ok (.if_icmp .ge 56, 3) := by decide +kernel
theorem dX2_firstWrong_16 : decode cX2_firstWrong 16 = .ok (.aload_n 0, 1) := by decide +kernel
theorem dX2_firstWrong_17 : decode cX2_firstWrong 17 = .ok (.getfield 9, 3) := by decide +kernel
theorem dX2_firstWrong_20 : decode cX2_firstWrong 20 = .ok (.iload_n 3, 1) := by decide +kernel
theorem dX2_firstWrong_21 : decode cX2_firstWrong 21 = .ok (.iaload, 1) := by decide +kernel
theorem dX2_firstWrong_22 : decode cX2_firstWrong 22 = .ok (.istore 4, 2) := by decide +kernel
theorem dX2_firstWrong_24 : decode cX2_firstWrong 24 = .ok (.aload_n 0, 1) := by decide +kernel
theorem dX2_firstWrong_25 : decode cX2_firstWrong 25 = .ok (.getfield 15, 3) := by decide +kernel
theorem dX2_firstWrong_28 : decode cX2_firstWrong 28 = .ok (.iload_n 3, 1) := by decide +kernel
theorem dX2_firstWrong_29 : decode cX2_firstWrong 29 = .ok (.iaload, 1) := by decide +kernel
theorem dX2_firstWrong_30 : decode cX2_firstWrong 30 = .ok (.istore 5, 2) := by decide +kernel
theorem dX2_firstWrong_32 : decode cX2_firstWrong 32 = .ok (.aload_n 2, 1) := by decide +kernel
theorem dX2_firstWrong_33 : decode cX2_firstWrong 33 = .ok (.iload 4, 2) := by decide +kernel
theorem dX2_firstWrong_35 : decode cX2_firstWrong 35 = .ok (.iload 5, 2) := by decide +kernel
theorem dX2_firstWrong_37 : decode cX2_firstWrong 37 = .ok (.invokevirtual 26, 3) := by decide +kernel
theorem dX2_firstWrong_40 : decode cX2_firstWrong 40 = .ok (.ifCond .eq 21, 3) := by decide +kernel
theorem dX2_firstWrong_43 : decode cX2_firstWrong 43 = .ok (.aload_n 2, 1) := by decide +kernel
theorem dX2_firstWrong_44 : decode cX2_firstWrong 44 = .ok (.aload_n 1, 1) := by decide +kernel
theorem dX2_firstWrong_45 : decode cX2_firstWrong 45 = .ok (.iload 4, 2) := by decide +kernel
theorem dX2_firstWrong_47 : decode cX2_firstWrong 47 = .ok (.iload 5, 2) := by decide +kernel
theorem dX2_firstWrong_49 : decode cX2_firstWrong 49 = .ok (.invokevirtual 32, 3) := by decide +kernel
theorem dX2_firstWrong_52 : decode cX2_firstWrong 52 = .ok (.aload_n 0, 1) := by decide +kernel
theorem dX2_firstWrong_53 : decode cX2_firstWrong 53 = .ok (.getfield 18, 3) := by decide +kernel
theorem dX2_firstWrong_56 : decode cX2_firstWrong 56 = .ok (.iload_n 3, 1) := by decide +kernel
theorem dX2_firstWrong_57 : decode cX2_firstWrong 57 = .ok (.iaload, 1) := by decide +kernel
theorem dX2_firstWrong_58 : decode cX2_firstWrong 58 = .ok (.if_icmp .eq 5, 3) := by decide +kernel
theorem dX2_firstWrong_61 : decode cX2_firstWrong 61 = .ok (.iload_n 3, 1) := by decide +kernel
theorem dX2_firstWrong_62 : decode cX2_firstWrong 62 = .ok (.ireturn, 1) := by decide +kernel
theorem dX2_firstWrong_63 : decode cX2_firstWrong 63 = .ok (.iinc 3 1, 3) := by decide +kernel
theorem dX2_firstWrong_66 : decode cX2_firstWrong 66 = .ok (.goto (-64), 3) := by decide +kernel
theorem dX2_firstWrong_69 : decode cX2_firstWrong 69 = .ok (.iconst (-1), 1) := by decide +kernel
theorem dX2_firstWrong_70 : decode cX2_firstWrong 70 = .ok (.ireturn, 1) := by decide +kernel
theorem dX3_init_0 : decode cX3_init 0 = .ok (.aload_n 0, 1) := by decide +kernel
theorem dX3_init_1 : decode cX3_init 1 = .ok (.invokespecial 3, 3) := by decide +kernel
theorem dX3_init_4 : decode cX3_init 4 = .ok (.aload_n 0, 1) := by decide +kernel
theorem dX3_init_5 : decode cX3_init 5 = .ok (.bipush 30, 2) := by decide +kernel
theorem dX3_init_7 : decode cX3_init 7 = .ok (.newarray .int, 2) := by decide +kernel
theorem dX3_init_9 : decode cX3_init 9 = .ok (.putfield 9, 3) := by decide +kernel
theorem dX3_init_12 : decode cX3_init 12 = .ok (.aload_n 0, 1) := by decide +kernel
theorem dX3_init_13 : decode cX3_init 13 = .ok (.bipush 30, 2) := by decide +kernel
theorem dX3_init_15 : decode cX3_init 15 = .ok (.newarray .int, 2) := by decide +kernel
theorem dX3_init_17 : decode cX3_init 17 = .ok (.putfield 15, 3) := by decide +kernel
theorem dX3_init_20 : decode cX3_init 20 = .ok (.aload_n 0, 1) := by decide +kernel
theorem dX3_init_21 : decode cX3_init 21 = .ok (.bipush 30, 2) := by decide +kernel
theorem dX3_init_23 : decode cX3_init 23 = .ok (.newarray .int, 2) := by decide +kernel
theorem dX3_init_25 : decode cX3_init 25 = .ok (.putfield 18, 3) := by decide +kernel
theorem dX3_init_28 : decode cX3_init 28 = .ok (.aload_n 0, 1) := by decide +kernel
theorem dX3_init_29 : decode cX3_init 29 = .ok (.bipush 30, 2) := by decide +kernel
theorem dX3_init_31 : decode cX3_init 31 = .ok (.newarray .int, 2) := by decide +kernel
theorem dX3_init_33 : decode cX3_init 33 = .ok (.putfield 21, 3) := by decide +kernel
theorem dX3_init_36 : decode cX3_init 36 = .ok (.aload_n 0, 1) := by decide +kernel
theorem dX3_init_37 : decode cX3_init 37 = .ok (.bipush 30, 2) := by decide +kernel
theorem dX3_init_39 : decode cX3_init 39 = .ok (.newarray .int, 2) := by decide +kernel
theorem dX3_init_41 : decode cX3_init 41 = .ok (.putfield 24, 3) := by decide +kernel
theorem dX3_init_44 : decode cX3_init 44 = .ok (.aload_n 0, 1) := by decide +kernel
theorem dX3_init_45 : decode cX3_init 45 = .ok (.bipush 29, 2) := by decide +kernel
theorem dX3_init_47 : decode cX3_init 47 = .ok (.putfield 27, 3) := by decide +kernel
theorem dX3_init_50 : decode cX3_init 50 = .ok (.return_, 1) := by decide +kernel
theorem dX3_forget_0 : decode cX3_forget 0 = .ok (.aload_n 0, 1) := by decide +kernel
theorem dX3_forget_1 : decode cX3_forget 1 = .ok (.iconst 0, 1) := by decide +kernel
theorem dX3_forget_2 : decode cX3_forget 2 = .ok (.putfield 31, 3) := by decide +kernel
theorem dX3_forget_5 : decode cX3_forget 5 = .ok (.return_, 1) := by decide +kernel
theorem dX3_begin_0 : decode cX3_begin 0 = .ok (.aload_n 0, 1) := by decide +kernel
theorem dX3_begin_1 : decode cX3_begin 1 = .ok (.aload_n 0, 1) := by decide +kernel
theorem dX3_begin_2 : decode cX3_begin 2 = .ok (.getfield 27, 3) := by decide +kernel
theorem dX3_begin_5 : decode cX3_begin 5 = .ok (.ifCond .lt 12, 3) := by decide +kernel
theorem dX3_begin_8 : decode cX3_begin 8 = .ok (.aload_n 0, 1) := by decide +kernel
theorem dX3_begin_9 : decode cX3_begin 9 = .ok (.getfield 27, 3) := by decide +kernel
theorem dX3_begin_12 : decode cX3_begin 12 = .ok (.bipush 29, 2) := by decide +kernel
theorem dX3_begin_14 : decode cX3_begin 14 = .ok (.if_icmp .lt 7, 3) := by decide +kernel
theorem dX3_begin_17 : decode cX3_begin 17 = .ok (.iconst 0, 1) := by decide +kernel
theorem dX3_begin_18 : decode cX3_begin 18 = .ok (.goto 9, 3) := by decide +kernel
theorem dX3_begin_21 : decode cX3_begin 21 = .ok (.aload_n 0, 1) := by decide +kernel
theorem dX3_begin_22 : decode cX3_begin 22 = .ok (.getfield 27, 3) := by decide +kernel
theorem dX3_begin_25 : decode cX3_begin 25 = .ok (.iconst 1, 1) := by decide +kernel
theorem dX3_begin_26 : decode cX3_begin 26 = .ok (.iadd, 1) := by decide +kernel
theorem dX3_begin_27 : decode cX3_begin 27 = .ok (.putfield 27, 3) := by decide +kernel
theorem dX3_begin_30 : decode cX3_begin 30 = .ok (.aload_n 0, 1) := by decide +kernel
theorem dX3_begin_31 : decode cX3_begin 31 = .ok (.getfield 9, 3) := by decide +kernel
theorem dX3_begin_34 : decode cX3_begin 34 = .ok (.aload_n 0, 1) := by decide +kernel
theorem dX3_begin_35 : decode cX3_begin 35 = .ok (.getfield 27, 3) := by decide +kernel
theorem dX3_begin_38 : decode cX3_begin 38 = .ok (.iload_n 1, 1) := by decide +kernel
theorem dX3_begin_39 : decode cX3_begin 39 = .ok (.iastore, 1) := by decide +kernel
theorem dX3_begin_40 : decode cX3_begin 40 = .ok (.aload_n 0, 1) := by decide +kernel
theorem dX3_begin_41 : decode cX3_begin 41 = .ok (.bipush 30, 2) := by decide +kernel
theorem dX3_begin_43 : decode cX3_begin 43 = .ok (.aload_n 0, 1) := by decide +kernel
theorem dX3_begin_44 : decode cX3_begin 44 = .ok (.getfield 31, 3) := by decide +kernel
theorem dX3_begin_47 : decode cX3_begin 47 = .ok (.iconst 1, 1) := by decide +kernel
theorem dX3_begin_48 : decode cX3_begin 48 = .ok (.iadd, 1) := by decide +kernel
theorem dX3_begin_49 : decode cX3_begin 49 = .ok (.invokestatic 34, 3) := by decide +kernel
theorem dX3_begin_52 : decode cX3_begin 52 = .ok (.putfield 31, 3) := by decide +kernel
theorem dX3_begin_55 : decode cX3_begin 55 = .ok (.return_, 1) := by decide +kernel
theorem dX3_noteAdded_0 : decode cX3_noteAdded 0 = .ok (.aload_n 0, 1) := by decide +kernel
theorem dX3_noteAdded_1 : decode cX3_noteAdded 1 = .ok (.iconst 0, 1) := by decide +kernel
theorem dX3_noteAdded_2 : decode cX3_noteAdded 2 = .ok (.invokevirtual 40, 3) := by decide +kernel
theorem dX3_noteAdded_5 : decode cX3_noteAdded 5 = .ok (.aload_n 0, 1) := by decide +kernel
theorem dX3_noteAdded_6 : decode cX3_noteAdded 6 = .ok (.getfield 15, 3) := by decide +kernel
theorem dX3_noteAdded_9 : decode cX3_noteAdded 9 = .ok (.aload_n 0, 1) := by decide +kernel
theorem dX3_noteAdded_10 : decode cX3_noteAdded 10 = .ok (.getfield 27, 3) := by decide +kernel
theorem dX3_noteAdded_13 : decode cX3_noteAdded 13 = .ok (.iload_n 1, 1) := by decide +kernel
theorem dX3_noteAdded_14 : decode cX3_noteAdded 14 = .ok (.iastore, 1) := by decide +kernel
theorem dX3_noteAdded_15 : decode cX3_noteAdded 15 = .ok (.return_, 1) := by decide +kernel
theorem dX3_noteBlotted_0 : decode cX3_noteBlotted 0 = .ok (.aload_n 0, 1) := by decide +kernel
theorem dX3_noteBlotted_1 : decode cX3_noteBlotted 1 = .ok (.iconst 1, 1) := by decide +kernel
theorem dX3_noteBlotted_2 : decode cX3_noteBlotted 2 = .ok (.invokevirtual 40, 3) := by decide +kernel
theorem dX3_noteBlotted_5 : decode cX3_noteBlotted 5 = .ok (.aload_n 0, 1) := by decide +kernel
theorem dX3_noteBlotted_6 : decode cX3_noteBlotted 6 = .ok (.getfield 15, 3) := by decide +kernel
theorem dX3_noteBlotted_9 : decode cX3_noteBlotted 9 = .ok (.aload_n 0, 1) := by decide +kernel
theorem dX3_noteBlotted_10 : decode cX3_noteBlotted 10 = .ok (.getfield 27, 3) := by decide +kernel
theorem dX3_noteBlotted_13 : decode cX3_noteBlotted 13 = .ok (.iload_n 1, 1) := by decide +kernel
theorem dX3_noteBlotted_14 : decode cX3_noteBlotted 14 = .ok (.iastore, 1) := by decide +kernel
theorem dX3_noteBlotted_15 : decode cX3_noteBlotted 15 = .ok (.aload_n 0, 1) := by decide +kernel
theorem dX3_noteBlotted_16 : decode cX3_noteBlotted 16 = .ok (.getfield 18, 3) := by decide +kernel
theorem dX3_noteBlotted_19 : decode cX3_noteBlotted 19 = .ok (.aload_n 0, 1) := by decide +kernel
theorem dX3_noteBlotted_20 : decode cX3_noteBlotted 20 = .ok (.getfield 27, 3) := by decide +kernel
theorem dX3_noteBlotted_23 : decode cX3_noteBlotted 23 = .ok (.iload_n 2, 1) := by decide +kernel
theorem dX3_noteBlotted_24 : decode cX3_noteBlotted 24 = .ok (.iastore, 1) := by decide +kernel
theorem dX3_noteBlotted_25 : decode cX3_noteBlotted 25 = .ok (.aload_n 0, 1) := by decide +kernel
theorem dX3_noteBlotted_26 : decode cX3_noteBlotted 26 = .ok (.getfield 21, 3) := by decide +kernel
theorem dX3_noteBlotted_29 : decode cX3_noteBlotted 29 = .ok (.aload_n 0, 1) := by decide +kernel
theorem dX3_noteBlotted_30 : decode cX3_noteBlotted 30 = .ok (.getfield 27, 3) := by decide +kernel
theorem dX3_noteBlotted_33 : decode cX3_noteBlotted 33 = .ok (.iload_n 3, 1) := by decide +kernel
theorem dX3_noteBlotted_34 : decode cX3_noteBlotted 34 = .ok (.iastore, 1) := by decide +kernel
theorem dX3_noteBlotted_35 : decode cX3_noteBlotted 35 = .ok (.aload_n 0, 1) := by decide +kernel
theorem dX3_noteBlotted_36 : decode cX3_noteBlotted 36 = .ok (.getfield 24, 3) := by decide +kernel
theorem dX3_noteBlotted_39 : decode cX3_noteBlotted 39 = .ok (.aload_n 0, 1) := by decide +kernel
theorem dX3_noteBlotted_40 : decode cX3_noteBlotted 40 = .ok (.getfield 27, 3) := by decide +kernel
theorem dX3_noteBlotted_43 : decode cX3_noteBlotted 43 = .ok (.iload 4, 2) := by decide +kernel
theorem dX3_noteBlotted_45 : decode cX3_noteBlotted 45 = .ok (.iastore, 1) := by decide +kernel
theorem dX3_noteBlotted_46 : decode cX3_noteBlotted 46 = .ok (.return_, 1) := by decide +kernel
theorem dX3_noteBottled_0 : decode cX3_noteBottled 0 = .ok (.aload_n 0, 1) := by decide +kernel
theorem dX3_noteBottled_1 : decode cX3_noteBottled 1 = .ok (.iconst 2, 1) := by decide +kernel
theorem dX3_noteBottled_2 : decode cX3_noteBottled 2 = .ok (.invokevirtual 40, 3) := by decide +kernel
theorem dX3_noteBottled_5 : decode cX3_noteBottled 5 = .ok (.aload_n 0, 1) := by decide +kernel
theorem dX3_noteBottled_6 : decode cX3_noteBottled 6 = .ok (.getfield 24, 3) := by decide +kernel
theorem dX3_noteBottled_9 : decode cX3_noteBottled 9 = .ok (.aload_n 0, 1) := by decide +kernel
theorem dX3_noteBottled_10 : decode cX3_noteBottled 10 = .ok (.getfield 27, 3) := by decide +kernel
theorem dX3_noteBottled_13 : decode cX3_noteBottled 13 = .ok (.iload_n 1, 1) := by decide +kernel
theorem dX3_noteBottled_14 : decode cX3_noteBottled 14 = .ok (.iastore, 1) := by decide +kernel
theorem dX3_noteBottled_15 : decode cX3_noteBottled 15 = .ok (.return_, 1) := by decide +kernel
theorem dX3_takeBackLast_0 : decode cX3_takeBackLast 0 = .ok (.aload_n 0, 1) := by decide +kernel
theorem dX3_takeBackLast_1 : decode cX3_takeBackLast 1 = .ok (.getfield 31, 3) := by decide +kernel
theorem dX3_takeBackLast_4 : decode cX3_takeBackLast 4 = .ok (.iconst 1, 1) := by decide +kernel
theorem dX3_takeBackLast_5 : decode cX3_takeBackLast 5 = .ok (.if_icmp .lt 19, 3) := by decide +kernel
theorem dX3_takeBackLast_8 : decode cX3_takeBackLast 8 = .ok (.aload_n 0, 1) := by decide +kernel
theorem dX3_takeBackLast_9 : decode cX3_takeBackLast 9 = .ok (.getfield 27, 3) := by decide +kernel
theorem dX3_takeBackLast_12 : decode cX3_takeBackLast 12 = .ok (.ifCond .lt 12, 3) := by decide +kernel
theorem dX3_takeBackLast_15 : decode cX3_takeBackLast 15 = .ok (.aload_n 0, 1) := by decide +kernel
theorem dX3_takeBackLast_16 : decode cX3_takeBackLast 16 = .ok (.getfield 27, 3) := by decide +kernel
theorem dX3_takeBackLast_19 : decode cX3_takeBackLast 19 = .ok (.bipush 30, 2) := by decide +kernel
theorem dX3_takeBackLast_21 : decode cX3_takeBackLast 21 = .ok (.if_icmp .lt 4, 3) := by decide +kernel
theorem dX3_takeBackLast_24 : decode cX3_takeBackLast 24 = .ok (.return_, 1) := by decide +kernel
theorem dX3_takeBackLast_25 : decode cX3_takeBackLast 25 = .ok (.aload_n 0, 1) := by decide +kernel
theorem dX3_takeBackLast_26 : decode cX3_takeBackLast 26 = .ok (.getfield 9, 3) := by decide +kernel
theorem dX3_takeBackLast_29 : decode cX3_takeBackLast 29 = .ok (.aload_n 0, 1) := by decide +kernel
theorem dX3_takeBackLast_30 : decode cX3_takeBackLast 30 = .ok (.getfield 27, 3) := by decide +kernel
theorem dX3_takeBackLast_33 : decode cX3_takeBackLast 33 = .ok (.iaload, 1) := by decide +kernel
theorem dX3_takeBackLast_34 : decode cX3_takeBackLast 34 = .ok (.lookupswitch 85 #[(0, 26), (1, 42)], 26) := by decide +kernel
theorem dX3_takeBackLast_60 : decode cX3_takeBackLast 60 = .ok (.aload_n 1, 1) := by decide +kernel
theorem dX3_takeBackLast_61 : decode cX3_takeBackLast 61 = .ok (.aload_n 0, 1) := by decide +kernel
theorem dX3_takeBackLast_62 : decode cX3_takeBackLast 62 = .ok (.getfield 15, 3) := by decide +kernel
theorem dX3_takeBackLast_65 : decode cX3_takeBackLast 65 = .ok (.aload_n 0, 1) := by decide +kernel
theorem dX3_takeBackLast_66 : decode cX3_takeBackLast 66 = .ok (.getfield 27, 3) := by decide +kernel
theorem dX3_takeBackLast_69 : decode cX3_takeBackLast 69 = .ok (.iaload, 1) := by decide +kernel
theorem dX3_takeBackLast_70 : decode cX3_takeBackLast 70 = .ok (.invokevirtual 44, 3) := by decide +kernel
theorem dX3_takeBackLast_73 : decode cX3_takeBackLast 73 = .ok (.goto 59, 3) := by decide +kernel
theorem dX3_takeBackLast_76 : decode cX3_takeBackLast 76 = .ok (.aload_n 1, 1) := by decide +kernel
theorem dX3_takeBackLast_77 : decode cX3_takeBackLast 77 = .ok (.aload_n 0, 1) := by decide +kernel
theorem dX3_takeBackLast_78 : decode cX3_takeBackLast 78 = .ok (.getfield 15, 3) := by decide +kernel
theorem dX3_takeBackLast_81 : decode cX3_takeBackLast 81 = .ok (.aload_n 0, 1) := by decide +kernel
theorem dX3_takeBackLast_82 : decode cX3_takeBackLast 82 = .ok (.getfield 27, 3) := by decide +kernel
theorem dX3_takeBackLast_85 : decode cX3_takeBackLast 85 = .ok (.iaload, 1) := by decide +kernel
theorem dX3_takeBackLast_86 : decode cX3_takeBackLast 86 = .ok (.aload_n 0, 1) := by decide +kernel
theorem dX3_takeBackLast_87 : decode cX3_takeBackLast 87 = .ok (.getfield 18, 3) := by decide +kernel
theorem dX3_takeBackLast_90 : decode cX3_takeBackLast 90 = .ok (.aload_n 0, 1) := by decide +kernel
theorem dX3_takeBackLast_91 : decode cX3_takeBackLast 91 = .ok (.getfield 27, 3) := by decide +kernel
theorem dX3_takeBackLast_94 : decode cX3_takeBackLast 94 = .ok (.iaload, 1) := by decide +kernel
theorem dX3_takeBackLast_95 : decode cX3_takeBackLast 95 = .ok (.aload_n 0, 1) := by decide +kernel
theorem dX3_takeBackLast_96 : decode cX3_takeBackLast 96 = .ok (.getfield 21, 3) := by decide +kernel
theorem dX3_takeBackLast_99 : decode cX3_takeBackLast 99 = .ok (.aload_n 0, 1) := by decide +kernel
theorem dX3_takeBackLast_100 : decode cX3_takeBackLast 100 = .ok (.getfield 27, 3) := by decide +kernel
theorem dX3_takeBackLast_103 : decode cX3_takeBackLast 103 = .ok (.iaload, 1) := by decide +kernel
theorem dX3_takeBackLast_104 : decode cX3_takeBackLast 104 = .ok (.aload_n 0, 1) := by decide +kernel
theorem dX3_takeBackLast_105 : decode cX3_takeBackLast 105 = .ok (.getfield 24, 3) := by decide +kernel
theorem dX3_takeBackLast_108 : decode cX3_takeBackLast 108 = .ok (.aload_n 0, 1) := by decide +kernel
theorem dX3_takeBackLast_109 : decode cX3_takeBackLast 109 = .ok (.getfield 27, 3) := by decide +kernel
theorem dX3_takeBackLast_112 : decode cX3_takeBackLast 112 = .ok (.iaload, 1) := by decide +kernel
theorem dX3_takeBackLast_113 : decode cX3_takeBackLast 113 = .ok (.invokevirtual 49, 3) := by decide +kernel
theorem dX3_takeBackLast_116 : decode cX3_takeBackLast 116 = .ok (.goto 16, 3) := by decide +kernel
theorem dX3_takeBackLast_119 : decode cX3_takeBackLast 119 = .ok (.aload_n 1, 1) := by decide +kernel
theorem dX3_takeBackLast_120 : decode cX3_takeBackLast 120 = .ok (.aload_n 0, 1) := by decide +kernel
theorem dX3_takeBackLast_121 : decode cX3_takeBackLast 121 = .ok (.getfield 24, 3) := by decide +kernel
theorem dX3_takeBackLast_124 : decode cX3_takeBackLast 124 = .ok (.aload_n 0, 1) := by decide +kernel
theorem dX3_takeBackLast_125 : decode cX3_takeBackLast 125 = .ok (.getfield 27, 3) := by decide +kernel
theorem dX3_takeBackLast_128 : decode cX3_takeBackLast 128 = .ok (.iaload, 1) := by decide +kernel
theorem dX3_takeBackLast_129 : decode cX3_takeBackLast 129 = .ok (.putfield 53, 3) := by decide +kernel
theorem dX3_takeBackLast_132 : decode cX3_takeBackLast 132 = .ok (.aload_n 0, 1) := by decide +kernel
theorem dX3_takeBackLast_133 : decode cX3_takeBackLast 133 = .ok (.aload_n 0, 1) := by decide +kernel
theorem dX3_takeBackLast_134 : decode cX3_takeBackLast 134 = .ok (.getfield 27, 3) := by decide +kernel
theorem dX3_takeBackLast_137 : decode cX3_takeBackLast 137 = .ok (.ifCond .ne 8, 3) := by decide +kernel
theorem dX3_takeBackLast_140 : decode cX3_takeBackLast 140 = .ok (.bipush 29, 2) := by decide +kernel
theorem dX3_takeBackLast_142 : decode cX3_takeBackLast 142 = .ok (.goto 9, 3) := by decide +kernel
theorem dX3_takeBackLast_145 : decode cX3_takeBackLast 145 = .ok (.aload_n 0, 1) := by decide +kernel
theorem dX3_takeBackLast_146 : decode cX3_takeBackLast 146 = .ok (.getfield 27, 3) := by decide +kernel
theorem dX3_takeBackLast_149 : decode cX3_takeBackLast 149 = .ok (.iconst 1, 1) := by decide +kernel
theorem dX3_takeBackLast_150 : decode cX3_takeBackLast 150 = .ok (.isub, 1) := by decide +kernel
theorem dX3_takeBackLast_151 : decode cX3_takeBackLast 151 = .ok (.putfield 27, 3) := by decide +kernel
theorem dX3_takeBackLast_154 : decode cX3_takeBackLast 154 = .ok (.aload_n 0, 1) := by decide +kernel
theorem dX3_takeBackLast_155 : decode cX3_takeBackLast 155 = .ok (.dup, 1) := by decide +kernel
theorem dX3_takeBackLast_156 : decode cX3_takeBackLast 156 = .ok (.getfield 31, 3) := by decide +kernel
theorem dX3_takeBackLast_159 : decode cX3_takeBackLast 159 = .ok (.iconst 1, 1) := by decide +kernel
theorem dX3_takeBackLast_160 : decode cX3_takeBackLast 160 = .ok (.isub, 1) := by decide +kernel
theorem dX3_takeBackLast_161 : decode cX3_takeBackLast 161 = .ok (.putfield 31, 3) := by decide +kernel
theorem dX3_takeBackLast_164 : decode cX3_takeBackLast 164 = .ok (.return_, 1) := by decide +kernel
theorem dX4_init_0 : decode cX4_init 0 = .ok (.aload_n 0, 1) := by decide +kernel
theorem dX4_init_1 : decode cX4_init 1 = .ok (.invokespecial 3, 3) := by decide +kernel
theorem dX4_init_4 : decode cX4_init 4 = .ok (.aload_n 0, 1) := by decide +kernel
theorem dX4_init_5 : decode cX4_init 5 = .ok (.bipush 16, 2) := by decide +kernel
theorem dX4_init_7 : decode cX4_init 7 = .ok (.newarray .int, 2) := by decide +kernel
theorem dX4_init_9 : decode cX4_init 9 = .ok (.putfield 9, 3) := by decide +kernel
theorem dX4_init_12 : decode cX4_init 12 = .ok (.return_, 1) := by decide +kernel
theorem dX4_compare_0 : decode cX4_compare 0 = .ok (.iconst 0, 1) := by decide +kernel
theorem dX4_compare_1 : decode cX4_compare 1 = .ok (.istore_n 3, 1) := by decide +kernel
theorem dX4_compare_2 : decode cX4_compare 2 = .ok (.iload_n 3, 1) := by decide +kernel
theorem dX4_compare_3 : decode cX4_compare 3 = .ok (.aload_n 1, 1) := by decide +kernel
theorem dX4_compare_4 : decode cX4_compare 4 = .ok (.getfield 15, 3) := by decide +kernel
theorem dX4_compare_7 : decode cX4_compare 7 = .ok (.if_icmp .ge 46, 3) := by decide +kernel
theorem dX4_compare_10 : decode cX4_compare 10 = .ok (.iconst 0, 1) := by decide +kernel
theorem dX4_compare_11 : decode cX4_compare 11 = .ok (.istore 4, 2) := by decide +kernel
theorem dX4_compare_13 : decode cX4_compare 13 = .ok (.iload 4, 2) := by decide +kernel
theorem dX4_compare_15 : decode cX4_compare 15 = .ok (.aload_n 1, 1) := by decide +kernel
theorem dX4_compare_16 : decode cX4_compare 16 = .ok (.getfield 21, 3) := by decide +kernel
theorem dX4_compare_19 : decode cX4_compare 19 = .ok (.if_icmp .ge 28, 3) := by decide +kernel
theorem dX4_compare_22 : decode cX4_compare 22 = .ok (.aload_n 0, 1) := by decide +kernel
theorem dX4_compare_23 : decode cX4_compare 23 = .ok (.getfield 9, 3) := by decide +kernel
theorem dX4_compare_26 : decode cX4_compare 26 = .ok (.iload_n 3, 1) := by decide +kernel
theorem dX4_compare_27 : decode cX4_compare 27 = .ok (.iconst 4, 1) := by decide +kernel
theorem dX4_compare_28 : decode cX4_compare 28 = .ok (.imul, 1) := by decide +kernel
theorem dX4_compare_29 : decode cX4_compare 29 = .ok (.iload 4, 2) := by decide +kernel
theorem dX4_compare_31 : decode cX4_compare 31 = .ok (.iadd, 1) := by decide +kernel
theorem dX4_compare_32 : decode cX4_compare 32 = .ok (.aload_n 2, 1) := by decide +kernel
theorem dX4_compare_33 : decode cX4_compare 33 = .ok (.aload_n 1, 1) := by decide +kernel
theorem dX4_compare_34 : decode cX4_compare 34 = .ok (.iload_n 3, 1) := by decide +kernel
theorem dX4_compare_35 : decode cX4_compare 35 = .ok (.iload 4, 2) := by decide +kernel
theorem dX4_compare_37 : decode cX4_compare 37 = .ok (.invokevirtual 24, 3) := by decide +kernel
theorem dX4_compare_40 : decode cX4_compare 40 = .ok (.iastore, 1) := by decide +kernel
theorem dX4_compare_41 : decode cX4_compare 41 = .ok (.iinc 4 1, 3) := by decide +kernel
theorem dX4_compare_44 : decode cX4_compare 44 = .ok (.goto (-31), 3) := by decide +kernel
theorem dX4_compare_47 : decode cX4_compare 47 = .ok (.iinc 3 1, 3) := by decide +kernel
theorem dX4_compare_50 : decode cX4_compare 50 = .ok (.goto (-48), 3) := by decide +kernel
theorem dX4_compare_53 : decode cX4_compare 53 = .ok (.return_, 1) := by decide +kernel
theorem dX4_search_0 : decode cX4_search 0 = .ok (.aload_n 0, 1) := by decide +kernel
theorem dX4_search_1 : decode cX4_search 1 = .ok (.iconst (-1), 1) := by decide +kernel
theorem dX4_search_2 : decode cX4_search 2 = .ok (.putfield 30, 3) := by decide +kernel
theorem dX4_search_5 : decode cX4_search 5 = .ok (.aload_n 0, 1) := by decide +kernel
theorem dX4_search_6 : decode cX4_search 6 = .ok (.iconst 0, 1) := by decide +kernel
theorem dX4_search_7 : decode cX4_search 7 = .ok (.putfield 33, 3) := by decide +kernel
theorem dX4_search_10 : decode cX4_search 10 = .ok (.iconst 1, 1) := by decide +kernel
theorem dX4_search_11 : decode cX4_search 11 = .ok (.iconst 2, 1) := by decide +kernel
theorem dX4_search_12 : decode cX4_search 12 = .ok (.iconst 4, 1) := by decide +kernel
theorem dX4_search_13 : decode cX4_search 13 = .ok (.iload_n 1, 1) := by decide +kernel
theorem dX4_search_14 : decode cX4_search 14 = .ok (.invokestatic 36, 3) := by decide +kernel
theorem dX4_search_17 : decode cX4_search 17 = .ok (.imul, 1) := by decide +kernel
theorem dX4_search_18 : decode cX4_search 18 = .ok (.ishl, 1) := by decide +kernel
theorem dX4_search_19 : decode cX4_search 19 = .ok (.istore_n 3, 1) := by decide +kernel
theorem dX4_search_20 : decode cX4_search 20 = .ok (.iconst 0, 1) := by decide +kernel
theorem dX4_search_21 : decode cX4_search 21 = .ok (.istore 4, 2) := by decide +kernel
theorem dX4_search_23 : decode cX4_search 23 = .ok (.iload 4, 2) := by decide +kernel
theorem dX4_search_25 : decode cX4_search 25 = .ok (.iload_n 3, 1) := by decide +kernel
theorem dX4_search_26 : decode cX4_search 26 = .ok (.if_icmp .ge 40, 3) := by decide +kernel
theorem dX4_search_29 : decode cX4_search 29 = .ok (.aload_n 0, 1) := by decide +kernel
theorem dX4_search_30 : decode cX4_search 30 = .ok (.iload 4, 2) := by decide +kernel
theorem dX4_search_32 : decode cX4_search 32 = .ok (.iload_n 1, 1) := by decide +kernel
theorem dX4_search_33 : decode cX4_search 33 = .ok (.iload_n 2, 1) := by decide +kernel
theorem dX4_search_34 : decode cX4_search 34 = .ok (.invokevirtual 42, 3) := by decide +kernel
theorem dX4_search_37 : decode cX4_search 37 = .ok (.istore 5, 2) := by decide +kernel
theorem dX4_search_39 : decode cX4_search 39 = .ok (.iload 5, 2) := by decide +kernel
theorem dX4_search_41 : decode cX4_search 41 = .ok (.aload_n 0, 1) := by decide +kernel
theorem dX4_search_42 : decode cX4_search 42 = .ok (.getfield 30, 3) := by decide +kernel
theorem dX4_search_45 : decode cX4_search 45 = .ok (.if_icmp .le 15, 3) := by decide +kernel
theorem dX4_search_48 : decode cX4_search 48 = .ok (.aload_n 0, 1) := by decide +kernel
theorem dX4_search_49 : decode cX4_search 49 = .ok (.iload 5, 2) := by decide +kernel
theorem dX4_search_51 : decode cX4_search 51 = .ok (.putfield 30, 3) := by decide +kernel
theorem dX4_search_54 : decode cX4_search 54 = .ok (.aload_n 0, 1) := by decide +kernel
theorem dX4_search_55 : decode cX4_search 55 = .ok (.iload 4, 2) := by decide +kernel
theorem dX4_search_57 : decode cX4_search 57 = .ok (.putfield 33, 3) := by decide +kernel
theorem dX4_search_60 : decode cX4_search 60 = .ok (.iinc 4 1, 3) := by decide +kernel
theorem dX4_search_63 : decode cX4_search 63 = .ok (.goto (-40), 3) := by decide +kernel
theorem dX4_search_66 : decode cX4_search 66 = .ok (.return_, 1) := by decide +kernel
theorem dX4_handOf_0 : decode cX4_handOf 0 = .ok (.aload_n 0, 1) := by decide +kernel
theorem dX4_handOf_1 : decode cX4_handOf 1 = .ok (.getfield 33, 3) := by decide +kernel
theorem dX4_handOf_4 : decode cX4_handOf 4 = .ok (.iload_n 1, 1) := by decide +kernel
theorem dX4_handOf_5 : decode cX4_handOf 5 = .ok (.iload_n 2, 1) := by decide +kernel
theorem dX4_handOf_6 : decode cX4_handOf 6 = .ok (.invokestatic 46, 3) := by decide +kernel
theorem dX4_handOf_9 : decode cX4_handOf 9 = .ok (.ireturn, 1) := by decide +kernel
theorem dX4_handIn_0 : decode cX4_handIn 0 = .ok (.iload_n 0, 1) := by decide +kernel
theorem dX4_handIn_1 : decode cX4_handIn 1 = .ok (.iconst 2, 1) := by decide +kernel
theorem dX4_handIn_2 : decode cX4_handIn 2 = .ok (.iload_n 2, 1) := by decide +kernel
theorem dX4_handIn_3 : decode cX4_handIn 3 = .ok (.iconst 1, 1) := by decide +kernel
theorem dX4_handIn_4 : decode cX4_handIn 4 = .ok (.isub, 1) := by decide +kernel
theorem dX4_handIn_5 : decode cX4_handIn 5 = .ok (.iload_n 1, 1) := by decide +kernel
theorem dX4_handIn_6 : decode cX4_handIn 6 = .ok (.isub, 1) := by decide +kernel
theorem dX4_handIn_7 : decode cX4_handIn 7 = .ok (.imul, 1) := by decide +kernel
theorem dX4_handIn_8 : decode cX4_handIn 8 = .ok (.ishr, 1) := by decide +kernel
theorem dX4_handIn_9 : decode cX4_handIn 9 = .ok (.iconst 3, 1) := by decide +kernel
theorem dX4_handIn_10 : decode cX4_handIn 10 = .ok (.iand, 1) := by decide +kernel
theorem dX4_handIn_11 : decode cX4_handIn 11 = .ok (.ireturn, 1) := by decide +kernel
theorem dX4_likenessOf_0 : decode cX4_likenessOf 0 = .ok (.iconst 0, 1) := by decide +kernel
theorem dX4_likenessOf_1 : decode cX4_likenessOf 1 = .ok (.istore 4, 2) := by decide +kernel
theorem dX4_likenessOf_3 : decode cX4_likenessOf 3 = .ok (.iconst 0, 1) := by decide +kernel
theorem dX4_likenessOf_4 : decode cX4_likenessOf 4 = .ok (.istore 5, 2) := by decide +kernel
theorem dX4_likenessOf_6 : decode cX4_likenessOf 6 = .ok (.iconst 0, 1) := by decide +kernel
theorem dX4_likenessOf_7 : decode cX4_likenessOf 7 = .ok (.istore 6, 2) := by decide +kernel
theorem dX4_likenessOf_9 : decode cX4_likenessOf 9 = .ok (.iload 6, 2) := by decide +kernel
theorem dX4_likenessOf_11 : decode cX4_likenessOf 11 = .ok (.iload_n 2, 1) := by decide +kernel
theorem dX4_likenessOf_12 : decode cX4_likenessOf 12 = .ok (.if_icmp .ge 63, 3) := by decide +kernel
theorem dX4_likenessOf_15 : decode cX4_likenessOf 15 = .ok (.iload_n 1, 1) := by decide +kernel
theorem dX4_likenessOf_16 : decode cX4_likenessOf 16 = .ok (.iload 6, 2) := by decide +kernel
theorem dX4_likenessOf_18 : decode cX4_likenessOf 18 = .ok (.iload_n 2, 1) := by decide +kernel
theorem dX4_likenessOf_19 : decode cX4_likenessOf 19 = .ok (.invokestatic 46, 3) := by decide +kernel
theorem dX4_likenessOf_22 : decode cX4_likenessOf 22 = .ok (.istore 7, 2) := by decide +kernel
theorem dX4_likenessOf_24 : decode cX4_likenessOf 24 = .ok (.iload 7, 2) := by decide +kernel
theorem dX4_likenessOf_26 : decode cX4_likenessOf 26 = .ok (.iload_n 3, 1) := by decide +kernel
theorem dX4_likenessOf_27 : decode cX4_likenessOf 27 = .ok (.if_icmp .ge 14, 3) := by decide +kernel
theorem dX4_likenessOf_30 : decode cX4_likenessOf 30 = .ok (.iload 4, 2) := by decide +kernel
theorem dX4_likenessOf_32 : decode cX4_likenessOf 32 = .ok (.iload 7, 2) := by decide +kernel
theorem dX4_likenessOf_34 : decode cX4_likenessOf 34 = .ok (.ishr, 1) := by decide +kernel
theorem dX4_likenessOf_35 : decode cX4_likenessOf 35 = .ok (.iconst 1, 1) := by decide +kernel
theorem dX4_likenessOf_36 : decode cX4_likenessOf 36 = .ok (.iand, 1) := by decide +kernel
theorem dX4_likenessOf_37 : decode cX4_likenessOf 37 = .ok (.iconst 1, 1) := by decide +kernel
theorem dX4_likenessOf_38 : decode cX4_likenessOf 38 = .ok (.if_icmp .ne 5, 3) := by decide +kernel
theorem dX4_likenessOf_41 : decode cX4_likenessOf 41 = .ok (.iconst (-1), 1) := by decide +kernel
theorem dX4_likenessOf_42 : decode cX4_likenessOf 42 = .ok (.ireturn, 1) := by decide +kernel
theorem dX4_likenessOf_43 : decode cX4_likenessOf 43 = .ok (.iload 4, 2) := by decide +kernel
theorem dX4_likenessOf_45 : decode cX4_likenessOf 45 = .ok (.iconst 1, 1) := by decide +kernel
theorem dX4_likenessOf_46 : decode cX4_likenessOf 46 = .ok (.iload 7, 2) := by decide +kernel
theorem dX4_likenessOf_48 : decode cX4_likenessOf 48 = .ok (.ishl, 1) := by decide +kernel
theorem dX4_likenessOf_49 : decode cX4_likenessOf 49 = .ok (.ior, 1) := by decide +kernel
theorem dX4_likenessOf_50 : decode cX4_likenessOf 50 = .ok (.istore 4, 2) := by decide +kernel
theorem dX4_likenessOf_52 : decode cX4_likenessOf 52 = .ok (.iload 5, 2) := by decide +kernel
theorem dX4_likenessOf_54 : decode cX4_likenessOf 54 = .ok (.aload_n 0, 1) := by decide +kernel
theorem dX4_likenessOf_55 : decode cX4_likenessOf 55 = .ok (.getfield 9, 3) := by decide +kernel
theorem dX4_likenessOf_58 : decode cX4_likenessOf 58 = .ok (.iload 6, 2) := by decide +kernel
theorem dX4_likenessOf_60 : decode cX4_likenessOf 60 = .ok (.iconst 4, 1) := by decide +kernel
theorem dX4_likenessOf_61 : decode cX4_likenessOf 61 = .ok (.imul, 1) := by decide +kernel
theorem dX4_likenessOf_62 : decode cX4_likenessOf 62 = .ok (.iload 7, 2) := by decide +kernel
theorem dX4_likenessOf_64 : decode cX4_likenessOf 64 = .ok (.iadd, 1) := by decide +kernel
theorem dX4_likenessOf_65 : decode cX4_likenessOf 65 = .ok (.iaload, 1) := by decide +kernel
theorem dX4_likenessOf_66 : decode cX4_likenessOf 66 = .ok (.iadd, 1) := by decide +kernel
theorem dX4_likenessOf_67 : decode cX4_likenessOf 67 = .ok (.istore 5, 2) := by decide +kernel
theorem dX4_likenessOf_69 : decode cX4_likenessOf 69 = .ok (.iinc 6 1, 3) := by decide +kernel
theorem dX4_likenessOf_72 : decode cX4_likenessOf 72 = .ok (.goto (-63), 3) := by decide +kernel
theorem dX4_likenessOf_75 : decode cX4_likenessOf 75 = .ok (.iload 5, 2) := by decide +kernel
theorem dX4_likenessOf_77 : decode cX4_likenessOf 77 = .ok (.ireturn, 1) := by decide +kernel
theorem dX5_init_0 : decode cX5_init 0 = .ok (.aload_n 0, 1) := by decide +kernel
theorem dX5_init_1 : decode cX5_init 1 = .ok (.invokespecial 3, 3) := by decide +kernel
theorem dX5_init_4 : decode cX5_init 4 = .ok (.aload_n 0, 1) := by decide +kernel
theorem dX5_init_5 : decode cX5_init 5 = .ok (.sipush 230, 3) := by decide +kernel
theorem dX5_init_8 : decode cX5_init 8 = .ok (.newarray .int, 2) := by decide +kernel
theorem dX5_init_10 : decode cX5_init 10 = .ok (.putfield 9, 3) := by decide +kernel
theorem dX5_init_13 : decode cX5_init 13 = .ok (.aload_n 0, 1) := by decide +kernel
theorem dX5_init_14 : decode cX5_init 14 = .ok (.iconst (-1), 1) := by decide +kernel
theorem dX5_init_15 : decode cX5_init 15 = .ok (.putfield 15, 3) := by decide +kernel
theorem dX5_init_18 : decode cX5_init 18 = .ok (.return_, 1) := by decide +kernel
theorem dX5_take_0 : decode cX5_take 0 = .ok (.aload_n 0, 1) := by decide +kernel
theorem dX5_take_1 : decode cX5_take 1 = .ok (.getfield 19, 3) := by decide +kernel
theorem dX5_take_4 : decode cX5_take 4 = .ok (.ifCond .lt 13, 3) := by decide +kernel
theorem dX5_take_7 : decode cX5_take 7 = .ok (.aload_n 0, 1) := by decide +kernel
theorem dX5_take_8 : decode cX5_take 8 = .ok (.getfield 19, 3) := by decide +kernel
theorem dX5_take_11 : decode cX5_take 11 = .ok (.sipush 230, 3) := by decide +kernel
theorem dX5_take_14 : decode cX5_take 14 = .ok (.if_icmp .lt 6, 3) := by decide +kernel
theorem dX5_take_17 : decode cX5_take 17 = .ok (.ldc 22, 2) := by decide +kernel
theorem dX5_take_19 : decode cX5_take 19 = .ok (.ireturn, 1) := by decide +kernel
theorem dX5_take_20 : decode cX5_take 20 = .ok (.aload_n 0, 1) := by decide +kernel
theorem dX5_take_21 : decode cX5_take 21 = .ok (.getfield 9, 3) := by decide +kernel
theorem dX5_take_24 : decode cX5_take 24 = .ok (.aload_n 0, 1) := by decide +kernel
theorem dX5_take_25 : decode cX5_take 25 = .ok (.getfield 19, 3) := by decide +kernel
theorem dX5_take_28 : decode cX5_take 28 = .ok (.iload_n 1, 1) := by decide +kernel
theorem dX5_take_29 : decode cX5_take 29 = .ok (.iastore, 1) := by decide +kernel
theorem dX5_take_30 : decode cX5_take 30 = .ok (.aload_n 0, 1) := by decide +kernel
theorem dX5_take_31 : decode cX5_take 31 = .ok (.dup, 1) := by decide +kernel
theorem dX5_take_32 : decode cX5_take 32 = .ok (.getfield 19, 3) := by decide +kernel
theorem dX5_take_35 : decode cX5_take 35 = .ok (.iconst 1, 1) := by decide +kernel
theorem dX5_take_36 : decode cX5_take 36 = .ok (.iadd, 1) := by decide +kernel
theorem dX5_take_37 : decode cX5_take 37 = .ok (.putfield 19, 3) := by decide +kernel
theorem dX5_take_40 : decode cX5_take 40 = .ok (.aload_n 0, 1) := by decide +kernel
theorem dX5_take_41 : decode cX5_take 41 = .ok (.getfield 19, 3) := by decide +kernel
theorem dX5_take_44 : decode cX5_take 44 = .ok (.ireturn, 1) := by decide +kernel
theorem dX5_readInto_0 : decode cX5_readInto 0 = .ok (.aload_n 0, 1) := by decide +kernel
theorem dX5_readInto_1 : decode cX5_readInto 1 = .ok (.iconst 0, 1) := by decide +kernel
theorem dX5_readInto_2 : decode cX5_readInto 2 = .ok (.putfield 23, 3) := by decide +kernel
theorem dX5_readInto_5 : decode cX5_readInto 5 = .ok (.aload_n 0, 1) := by decide +kernel
theorem dX5_readInto_6 : decode cX5_readInto 6 = .ok (.iconst 0, 1) := by decide +kernel
theorem dX5_readInto_7 : decode cX5_readInto 7 = .ok (.putfield 26, 3) := by decide +kernel
theorem dX5_readInto_10 : decode cX5_readInto 10 = .ok (.aload_n 0, 1) := by decide +kernel
theorem dX5_readInto_11 : decode cX5_readInto 11 = .ok (.iconst (-1), 1) := by decide +kernel
theorem dX5_readInto_12 : decode cX5_readInto 12 = .ok (.putfield 15, 3) := by decide +kernel
theorem dX5_readInto_15 : decode cX5_readInto 15 = .ok (.aload_n 0, 1) := by decide +kernel
theorem dX5_readInto_16 : decode cX5_readInto 16 = .ok (.invokevirtual 29, 3) := by decide +kernel
theorem dX5_readInto_19 : decode cX5_readInto 19 = .ok (.iconst 0, 1) := by decide +kernel
theorem dX5_readInto_20 : decode cX5_readInto 20 = .ok (.istore_n 2, 1) := by decide +kernel
theorem dX5_readInto_21 : decode cX5_readInto 21 = .ok (.iload_n 2, 1) := by decide +kernel
theorem dX5_readInto_22 : decode cX5_readInto 22 = .ok (.sipush 230, 3) := by decide +kernel
theorem dX5_readInto_25 : decode cX5_readInto 25 = .ok (.if_icmp .ge 36, 3) := by decide +kernel
theorem dX5_readInto_28 : decode cX5_readInto 28 = .ok (.aload_n 0, 1) := by decide +kernel
theorem dX5_readInto_29 : decode cX5_readInto 29 = .ok (.getfield 23, 3) := by decide +kernel
theorem dX5_readInto_32 : decode cX5_readInto 32 = .ok (.aload_n 0, 1) := by decide +kernel
theorem dX5_readInto_33 : decode cX5_readInto 33 = .ok (.getfield 19, 3) := by decide +kernel
theorem dX5_readInto_36 : decode cX5_readInto 36 = .ok (.if_icmp .ge 25, 3) := by decide +kernel
theorem dX5_readInto_39 : decode cX5_readInto 39 = .ok (.aload_n 0, 1) := by decide +kernel
theorem dX5_readInto_40 : decode cX5_readInto 40 = .ok (.getfield 26, 3) := by decide +kernel
theorem dX5_readInto_43 : decode cX5_readInto 43 = .ok (.ifCond .ne 18, 3) := by decide +kernel
theorem dX5_readInto_46 : decode cX5_readInto 46 = .ok (.aload_n 0, 1) := by decide +kernel
theorem dX5_readInto_47 : decode cX5_readInto 47 = .ok (.aload_n 1, 1) := by decide +kernel
theorem dX5_readInto_48 : decode cX5_readInto 48 = .ok (.invokevirtual 32, 3) := by decide +kernel
theorem dX5_readInto_51 : decode cX5_readInto 51 = .ok (.aload_n 0, 1) := by decide +kernel
theorem dX5_readInto_52 : decode cX5_readInto 52 = .ok (.invokevirtual 29, 3) := by decide +kernel
theorem dX5_readInto_55 : decode cX5_readInto 55 = .ok (.iinc 2 1, 3) := by decide +kernel
theorem dX5_readInto_58 : decode cX5_readInto 58 = .ok (.goto (-37), 3) := by decide +kernel
theorem dX5_readInto_61 : decode cX5_readInto 61 = .ok (.aload_n 0, 1) := by decide +kernel
theorem dX5_readInto_62 : decode cX5_readInto 62 = .ok (.iconst 0, 1) := by decide +kernel
theorem dX5_readInto_63 : decode cX5_readInto 63 = .ok (.putfield 19, 3) := by decide +kernel
theorem dX5_readInto_66 : decode cX5_readInto 66 = .ok (.aload_n 0, 1) := by decide +kernel
theorem dX5_readInto_67 : decode cX5_readInto 67 = .ok (.getfield 26, 3) := by decide +kernel
theorem dX5_readInto_70 : decode cX5_readInto 70 = .ok (.ireturn, 1) := by decide +kernel
theorem dX5_current_0 : decode cX5_current 0 = .ok (.aload_n 0, 1) := by decide +kernel
theorem dX5_current_1 : decode cX5_current 1 = .ok (.getfield 23, 3) := by decide +kernel
theorem dX5_current_4 : decode cX5_current 4 = .ok (.ifCond .lt 36, 3) := by decide +kernel
theorem dX5_current_7 : decode cX5_current 7 = .ok (.aload_n 0, 1) := by decide +kernel
theorem dX5_current_8 : decode cX5_current 8 = .ok (.getfield 23, 3) := by decide +kernel
theorem dX5_current_11 : decode cX5_current 11 = .ok (.aload_n 0, 1) := by decide +kernel
theorem dX5_current_12 : decode cX5_current 12 = .ok (.getfield 19, 3) := by decide +kernel
theorem dX5_current_15 : decode cX5_current 15 = .ok (.if_icmp .ge 25, 3) := by decide +kernel
theorem dX5_current_18 : decode cX5_current 18 = .ok (.aload_n 0, 1) := by decide +kernel
theorem dX5_current_19 : decode cX5_current 19 = .ok (.getfield 23, 3) := by decide +kernel
theorem dX5_current_22 : decode cX5_current 22 = .ok (.sipush 230, 3) := by decide +kernel
theorem dX5_current_25 : decode cX5_current 25 = .ok (.if_icmp .ge 15, 3) := by decide +kernel
theorem dX5_current_28 : decode cX5_current 28 = .ok (.aload_n 0, 1) := by decide +kernel
theorem dX5_current_29 : decode cX5_current 29 = .ok (.getfield 9, 3) := by decide +kernel
theorem dX5_current_32 : decode cX5_current 32 = .ok (.aload_n 0, 1) := by decide +kernel
theorem dX5_current_33 : decode cX5_current 33 = .ok (.getfield 23, 3) := by decide +kernel
theorem dX5_current_36 : decode cX5_current 36 = .ok (.iaload, 1) := by decide +kernel
theorem dX5_current_37 : decode cX5_current 37 = .ok (.goto 4, 3) := by decide +kernel
theorem dX5_current_40 : decode cX5_current 40 = .ok (.iconst (-1), 1) := by decide +kernel
theorem dX5_current_41 : decode cX5_current 41 = .ok (.ireturn, 1) := by decide +kernel
theorem dX5_skipBlanks_0 : decode cX5_skipBlanks 0 = .ok (.aload_n 0, 1) := by decide +kernel
theorem dX5_skipBlanks_1 : decode cX5_skipBlanks 1 = .ok (.getfield 23, 3) := by decide +kernel
theorem dX5_skipBlanks_4 : decode cX5_skipBlanks 4 = .ok (.aload_n 0, 1) := by decide +kernel
theorem dX5_skipBlanks_5 : decode cX5_skipBlanks 5 = .ok (.getfield 19, 3) := by decide +kernel
theorem dX5_skipBlanks_8 : decode cX5_skipBlanks 8 = .ok (.if_icmp .ge 25, 3) := by decide +kernel
theorem dX5_skipBlanks_11 : decode cX5_skipBlanks 11 = .ok (.aload_n 0, 1) := by decide +kernel
theorem dX5_skipBlanks_12 : decode cX5_skipBlanks 12 = .ok (.invokevirtual 36, 3) := by decide +kernel
theorem dX5_skipBlanks_15 : decode cX5_skipBlanks 15 = .ok (.bipush 32, 2) := by decide +kernel
theorem dX5_skipBlanks_17 : decode cX5_skipBlanks 17 = .ok (.if_icmp .ne 16, 3) := by decide +kernel
theorem dX5_skipBlanks_20 : decode cX5_skipBlanks 20 = .ok (.aload_n 0, 1) := by decide +kernel
theorem dX5_skipBlanks_21 : decode cX5_skipBlanks 21 = .ok (.dup, 1) := by decide +kernel
theorem dX5_skipBlanks_22 : decode cX5_skipBlanks 22 = .ok (.getfield 23, 3) := by decide +kernel
theorem dX5_skipBlanks_25 : decode cX5_skipBlanks 25 = .ok (.iconst 1, 1) := by decide +kernel
theorem dX5_skipBlanks_26 : decode cX5_skipBlanks 26 = .ok (.iadd, 1) := by decide +kernel
theorem dX5_skipBlanks_27 : decode cX5_skipBlanks 27 = .ok (.putfield 23, 3) := by decide +kernel
theorem dX5_skipBlanks_30 : decode cX5_skipBlanks 30 = .ok (.goto (-30), 3) := by decide +kernel
theorem dX5_skipBlanks_33 : decode cX5_skipBlanks 33 = .ok (.return_, 1) := by decide +kernel
theorem dX5_fail_0 : decode cX5_fail 0 = .ok (.aload_n 0, 1) := by decide +kernel
theorem dX5_fail_1 : decode cX5_fail 1 = .ok (.getfield 26, 3) := by decide +kernel
theorem dX5_fail_4 : decode cX5_fail 4 = .ok (.ifCond .ne 13, 3) := by decide +kernel
theorem dX5_fail_7 : decode cX5_fail 7 = .ok (.aload_n 0, 1) := by decide +kernel
theorem dX5_fail_8 : decode cX5_fail 8 = .ok (.iload_n 1, 1) := by decide +kernel
theorem dX5_fail_9 : decode cX5_fail 9 = .ok (.putfield 26, 3) := by decide +kernel
theorem dX5_fail_12 : decode cX5_fail 12 = .ok (.aload_n 0, 1) := by decide +kernel
theorem dX5_fail_13 : decode cX5_fail 13 = .ok (.iload_n 2, 1) := by decide +kernel
theorem dX5_fail_14 : decode cX5_fail 14 = .ok (.putfield 15, 3) := by decide +kernel
theorem dX5_fail_17 : decode cX5_fail 17 = .ok (.return_, 1) := by decide +kernel
theorem dX5_readClause_0 : decode cX5_readClause 0 = .ok (.aload_n 0, 1) := by decide +kernel
theorem dX5_readClause_1 : decode cX5_readClause 1 = .ok (.invokevirtual 36, 3) := by decide +kernel
theorem dX5_readClause_4 : decode cX5_readClause 4 = .ok (.istore_n 2, 1) := by decide +kernel
theorem dX5_readClause_5 : decode cX5_readClause 5 = .ok (.aload_n 1, 1) := by decide +kernel
theorem dX5_readClause_6 : decode cX5_readClause 6 = .ok (.iload_n 2, 1) := by decide +kernel
theorem dX5_readClause_7 : decode cX5_readClause 7 = .ok (.invokestatic 40, 3) := by decide +kernel
theorem dX5_readClause_10 : decode cX5_readClause 10 = .ok (.ifCond .ne 13, 3) := by decide +kernel
theorem dX5_readClause_13 : decode cX5_readClause 13 = .ok (.aload_n 0, 1) := by decide +kernel
theorem dX5_readClause_14 : decode cX5_readClause 14 = .ok (.iconst 1, 1) := by decide +kernel
theorem dX5_readClause_15 : decode cX5_readClause 15 = .ok (.aload_n 0, 1) := by decide +kernel
theorem dX5_readClause_16 : decode cX5_readClause 16 = .ok (.getfield 23, 3) := by decide +kernel
theorem dX5_readClause_19 : decode cX5_readClause 19 = .ok (.invokevirtual 44, 3) := by decide +kernel
theorem dX5_readClause_22 : decode cX5_readClause 22 = .ok (.return_, 1) := by decide +kernel
theorem dX5_readClause_23 : decode cX5_readClause 23 = .ok (.aload_n 1, 1) := by decide +kernel
theorem dX5_readClause_24 : decode cX5_readClause 24 = .ok (.iload_n 2, 1) := by decide +kernel
theorem dX5_readClause_25 : decode cX5_readClause 25 = .ok (.invokestatic 48, 3) := by decide +kernel
theorem dX5_readClause_28 : decode cX5_readClause 28 = .ok (.ifCond .eq 13, 3) := by decide +kernel
theorem dX5_readClause_31 : decode cX5_readClause 31 = .ok (.aload_n 0, 1) := by decide +kernel
theorem dX5_readClause_32 : decode cX5_readClause 32 = .ok (.iconst 3, 1) := by decide +kernel
theorem dX5_readClause_33 : decode cX5_readClause 33 = .ok (.aload_n 0, 1) := by decide +kernel
theorem dX5_readClause_34 : decode cX5_readClause 34 = .ok (.getfield 23, 3) := by decide +kernel
theorem dX5_readClause_37 : decode cX5_readClause 37 = .ok (.invokevirtual 44, 3) := by decide +kernel
theorem dX5_readClause_40 : decode cX5_readClause 40 = .ok (.return_, 1) := by decide +kernel
theorem dX5_readClause_41 : decode cX5_readClause 41 = .ok (.aload_n 0, 1) := by decide +kernel
theorem dX5_readClause_42 : decode cX5_readClause 42 = .ok (.dup, 1) := by decide +kernel
theorem dX5_readClause_43 : decode cX5_readClause 43 = .ok (.getfield 23, 3) := by decide +kernel
theorem dX5_readClause_46 : decode cX5_readClause 46 = .ok (.iconst 1, 1) := by decide +kernel
theorem dX5_readClause_47 : decode cX5_readClause 47 = .ok (.iadd, 1) := by decide +kernel
theorem dX5_readClause_48 : decode cX5_readClause 48 = .ok (.putfield 23, 3) := by decide +kernel
theorem dX5_readClause_51 : decode cX5_readClause 51 = .ok (.iload_n 2, 1) := by decide +kernel
theorem dX5_readClause_52 : decode cX5_readClause 52 = .ok (.lookupswitch 60 #[(100, 44), (104, 52), (118, 36)], 36) := by decide +kernel
theorem dX5_readClause_88 : decode cX5_readClause 88 = .ok (.aload_n 0, 1) := by decide +kernel
theorem dX5_readClause_89 : decode cX5_readClause 89 = .ok (.aload_n 1, 1) := by decide +kernel
theorem dX5_readClause_90 : decode cX5_readClause 90 = .ok (.invokevirtual 51, 3) := by decide +kernel
theorem dX5_readClause_93 : decode cX5_readClause 93 = .ok (.goto 24, 3) := by decide +kernel
theorem dX5_readClause_96 : decode cX5_readClause 96 = .ok (.aload_n 0, 1) := by decide +kernel
theorem dX5_readClause_97 : decode cX5_readClause 97 = .ok (.aload_n 1, 1) := by decide +kernel
theorem dX5_readClause_98 : decode cX5_readClause 98 = .ok (.invokevirtual 54, 3) := by decide +kernel
theorem dX5_readClause_101 : decode cX5_readClause 101 = .ok (.goto 16, 3) := by decide +kernel
theorem dX5_readClause_104 : decode cX5_readClause 104 = .ok (.aload_n 0, 1) := by decide +kernel
theorem dX5_readClause_105 : decode cX5_readClause 105 = .ok (.aload_n 1, 1) := by decide +kernel
theorem dX5_readClause_106 : decode cX5_readClause 106 = .ok (.invokevirtual 57, 3) := by decide +kernel
theorem dX5_readClause_109 : decode cX5_readClause 109 = .ok (.goto 8, 3) := by decide +kernel
theorem dX5_readClause_112 : decode cX5_readClause 112 = .ok (.aload_n 0, 1) := by decide +kernel
theorem dX5_readClause_113 : decode cX5_readClause 113 = .ok (.aload_n 1, 1) := by decide +kernel
theorem dX5_readClause_114 : decode cX5_readClause 114 = .ok (.invokevirtual 60, 3) := by decide +kernel
theorem dX5_readClause_117 : decode cX5_readClause 117 = .ok (.aload_n 0, 1) := by decide +kernel
theorem dX5_readClause_118 : decode cX5_readClause 118 = .ok (.bipush 59, 2) := by decide +kernel
theorem dX5_readClause_120 : decode cX5_readClause 120 = .ok (.invokevirtual 63, 3) := by decide +kernel
theorem dX5_readClause_123 : decode cX5_readClause 123 = .ok (.ifCond .ne 12, 3) := by decide +kernel
theorem dX5_readClause_126 : decode cX5_readClause 126 = .ok (.aload_n 0, 1) := by decide +kernel
theorem dX5_readClause_127 : decode cX5_readClause 127 = .ok (.iconst 1, 1) := by decide +kernel
theorem dX5_readClause_128 : decode cX5_readClause 128 = .ok (.aload_n 0, 1) := by decide +kernel
theorem dX5_readClause_129 : decode cX5_readClause 129 = .ok (.getfield 23, 3) := by decide +kernel
theorem dX5_readClause_132 : decode cX5_readClause 132 = .ok (.invokevirtual 44, 3) := by decide +kernel
theorem dX5_readClause_135 : decode cX5_readClause 135 = .ok (.return_, 1) := by decide +kernel
theorem dX5_mayStand_0 : decode cX5_mayStand 0 = .ok (.iload_n 1, 1) := by decide +kernel
theorem dX5_mayStand_1 : decode cX5_mayStand 1 = .ok (.bipush 118, 2) := by decide +kernel
theorem dX5_mayStand_3 : decode cX5_mayStand 3 = .ok (.if_icmp .eq 28, 3) := by decide +kernel
theorem dX5_mayStand_6 : decode cX5_mayStand 6 = .ok (.aload_n 0, 1) := by decide +kernel
theorem dX5_mayStand_7 : decode cX5_mayStand 7 = .ok (.getfield 67, 3) := by decide +kernel
theorem dX5_mayStand_10 : decode cX5_mayStand 10 = .ok (.ifCond .eq 25, 3) := by decide +kernel
theorem dX5_mayStand_13 : decode cX5_mayStand 13 = .ok (.iload_n 1, 1) := by decide +kernel
theorem dX5_mayStand_14 : decode cX5_mayStand 14 = .ok (.bipush 100, 2) := by decide +kernel
theorem dX5_mayStand_16 : decode cX5_mayStand 16 = .ok (.if_icmp .eq 15, 3) := by decide +kernel
theorem dX5_mayStand_19 : decode cX5_mayStand 19 = .ok (.iload_n 1, 1) := by decide +kernel
theorem dX5_mayStand_20 : decode cX5_mayStand 20 = .ok (.bipush 104, 2) := by decide +kernel
theorem dX5_mayStand_22 : decode cX5_mayStand 22 = .ok (.if_icmp .eq 9, 3) := by decide +kernel
theorem dX5_mayStand_25 : decode cX5_mayStand 25 = .ok (.iload_n 1, 1) := by decide +kernel
theorem dX5_mayStand_26 : decode cX5_mayStand 26 = .ok (.bipush 112, 2) := by decide +kernel
theorem dX5_mayStand_28 : decode cX5_mayStand 28 = .ok (.if_icmp .ne 7, 3) := by decide +kernel
theorem dX5_mayStand_31 : decode cX5_mayStand 31 = .ok (.iconst 1, 1) := by decide +kernel
theorem dX5_mayStand_32 : decode cX5_mayStand 32 = .ok (.goto 4, 3) := by decide +kernel
theorem dX5_mayStand_35 : decode cX5_mayStand 35 = .ok (.iconst 0, 1) := by decide +kernel
theorem dX5_mayStand_36 : decode cX5_mayStand 36 = .ok (.ireturn, 1) := by decide +kernel
theorem dX5_isTooMany_0 : decode cX5_isTooMany 0 = .ok (.iload_n 1, 1) := by decide +kernel
theorem dX5_isTooMany_1 : decode cX5_isTooMany 1 = .ok (.lookupswitch 67 #[(100, 40), (104, 53), (118, 35)], 35) := by decide +kernel
theorem dX5_isTooMany_36 : decode cX5_isTooMany 36 = .ok (.aload_n 0, 1) := by decide +kernel
theorem dX5_isTooMany_37 : decode cX5_isTooMany 37 = .ok (.getfield 67, 3) := by decide +kernel
theorem dX5_isTooMany_40 : decode cX5_isTooMany 40 = .ok (.ireturn, 1) := by decide +kernel
theorem dX5_isTooMany_41 : decode cX5_isTooMany 41 = .ok (.aload_n 0, 1) := by decide +kernel
theorem dX5_isTooMany_42 : decode cX5_isTooMany 42 = .ok (.getfield 73, 3) := by decide +kernel
theorem dX5_isTooMany_45 : decode cX5_isTooMany 45 = .ok (.ifCond .le 7, 3) := by decide +kernel
theorem dX5_isTooMany_48 : decode cX5_isTooMany 48 = .ok (.iconst 1, 1) := by decide +kernel
theorem dX5_isTooMany_49 : decode cX5_isTooMany 49 = .ok (.goto 4, 3) := by decide +kernel
theorem dX5_isTooMany_52 : decode cX5_isTooMany 52 = .ok (.iconst 0, 1) := by decide +kernel
theorem dX5_isTooMany_53 : decode cX5_isTooMany 53 = .ok (.ireturn, 1) := by decide +kernel
theorem dX5_isTooMany_54 : decode cX5_isTooMany 54 = .ok (.aload_n 0, 1) := by decide +kernel
theorem dX5_isTooMany_55 : decode cX5_isTooMany 55 = .ok (.getfield 76, 3) := by decide +kernel
theorem dX5_isTooMany_58 : decode cX5_isTooMany 58 = .ok (.iconst 4, 1) := by decide +kernel
theorem dX5_isTooMany_59 : decode cX5_isTooMany 59 = .ok (.if_icmp .lt 7, 3) := by decide +kernel
theorem dX5_isTooMany_62 : decode cX5_isTooMany 62 = .ok (.iconst 1, 1) := by decide +kernel
theorem dX5_isTooMany_63 : decode cX5_isTooMany 63 = .ok (.goto 4, 3) := by decide +kernel
theorem dX5_isTooMany_66 : decode cX5_isTooMany 66 = .ok (.iconst 0, 1) := by decide +kernel
theorem dX5_isTooMany_67 : decode cX5_isTooMany 67 = .ok (.ireturn, 1) := by decide +kernel
theorem dX5_isTooMany_68 : decode cX5_isTooMany 68 = .ok (.aload_n 0, 1) := by decide +kernel
theorem dX5_isTooMany_69 : decode cX5_isTooMany 69 = .ok (.getfield 79, 3) := by decide +kernel
theorem dX5_isTooMany_72 : decode cX5_isTooMany 72 = .ok (.iconst 4, 1) := by decide +kernel
theorem dX5_isTooMany_73 : decode cX5_isTooMany 73 = .ok (.if_icmp .lt 7, 3) := by decide +kernel
theorem dX5_isTooMany_76 : decode cX5_isTooMany 76 = .ok (.iconst 1, 1) := by decide +kernel
theorem dX5_isTooMany_77 : decode cX5_isTooMany 77 = .ok (.goto 4, 3) := by decide +kernel
theorem dX5_isTooMany_80 : decode cX5_isTooMany 80 = .ok (.iconst 0, 1) := by decide +kernel
theorem dX5_isTooMany_81 : decode cX5_isTooMany 81 = .ok (.ireturn, 1) := by decide +kernel
theorem dX5_readWeather_0 : decode cX5_readWeather 0 = .ok (.aload_n 1, 1) := by decide +kernel
theorem dX5_readWeather_1 : decode cX5_readWeather 1 = .ok (.aload_n 0, 1) := by decide +kernel
theorem dX5_readWeather_2 : decode cX5_readWeather 2 = .ok (.iconst 0, 1) := by decide +kernel
theorem dX5_readWeather_3 : decode cX5_readWeather 3 = .ok (.bipush 7, 2) := by decide +kernel
theorem dX5_readWeather_5 : decode cX5_readWeather 5 = .ok (.invokevirtual 82, 3) := by decide +kernel
theorem dX5_readWeather_8 : decode cX5_readWeather 8 = .ok (.putfield 86, 3) := by decide +kernel
theorem dX5_readWeather_11 : decode cX5_readWeather 11 = .ok (.aload_n 1, 1) := by decide +kernel
theorem dX5_readWeather_12 : decode cX5_readWeather 12 = .ok (.aload_n 0, 1) := by decide +kernel
theorem dX5_readWeather_13 : decode cX5_readWeather 13 = .ok (.iconst 0, 1) := by decide +kernel
theorem dX5_readWeather_14 : decode cX5_readWeather 14 = .ok (.bipush 9, 2) := by decide +kernel
theorem dX5_readWeather_16 : decode cX5_readWeather 16 = .ok (.invokevirtual 82, 3) := by decide +kernel
theorem dX5_readWeather_19 : decode cX5_readWeather 19 = .ok (.putfield 89, 3) := by decide +kernel
theorem dX5_readWeather_22 : decode cX5_readWeather 22 = .ok (.aload_n 1, 1) := by decide +kernel
theorem dX5_readWeather_23 : decode cX5_readWeather 23 = .ok (.aload_n 0, 1) := by decide +kernel
theorem dX5_readWeather_24 : decode cX5_readWeather 24 = .ok (.iconst 0, 1) := by decide +kernel
theorem dX5_readWeather_25 : decode cX5_readWeather 25 = .ok (.bipush 12, 2) := by decide +kernel
theorem dX5_readWeather_27 : decode cX5_readWeather 27 = .ok (.invokevirtual 82, 3) := by decide +kernel
theorem dX5_readWeather_30 : decode cX5_readWeather 30 = .ok (.putfield 92, 3) := by decide +kernel
theorem dX5_readWeather_33 : decode cX5_readWeather 33 = .ok (.aload_n 1, 1) := by decide +kernel
theorem dX5_readWeather_34 : decode cX5_readWeather 34 = .ok (.iconst 1, 1) := by decide +kernel
theorem dX5_readWeather_35 : decode cX5_readWeather 35 = .ok (.putfield 67, 3) := by decide +kernel
theorem dX5_readWeather_38 : decode cX5_readWeather 38 = .ok (.return_, 1) := by decide +kernel
theorem dX5_readRains_0 : decode cX5_readRains 0 = .ok (.iconst 0, 1) := by decide +kernel
theorem dX5_readRains_1 : decode cX5_readRains 1 = .ok (.istore_n 2, 1) := by decide +kernel
theorem dX5_readRains_2 : decode cX5_readRains 2 = .ok (.iconst 1, 1) := by decide +kernel
theorem dX5_readRains_3 : decode cX5_readRains 3 = .ok (.istore_n 3, 1) := by decide +kernel
theorem dX5_readRains_4 : decode cX5_readRains 4 = .ok (.iload_n 3, 1) := by decide +kernel
theorem dX5_readRains_5 : decode cX5_readRains 5 = .ok (.ifCond .eq 49, 3) := by decide +kernel
theorem dX5_readRains_8 : decode cX5_readRains 8 = .ok (.iload_n 2, 1) := by decide +kernel
theorem dX5_readRains_9 : decode cX5_readRains 9 = .ok (.bipush 8, 2) := by decide +kernel
theorem dX5_readRains_11 : decode cX5_readRains 11 = .ok (.if_icmp .ge 43, 3) := by decide +kernel
theorem dX5_readRains_14 : decode cX5_readRains 14 = .ok (.aload_n 1, 1) := by decide +kernel
theorem dX5_readRains_15 : decode cX5_readRains 15 = .ok (.getfield 95, 3) := by decide +kernel
theorem dX5_readRains_18 : decode cX5_readRains 18 = .ok (.iload_n 2, 1) := by decide +kernel
theorem dX5_readRains_19 : decode cX5_readRains 19 = .ok (.aload_n 0, 1) := by decide +kernel
theorem dX5_readRains_20 : decode cX5_readRains 20 = .ok (.iconst 0, 1) := by decide +kernel
theorem dX5_readRains_21 : decode cX5_readRains 21 = .ok (.bipush 9, 2) := by decide +kernel
theorem dX5_readRains_23 : decode cX5_readRains 23 = .ok (.invokevirtual 82, 3) := by decide +kernel
theorem dX5_readRains_26 : decode cX5_readRains 26 = .ok (.iastore, 1) := by decide +kernel
theorem dX5_readRains_27 : decode cX5_readRains 27 = .ok (.iinc 2 1, 3) := by decide +kernel
theorem dX5_readRains_30 : decode cX5_readRains 30 = .ok (.iload_n 2, 1) := by decide +kernel
theorem dX5_readRains_31 : decode cX5_readRains 31 = .ok (.bipush 8, 2) := by decide +kernel
theorem dX5_readRains_33 : decode cX5_readRains 33 = .ok (.if_icmp .ge 16, 3) := by decide +kernel
theorem dX5_readRains_36 : decode cX5_readRains 36 = .ok (.aload_n 0, 1) := by decide +kernel
theorem dX5_readRains_37 : decode cX5_readRains 37 = .ok (.bipush 44, 2) := by decide +kernel
theorem dX5_readRains_39 : decode cX5_readRains 39 = .ok (.invokevirtual 63, 3) := by decide +kernel
theorem dX5_readRains_42 : decode cX5_readRains 42 = .ok (.ifCond .eq 7, 3) := by decide +kernel
theorem dX5_readRains_45 : decode cX5_readRains 45 = .ok (.iconst 1, 1) := by decide +kernel
theorem dX5_readRains_46 : decode cX5_readRains 46 = .ok (.goto 4, 3) := by decide +kernel
theorem dX5_readRains_49 : decode cX5_readRains 49 = .ok (.iconst 0, 1) := by decide +kernel
theorem dX5_readRains_50 : decode cX5_readRains 50 = .ok (.istore_n 3, 1) := by decide +kernel
theorem dX5_readRains_51 : decode cX5_readRains 51 = .ok (.goto (-47), 3) := by decide +kernel
theorem dX5_readRains_54 : decode cX5_readRains 54 = .ok (.aload_n 1, 1) := by decide +kernel
theorem dX5_readRains_55 : decode cX5_readRains 55 = .ok (.iload_n 2, 1) := by decide +kernel
theorem dX5_readRains_56 : decode cX5_readRains 56 = .ok (.putfield 73, 3) := by decide +kernel
theorem dX5_readRains_59 : decode cX5_readRains 59 = .ok (.return_, 1) := by decide +kernel
theorem dX5_readHand_0 : decode cX5_readHand 0 = .ok (.aload_n 1, 1) := by decide +kernel
theorem dX5_readHand_1 : decode cX5_readHand 1 = .ok (.getfield 76, 3) := by decide +kernel
theorem dX5_readHand_4 : decode cX5_readHand 4 = .ok (.istore_n 2, 1) := by decide +kernel
theorem dX5_readHand_5 : decode cX5_readHand 5 = .ok (.iload_n 2, 1) := by decide +kernel
theorem dX5_readHand_6 : decode cX5_readHand 6 = .ok (.ifCond .lt 8, 3) := by decide +kernel
theorem dX5_readHand_9 : decode cX5_readHand 9 = .ok (.iload_n 2, 1) := by decide +kernel
theorem dX5_readHand_10 : decode cX5_readHand 10 = .ok (.iconst 4, 1) := by decide +kernel
theorem dX5_readHand_11 : decode cX5_readHand 11 = .ok (.if_icmp .lt 4, 3) := by decide +kernel
theorem dX5_readHand_14 : decode cX5_readHand 14 = .ok (.return_, 1) := by decide +kernel
theorem dX5_readHand_15 : decode cX5_readHand 15 = .ok (.aload_n 1, 1) := by decide +kernel
theorem dX5_readHand_16 : decode cX5_readHand 16 = .ok (.getfield 98, 3) := by decide +kernel
theorem dX5_readHand_19 : decode cX5_readHand 19 = .ok (.iload_n 2, 1) := by decide +kernel
theorem dX5_readHand_20 : decode cX5_readHand 20 = .ok (.aload_n 0, 1) := by decide +kernel
theorem dX5_readHand_21 : decode cX5_readHand 21 = .ok (.iconst 0, 1) := by decide +kernel
theorem dX5_readHand_22 : decode cX5_readHand 22 = .ok (.bipush 8, 2) := by decide +kernel
theorem dX5_readHand_24 : decode cX5_readHand 24 = .ok (.invokevirtual 82, 3) := by decide +kernel
theorem dX5_readHand_27 : decode cX5_readHand 27 = .ok (.iastore, 1) := by decide +kernel
theorem dX5_readHand_28 : decode cX5_readHand 28 = .ok (.aload_n 1, 1) := by decide +kernel
theorem dX5_readHand_29 : decode cX5_readHand 29 = .ok (.getfield 101, 3) := by decide +kernel
theorem dX5_readHand_32 : decode cX5_readHand 32 = .ok (.iload_n 2, 1) := by decide +kernel
theorem dX5_readHand_33 : decode cX5_readHand 33 = .ok (.aload_n 0, 1) := by decide +kernel
theorem dX5_readHand_34 : decode cX5_readHand 34 = .ok (.iconst 0, 1) := by decide +kernel
theorem dX5_readHand_35 : decode cX5_readHand 35 = .ok (.bipush 8, 2) := by decide +kernel
theorem dX5_readHand_37 : decode cX5_readHand 37 = .ok (.invokevirtual 82, 3) := by decide +kernel
theorem dX5_readHand_40 : decode cX5_readHand 40 = .ok (.iastore, 1) := by decide +kernel
theorem dX5_readHand_41 : decode cX5_readHand 41 = .ok (.aload_n 1, 1) := by decide +kernel
theorem dX5_readHand_42 : decode cX5_readHand 42 = .ok (.getfield 104, 3) := by decide +kernel
theorem dX5_readHand_45 : decode cX5_readHand 45 = .ok (.iload_n 2, 1) := by decide +kernel
theorem dX5_readHand_46 : decode cX5_readHand 46 = .ok (.aload_n 0, 1) := by decide +kernel
theorem dX5_readHand_47 : decode cX5_readHand 47 = .ok (.iconst 0, 1) := by decide +kernel
theorem dX5_readHand_48 : decode cX5_readHand 48 = .ok (.bipush 8, 2) := by decide +kernel
theorem dX5_readHand_50 : decode cX5_readHand 50 = .ok (.invokevirtual 82, 3) := by decide +kernel
theorem dX5_readHand_53 : decode cX5_readHand 53 = .ok (.iastore, 1) := by decide +kernel
theorem dX5_readHand_54 : decode cX5_readHand 54 = .ok (.aload_n 1, 1) := by decide +kernel
theorem dX5_readHand_55 : decode cX5_readHand 55 = .ok (.iload_n 2, 1) := by decide +kernel
theorem dX5_readHand_56 : decode cX5_readHand 56 = .ok (.iconst 1, 1) := by decide +kernel
theorem dX5_readHand_57 : decode cX5_readHand 57 = .ok (.iadd, 1) := by decide +kernel
theorem dX5_readHand_58 : decode cX5_readHand 58 = .ok (.putfield 76, 3) := by decide +kernel
theorem dX5_readHand_61 : decode cX5_readHand 61 = .ok (.return_, 1) := by decide +kernel
theorem dX5_readPaper_0 : decode cX5_readPaper 0 = .ok (.aload_n 1, 1) := by decide +kernel
theorem dX5_readPaper_1 : decode cX5_readPaper 1 = .ok (.getfield 79, 3) := by decide +kernel
theorem dX5_readPaper_4 : decode cX5_readPaper 4 = .ok (.istore_n 2, 1) := by decide +kernel
theorem dX5_readPaper_5 : decode cX5_readPaper 5 = .ok (.iload_n 2, 1) := by decide +kernel
theorem dX5_readPaper_6 : decode cX5_readPaper 6 = .ok (.ifCond .lt 8, 3) := by decide +kernel
theorem dX5_readPaper_9 : decode cX5_readPaper 9 = .ok (.iload_n 2, 1) := by decide +kernel
theorem dX5_readPaper_10 : decode cX5_readPaper 10 = .ok (.iconst 4, 1) := by decide +kernel
theorem dX5_readPaper_11 : decode cX5_readPaper 11 = .ok (.if_icmp .lt 4, 3) := by decide +kernel
theorem dX5_readPaper_14 : decode cX5_readPaper 14 = .ok (.return_, 1) := by decide +kernel
theorem dX5_readPaper_15 : decode cX5_readPaper 15 = .ok (.aload_n 1, 1) := by decide +kernel
theorem dX5_readPaper_16 : decode cX5_readPaper 16 = .ok (.getfield 107, 3) := by decide +kernel
theorem dX5_readPaper_19 : decode cX5_readPaper 19 = .ok (.iload_n 2, 1) := by decide +kernel
theorem dX5_readPaper_20 : decode cX5_readPaper 20 = .ok (.aload_n 0, 1) := by decide +kernel
theorem dX5_readPaper_21 : decode cX5_readPaper 21 = .ok (.iconst 0, 1) := by decide +kernel
theorem dX5_readPaper_22 : decode cX5_readPaper 22 = .ok (.aload_n 1, 1) := by decide +kernel
theorem dX5_readPaper_23 : decode cX5_readPaper 23 = .ok (.getfield 76, 3) := by decide +kernel
theorem dX5_readPaper_26 : decode cX5_readPaper 26 = .ok (.iconst 1, 1) := by decide +kernel
theorem dX5_readPaper_27 : decode cX5_readPaper 27 = .ok (.isub, 1) := by decide +kernel
theorem dX5_readPaper_28 : decode cX5_readPaper 28 = .ok (.invokevirtual 82, 3) := by decide +kernel
theorem dX5_readPaper_31 : decode cX5_readPaper 31 = .ok (.iastore, 1) := by decide +kernel
theorem dX5_readPaper_32 : decode cX5_readPaper 32 = .ok (.aload_n 1, 1) := by decide +kernel
theorem dX5_readPaper_33 : decode cX5_readPaper 33 = .ok (.getfield 110, 3) := by decide +kernel
theorem dX5_readPaper_36 : decode cX5_readPaper 36 = .ok (.iload_n 2, 1) := by decide +kernel
theorem dX5_readPaper_37 : decode cX5_readPaper 37 = .ok (.aload_n 0, 1) := by decide +kernel
theorem dX5_readPaper_38 : decode cX5_readPaper 38 = .ok (.iconst 0, 1) := by decide +kernel
theorem dX5_readPaper_39 : decode cX5_readPaper 39 = .ok (.bipush 95, 2) := by decide +kernel
theorem dX5_readPaper_41 : decode cX5_readPaper 41 = .ok (.invokevirtual 82, 3) := by decide +kernel
theorem dX5_readPaper_44 : decode cX5_readPaper 44 = .ok (.iastore, 1) := by decide +kernel
theorem dX5_readPaper_45 : decode cX5_readPaper 45 = .ok (.aload_n 1, 1) := by decide +kernel
theorem dX5_readPaper_46 : decode cX5_readPaper 46 = .ok (.getfield 113, 3) := by decide +kernel
theorem dX5_readPaper_49 : decode cX5_readPaper 49 = .ok (.iload_n 2, 1) := by decide +kernel
theorem dX5_readPaper_50 : decode cX5_readPaper 50 = .ok (.aload_n 0, 1) := by decide +kernel
theorem dX5_readPaper_51 : decode cX5_readPaper 51 = .ok (.iconst 1, 1) := by decide +kernel
theorem dX5_readPaper_52 : decode cX5_readPaper 52 = .ok (.bipush 12, 2) := by decide +kernel
theorem dX5_readPaper_54 : decode cX5_readPaper 54 = .ok (.invokevirtual 82, 3) := by decide +kernel
theorem dX5_readPaper_57 : decode cX5_readPaper 57 = .ok (.iastore, 1) := by decide +kernel
theorem dX5_readPaper_58 : decode cX5_readPaper 58 = .ok (.aload_n 1, 1) := by decide +kernel
theorem dX5_readPaper_59 : decode cX5_readPaper 59 = .ok (.iload_n 2, 1) := by decide +kernel
theorem dX5_readPaper_60 : decode cX5_readPaper 60 = .ok (.iconst 1, 1) := by decide +kernel
theorem dX5_readPaper_61 : decode cX5_readPaper 61 = .ok (.iadd, 1) := by decide +kernel
theorem dX5_readPaper_62 : decode cX5_readPaper 62 = .ok (.putfield 79, 3) := by decide +kernel
theorem dX5_readPaper_65 : decode cX5_readPaper 65 = .ok (.return_, 1) := by decide +kernel
theorem dX5_readNumber_0 : decode cX5_readNumber 0 = .ok (.aload_n 0, 1) := by decide +kernel
theorem dX5_readNumber_1 : decode cX5_readNumber 1 = .ok (.getfield 26, 3) := by decide +kernel
theorem dX5_readNumber_4 : decode cX5_readNumber 4 = .ok (.ifCond .eq 5, 3) := by decide +kernel
theorem dX5_readNumber_7 : decode cX5_readNumber 7 = .ok (.iload_n 1, 1) := by decide +kernel
theorem dX5_readNumber_8 : decode cX5_readNumber 8 = .ok (.ireturn, 1) := by decide +kernel
theorem dX5_readNumber_9 : decode cX5_readNumber 9 = .ok (.aload_n 0, 1) := by decide +kernel
theorem dX5_readNumber_10 : decode cX5_readNumber 10 = .ok (.invokevirtual 29, 3) := by decide +kernel
theorem dX5_readNumber_13 : decode cX5_readNumber 13 = .ok (.aload_n 0, 1) := by decide +kernel
theorem dX5_readNumber_14 : decode cX5_readNumber 14 = .ok (.getfield 23, 3) := by decide +kernel
theorem dX5_readNumber_17 : decode cX5_readNumber 17 = .ok (.istore_n 3, 1) := by decide +kernel
theorem dX5_readNumber_18 : decode cX5_readNumber 18 = .ok (.iconst 0, 1) := by decide +kernel
theorem dX5_readNumber_19 : decode cX5_readNumber 19 = .ok (.istore 4, 2) := by decide +kernel
theorem dX5_readNumber_21 : decode cX5_readNumber 21 = .ok (.aload_n 0, 1) := by decide +kernel
theorem dX5_readNumber_22 : decode cX5_readNumber 22 = .ok (.getfield 23, 3) := by decide +kernel
theorem dX5_readNumber_25 : decode cX5_readNumber 25 = .ok (.aload_n 0, 1) := by decide +kernel
theorem dX5_readNumber_26 : decode cX5_readNumber 26 = .ok (.getfield 19, 3) := by decide +kernel
theorem dX5_readNumber_29 : decode cX5_readNumber 29 = .ok (.if_icmp .ge 56, 3) := by decide +kernel
theorem dX5_readNumber_32 : decode cX5_readNumber 32 = .ok (.aload_n 0, 1) := by decide +kernel
theorem dX5_readNumber_33 : decode cX5_readNumber 33 = .ok (.invokevirtual 36, 3) := by decide +kernel
theorem dX5_readNumber_36 : decode cX5_readNumber 36 = .ok (.invokestatic 116, 3) := by decide +kernel
theorem dX5_readNumber_39 : decode cX5_readNumber 39 = .ok (.ifCond .eq 46, 3) := by decide +kernel
theorem dX5_readNumber_42 : decode cX5_readNumber 42 = .ok (.aload_n 0, 1) := by decide +kernel
theorem dX5_readNumber_43 : decode cX5_readNumber 43 = .ok (.getfield 23, 3) := by decide +kernel
theorem dX5_readNumber_46 : decode cX5_readNumber 46 = .ok (.iload_n 3, 1) := by decide +kernel
theorem dX5_readNumber_47 : decode cX5_readNumber 47 = .ok (.isub, 1) := by decide +kernel
theorem dX5_readNumber_48 : decode cX5_readNumber 48 = .ok (.iconst 3, 1) := by decide +kernel
theorem dX5_readNumber_49 : decode cX5_readNumber 49 = .ok (.if_icmp .ge 19, 3) := by decide +kernel
theorem dX5_readNumber_52 : decode cX5_readNumber 52 = .ok (.iload 4, 2) := by decide +kernel
theorem dX5_readNumber_54 : decode cX5_readNumber 54 = .ok (.bipush 10, 2) := by decide +kernel
theorem dX5_readNumber_56 : decode cX5_readNumber 56 = .ok (.imul, 1) := by decide +kernel
theorem dX5_readNumber_57 : decode cX5_readNumber 57 = .ok (.aload_n 0, 1) := by decide +kernel
theorem dX5_readNumber_58 : decode cX5_readNumber 58 = .ok (.invokevirtual 36, 3) := by decide +kernel
theorem dX5_readNumber_61 : decode cX5_readNumber 61 = .ok (.iadd, 1) := by decide +kernel
theorem dX5_readNumber_62 : decode cX5_readNumber 62 = .ok (.bipush 48, 2) := by decide +kernel
theorem dX5_readNumber_64 : decode cX5_readNumber 64 = .ok (.isub, 1) := by decide +kernel
theorem dX5_readNumber_65 : decode cX5_readNumber 65 = .ok (.goto 5, 3) := by decide +kernel
theorem dX5_readNumber_68 : decode cX5_readNumber 68 = .ok (.iload 4, 2) := by decide +kernel
theorem dX5_readNumber_70 : decode cX5_readNumber 70 = .ok (.istore 4, 2) := by decide +kernel
theorem dX5_readNumber_72 : decode cX5_readNumber 72 = .ok (.aload_n 0, 1) := by decide +kernel
theorem dX5_readNumber_73 : decode cX5_readNumber 73 = .ok (.dup, 1) := by decide +kernel
theorem dX5_readNumber_74 : decode cX5_readNumber 74 = .ok (.getfield 23, 3) := by decide +kernel
theorem dX5_readNumber_77 : decode cX5_readNumber 77 = .ok (.iconst 1, 1) := by decide +kernel
theorem dX5_readNumber_78 : decode cX5_readNumber 78 = .ok (.iadd, 1) := by decide +kernel
theorem dX5_readNumber_79 : decode cX5_readNumber 79 = .ok (.putfield 23, 3) := by decide +kernel
theorem dX5_readNumber_82 : decode cX5_readNumber 82 = .ok (.goto (-61), 3) := by decide +kernel
theorem dX5_readNumber_85 : decode cX5_readNumber 85 = .ok (.aload_n 0, 1) := by decide +kernel
theorem dX5_readNumber_86 : decode cX5_readNumber 86 = .ok (.getfield 23, 3) := by decide +kernel
theorem dX5_readNumber_89 : decode cX5_readNumber 89 = .ok (.iload_n 3, 1) := by decide +kernel
theorem dX5_readNumber_90 : decode cX5_readNumber 90 = .ok (.if_icmp .ne 12, 3) := by decide +kernel
theorem dX5_readNumber_93 : decode cX5_readNumber 93 = .ok (.aload_n 0, 1) := by decide +kernel
theorem dX5_readNumber_94 : decode cX5_readNumber 94 = .ok (.iconst 1, 1) := by decide +kernel
theorem dX5_readNumber_95 : decode cX5_readNumber 95 = .ok (.iload_n 3, 1) := by decide +kernel
theorem dX5_readNumber_96 : decode cX5_readNumber 96 = .ok (.invokevirtual 44, 3) := by decide +kernel
theorem dX5_readNumber_99 : decode cX5_readNumber 99 = .ok (.goto 31, 3) := by decide +kernel
theorem dX5_readNumber_102 : decode cX5_readNumber 102 = .ok (.aload_n 0, 1) := by decide +kernel
theorem dX5_readNumber_103 : decode cX5_readNumber 103 = .ok (.getfield 23, 3) := by decide +kernel
theorem dX5_readNumber_106 : decode cX5_readNumber 106 = .ok (.iload_n 3, 1) := by decide +kernel
theorem dX5_readNumber_107 : decode cX5_readNumber 107 = .ok (.isub, 1) := by decide +kernel
theorem dX5_readNumber_108 : decode cX5_readNumber 108 = .ok (.iconst 3, 1) := by decide +kernel
theorem dX5_readNumber_109 : decode cX5_readNumber 109 = .ok (.if_icmp .gt 15, 3) := by decide +kernel
theorem dX5_readNumber_112 : decode cX5_readNumber 112 = .ok (.iload 4, 2) := by decide +kernel
theorem dX5_readNumber_114 : decode cX5_readNumber 114 = .ok (.iload_n 1, 1) := by decide +kernel
theorem dX5_readNumber_115 : decode cX5_readNumber 115 = .ok (.if_icmp .lt 9, 3) := by decide +kernel
theorem dX5_readNumber_118 : decode cX5_readNumber 118 = .ok (.iload 4, 2) := by decide +kernel
theorem dX5_readNumber_120 : decode cX5_readNumber 120 = .ok (.iload_n 2, 1) := by decide +kernel
theorem dX5_readNumber_121 : decode cX5_readNumber 121 = .ok (.if_icmp .le 9, 3) := by decide +kernel
theorem dX5_readNumber_124 : decode cX5_readNumber 124 = .ok (.aload_n 0, 1) := by decide +kernel
theorem dX5_readNumber_125 : decode cX5_readNumber 125 = .ok (.iconst 2, 1) := by decide +kernel
theorem dX5_readNumber_126 : decode cX5_readNumber 126 = .ok (.iload_n 3, 1) := by decide +kernel
theorem dX5_readNumber_127 : decode cX5_readNumber 127 = .ok (.invokevirtual 44, 3) := by decide +kernel
theorem dX5_readNumber_130 : decode cX5_readNumber 130 = .ok (.iload 4, 2) := by decide +kernel
theorem dX5_readNumber_132 : decode cX5_readNumber 132 = .ok (.ireturn, 1) := by decide +kernel
theorem dX5_isFigure_0 : decode cX5_isFigure 0 = .ok (.iload_n 0, 1) := by decide +kernel
theorem dX5_isFigure_1 : decode cX5_isFigure 1 = .ok (.bipush 48, 2) := by decide +kernel
theorem dX5_isFigure_3 : decode cX5_isFigure 3 = .ok (.if_icmp .lt 13, 3) := by decide +kernel
theorem dX5_isFigure_6 : decode cX5_isFigure 6 = .ok (.iload_n 0, 1) := by decide +kernel
theorem dX5_isFigure_7 : decode cX5_isFigure 7 = .ok (.bipush 57, 2) := by decide +kernel
theorem dX5_isFigure_9 : decode cX5_isFigure 9 = .ok (.if_icmp .gt 7, 3) := by decide +kernel
theorem dX5_isFigure_12 : decode cX5_isFigure 12 = .ok (.iconst 1, 1) := by decide +kernel
theorem dX5_isFigure_13 : decode cX5_isFigure 13 = .ok (.goto 4, 3) := by decide +kernel
theorem dX5_isFigure_16 : decode cX5_isFigure 16 = .ok (.iconst 0, 1) := by decide +kernel
theorem dX5_isFigure_17 : decode cX5_isFigure 17 = .ok (.ireturn, 1) := by decide +kernel
theorem dX5_takeIf_0 : decode cX5_takeIf 0 = .ok (.aload_n 0, 1) := by decide +kernel
theorem dX5_takeIf_1 : decode cX5_takeIf 1 = .ok (.getfield 26, 3) := by decide +kernel
theorem dX5_takeIf_4 : decode cX5_takeIf 4 = .ok (.ifCond .eq 5, 3) := by decide +kernel
theorem dX5_takeIf_7 : decode cX5_takeIf 7 = .ok (.iconst 0, 1) := by decide +kernel
theorem dX5_takeIf_8 : decode cX5_takeIf 8 = .ok (.ireturn, 1) := by decide +kernel
theorem dX5_takeIf_9 : decode cX5_takeIf 9 = .ok (.aload_n 0, 1) := by decide +kernel
theorem dX5_takeIf_10 : decode cX5_takeIf 10 = .ok (.invokevirtual 29, 3) := by decide +kernel
theorem dX5_takeIf_13 : decode cX5_takeIf 13 = .ok (.aload_n 0, 1) := by decide +kernel
theorem dX5_takeIf_14 : decode cX5_takeIf 14 = .ok (.invokevirtual 36, 3) := by decide +kernel
theorem dX5_takeIf_17 : decode cX5_takeIf 17 = .ok (.iload_n 1, 1) := by decide +kernel
theorem dX5_takeIf_18 : decode cX5_takeIf 18 = .ok (.if_icmp .eq 5, 3) := by decide +kernel
theorem dX5_takeIf_21 : decode cX5_takeIf 21 = .ok (.iconst 0, 1) := by decide +kernel
theorem dX5_takeIf_22 : decode cX5_takeIf 22 = .ok (.ireturn, 1) := by decide +kernel
theorem dX5_takeIf_23 : decode cX5_takeIf 23 = .ok (.aload_n 0, 1) := by decide +kernel
theorem dX5_takeIf_24 : decode cX5_takeIf 24 = .ok (.dup, 1) := by decide +kernel
theorem dX5_takeIf_25 : decode cX5_takeIf 25 = .ok (.getfield 23, 3) := by decide +kernel
theorem dX5_takeIf_28 : decode cX5_takeIf 28 = .ok (.iconst 1, 1) := by decide +kernel
theorem dX5_takeIf_29 : decode cX5_takeIf 29 = .ok (.iadd, 1) := by decide +kernel
theorem dX5_takeIf_30 : decode cX5_takeIf 30 = .ok (.putfield 23, 3) := by decide +kernel
theorem dX5_takeIf_33 : decode cX5_takeIf 33 = .ok (.iconst 1, 1) := by decide +kernel
theorem dX5_takeIf_34 : decode cX5_takeIf 34 = .ok (.ireturn, 1) := by decide +kernel
theorem dX6_init_0 : decode cX6_init 0 = .ok (.aload_n 0, 1) := by decide +kernel
theorem dX6_init_1 : decode cX6_init 1 = .ok (.invokespecial 3, 3) := by decide +kernel
theorem dX6_init_4 : decode cX6_init 4 = .ok (.aload_n 0, 1) := by decide +kernel
theorem dX6_init_5 : decode cX6_init 5 = .ok (.bipush 8, 2) := by decide +kernel
theorem dX6_init_7 : decode cX6_init 7 = .ok (.newarray .int, 2) := by decide +kernel
theorem dX6_init_9 : decode cX6_init 9 = .ok (.putfield 9, 3) := by decide +kernel
theorem dX6_init_12 : decode cX6_init 12 = .ok (.aload_n 0, 1) := by decide +kernel
theorem dX6_init_13 : decode cX6_init 13 = .ok (.iconst 4, 1) := by decide +kernel
theorem dX6_init_14 : decode cX6_init 14 = .ok (.newarray .int, 2) := by decide +kernel
theorem dX6_init_16 : decode cX6_init 16 = .ok (.putfield 15, 3) := by decide +kernel
theorem dX6_init_19 : decode cX6_init 19 = .ok (.aload_n 0, 1) := by decide +kernel
theorem dX6_init_20 : decode cX6_init 20 = .ok (.iconst 4, 1) := by decide +kernel
theorem dX6_init_21 : decode cX6_init 21 = .ok (.newarray .int, 2) := by decide +kernel
theorem dX6_init_23 : decode cX6_init 23 = .ok (.putfield 18, 3) := by decide +kernel
theorem dX6_init_26 : decode cX6_init 26 = .ok (.aload_n 0, 1) := by decide +kernel
theorem dX6_init_27 : decode cX6_init 27 = .ok (.iconst 4, 1) := by decide +kernel
theorem dX6_init_28 : decode cX6_init 28 = .ok (.newarray .int, 2) := by decide +kernel
theorem dX6_init_30 : decode cX6_init 30 = .ok (.putfield 21, 3) := by decide +kernel
theorem dX6_init_33 : decode cX6_init 33 = .ok (.aload_n 0, 1) := by decide +kernel
theorem dX6_init_34 : decode cX6_init 34 = .ok (.iconst 4, 1) := by decide +kernel
theorem dX6_init_35 : decode cX6_init 35 = .ok (.newarray .int, 2) := by decide +kernel
theorem dX6_init_37 : decode cX6_init 37 = .ok (.putfield 24, 3) := by decide +kernel
theorem dX6_init_40 : decode cX6_init 40 = .ok (.aload_n 0, 1) := by decide +kernel
theorem dX6_init_41 : decode cX6_init 41 = .ok (.iconst 4, 1) := by decide +kernel
theorem dX6_init_42 : decode cX6_init 42 = .ok (.newarray .int, 2) := by decide +kernel
theorem dX6_init_44 : decode cX6_init 44 = .ok (.putfield 27, 3) := by decide +kernel
theorem dX6_init_47 : decode cX6_init 47 = .ok (.aload_n 0, 1) := by decide +kernel
theorem dX6_init_48 : decode cX6_init 48 = .ok (.iconst 4, 1) := by decide +kernel
theorem dX6_init_49 : decode cX6_init 49 = .ok (.newarray .int, 2) := by decide +kernel
theorem dX6_init_51 : decode cX6_init 51 = .ok (.putfield 30, 3) := by decide +kernel
theorem dX6_init_54 : decode cX6_init 54 = .ok (.aload_n 0, 1) := by decide +kernel
theorem dX6_init_55 : decode cX6_init 55 = .ok (.sipush 384, 3) := by decide +kernel
theorem dX6_init_58 : decode cX6_init 58 = .ok (.newarray .int, 2) := by decide +kernel
theorem dX6_init_60 : decode cX6_init 60 = .ok (.putfield 33, 3) := by decide +kernel
theorem dX6_init_63 : decode cX6_init 63 = .ok (.return_, 1) := by decide +kernel
theorem dX6_clear_0 : decode cX6_clear 0 = .ok (.aload_n 0, 1) := by decide +kernel
theorem dX6_clear_1 : decode cX6_clear 1 = .ok (.iconst 0, 1) := by decide +kernel
theorem dX6_clear_2 : decode cX6_clear 2 = .ok (.putfield 36, 3) := by decide +kernel
theorem dX6_clear_5 : decode cX6_clear 5 = .ok (.aload_n 0, 1) := by decide +kernel
theorem dX6_clear_6 : decode cX6_clear 6 = .ok (.iconst 0, 1) := by decide +kernel
theorem dX6_clear_7 : decode cX6_clear 7 = .ok (.putfield 40, 3) := by decide +kernel
theorem dX6_clear_10 : decode cX6_clear 10 = .ok (.aload_n 0, 1) := by decide +kernel
theorem dX6_clear_11 : decode cX6_clear 11 = .ok (.iconst 0, 1) := by decide +kernel
theorem dX6_clear_12 : decode cX6_clear 12 = .ok (.putfield 44, 3) := by decide +kernel
theorem dX6_clear_15 : decode cX6_clear 15 = .ok (.aload_n 0, 1) := by decide +kernel
theorem dX6_clear_16 : decode cX6_clear 16 = .ok (.iconst 0, 1) := by decide +kernel
theorem dX6_clear_17 : decode cX6_clear 17 = .ok (.putfield 47, 3) := by decide +kernel
theorem dX6_clear_20 : decode cX6_clear 20 = .ok (.aload_n 0, 1) := by decide +kernel
theorem dX6_clear_21 : decode cX6_clear 21 = .ok (.iconst 0, 1) := by decide +kernel
theorem dX6_clear_22 : decode cX6_clear 22 = .ok (.putfield 50, 3) := by decide +kernel
theorem dX6_clear_25 : decode cX6_clear 25 = .ok (.aload_n 0, 1) := by decide +kernel
theorem dX6_clear_26 : decode cX6_clear 26 = .ok (.iconst 0, 1) := by decide +kernel
theorem dX6_clear_27 : decode cX6_clear 27 = .ok (.putfield 53, 3) := by decide +kernel
theorem dX6_clear_30 : decode cX6_clear 30 = .ok (.aload_n 0, 1) := by decide +kernel
theorem dX6_clear_31 : decode cX6_clear 31 = .ok (.iconst 0, 1) := by decide +kernel
theorem dX6_clear_32 : decode cX6_clear 32 = .ok (.putfield 56, 3) := by decide +kernel
theorem dX6_clear_35 : decode cX6_clear 35 = .ok (.return_, 1) := by decide +kernel
theorem dX6_hasHand_0 : decode cX6_hasHand 0 = .ok (.iload_n 1, 1) := by decide +kernel
theorem dX6_hasHand_1 : decode cX6_hasHand 1 = .ok (.ifCond .lt 15, 3) := by decide +kernel
theorem dX6_hasHand_4 : decode cX6_hasHand 4 = .ok (.iload_n 1, 1) := by decide +kernel
theorem dX6_hasHand_5 : decode cX6_hasHand 5 = .ok (.aload_n 0, 1) := by decide +kernel
theorem dX6_hasHand_6 : decode cX6_hasHand 6 = .ok (.getfield 53, 3) := by decide +kernel
theorem dX6_hasHand_9 : decode cX6_hasHand 9 = .ok (.if_icmp .ge 7, 3) := by decide +kernel
theorem dX6_hasHand_12 : decode cX6_hasHand 12 = .ok (.iconst 1, 1) := by decide +kernel
theorem dX6_hasHand_13 : decode cX6_hasHand 13 = .ok (.goto 4, 3) := by decide +kernel
theorem dX6_hasHand_16 : decode cX6_hasHand 16 = .ok (.iconst 0, 1) := by decide +kernel
theorem dX6_hasHand_17 : decode cX6_hasHand 17 = .ok (.ireturn, 1) := by decide +kernel
theorem dX6_hasPaper_0 : decode cX6_hasPaper 0 = .ok (.iload_n 1, 1) := by decide +kernel
theorem dX6_hasPaper_1 : decode cX6_hasPaper 1 = .ok (.ifCond .lt 15, 3) := by decide +kernel
theorem dX6_hasPaper_4 : decode cX6_hasPaper 4 = .ok (.iload_n 1, 1) := by decide +kernel
theorem dX6_hasPaper_5 : decode cX6_hasPaper 5 = .ok (.aload_n 0, 1) := by decide +kernel
theorem dX6_hasPaper_6 : decode cX6_hasPaper 6 = .ok (.getfield 56, 3) := by decide +kernel
theorem dX6_hasPaper_9 : decode cX6_hasPaper 9 = .ok (.if_icmp .ge 7, 3) := by decide +kernel
theorem dX6_hasPaper_12 : decode cX6_hasPaper 12 = .ok (.iconst 1, 1) := by decide +kernel
theorem dX6_hasPaper_13 : decode cX6_hasPaper 13 = .ok (.goto 4, 3) := by decide +kernel
theorem dX6_hasPaper_16 : decode cX6_hasPaper 16 = .ok (.iconst 0, 1) := by decide +kernel
theorem dX6_hasPaper_17 : decode cX6_hasPaper 17 = .ok (.ireturn, 1) := by decide +kernel
theorem dX6_rainOf_0 : decode cX6_rainOf 0 = .ok (.aload_n 0, 1) := by decide +kernel
theorem dX6_rainOf_1 : decode cX6_rainOf 1 = .ok (.getfield 50, 3) := by decide +kernel
theorem dX6_rainOf_4 : decode cX6_rainOf 4 = .ok (.iconst 1, 1) := by decide +kernel
theorem dX6_rainOf_5 : decode cX6_rainOf 5 = .ok (.if_icmp .ge 7, 3) := by decide +kernel
theorem dX6_rainOf_8 : decode cX6_rainOf 8 = .ok (.iconst 0, 1) := by decide +kernel
theorem dX6_rainOf_9 : decode cX6_rainOf 9 = .ok (.goto 14, 3) := by decide +kernel
theorem dX6_rainOf_12 : decode cX6_rainOf 12 = .ok (.aload_n 0, 1) := by decide +kernel
theorem dX6_rainOf_13 : decode cX6_rainOf 13 = .ok (.getfield 9, 3) := by decide +kernel
theorem dX6_rainOf_16 : decode cX6_rainOf 16 = .ok (.iload_n 1, 1) := by decide +kernel
theorem dX6_rainOf_17 : decode cX6_rainOf 17 = .ok (.aload_n 0, 1) := by decide +kernel
theorem dX6_rainOf_18 : decode cX6_rainOf 18 = .ok (.getfield 50, 3) := by decide +kernel
theorem dX6_rainOf_21 : decode cX6_rainOf 21 = .ok (.irem, 1) := by decide +kernel
theorem dX6_rainOf_22 : decode cX6_rainOf 22 = .ok (.iaload, 1) := by decide +kernel
theorem dX6_rainOf_23 : decode cX6_rainOf 23 = .ok (.ireturn, 1) := by decide +kernel
theorem dX6_windAt_0 : decode cX6_windAt 0 = .ok (.aload_n 0, 1) := by decide +kernel
theorem dX6_windAt_1 : decode cX6_windAt 1 = .ok (.getfield 40, 3) := by decide +kernel
theorem dX6_windAt_4 : decode cX6_windAt 4 = .ok (.iload_n 1, 1) := by decide +kernel
theorem dX6_windAt_5 : decode cX6_windAt 5 = .ok (.imul, 1) := by decide +kernel
theorem dX6_windAt_6 : decode cX6_windAt 6 = .ok (.bipush 8, 2) := by decide +kernel
theorem dX6_windAt_8 : decode cX6_windAt 8 = .ok (.irem, 1) := by decide +kernel
theorem dX6_windAt_9 : decode cX6_windAt 9 = .ok (.ireturn, 1) := by decide +kernel
theorem dX6_lightAt_0 : decode cX6_lightAt 0 = .ok (.iload_n 1, 1) := by decide +kernel
theorem dX6_lightAt_1 : decode cX6_lightAt 1 = .ok (.bipush 12, 2) := by decide +kernel
theorem dX6_lightAt_3 : decode cX6_lightAt 3 = .ok (.irem, 1) := by decide +kernel
theorem dX6_lightAt_4 : decode cX6_lightAt 4 = .ok (.aload_n 0, 1) := by decide +kernel
theorem dX6_lightAt_5 : decode cX6_lightAt 5 = .ok (.getfield 47, 3) := by decide +kernel
theorem dX6_lightAt_8 : decode cX6_lightAt 8 = .ok (.if_icmp .ge 7, 3) := by decide +kernel
theorem dX6_lightAt_11 : decode cX6_lightAt 11 = .ok (.iconst 1, 1) := by decide +kernel
theorem dX6_lightAt_12 : decode cX6_lightAt 12 = .ok (.goto 4, 3) := by decide +kernel
theorem dX6_lightAt_15 : decode cX6_lightAt 15 = .ok (.iconst 0, 1) := by decide +kernel
theorem dX6_lightAt_16 : decode cX6_lightAt 16 = .ok (.ireturn, 1) := by decide +kernel
theorem dX6_dampAt_0 : decode cX6_dampAt 0 = .ok (.iconst 0, 1) := by decide +kernel
theorem dX6_dampAt_1 : decode cX6_dampAt 1 = .ok (.iload_n 1, 1) := by decide +kernel
theorem dX6_dampAt_2 : decode cX6_dampAt 2 = .ok (.bipush 12, 2) := by decide +kernel
theorem dX6_dampAt_4 : decode cX6_dampAt 4 = .ok (.irem, 1) := by decide +kernel
theorem dX6_dampAt_5 : decode cX6_dampAt 5 = .ok (.aload_n 0, 1) := by decide +kernel
theorem dX6_dampAt_6 : decode cX6_dampAt 6 = .ok (.getfield 47, 3) := by decide +kernel
theorem dX6_dampAt_9 : decode cX6_dampAt 9 = .ok (.isub, 1) := by decide +kernel
theorem dX6_dampAt_10 : decode cX6_dampAt 10 = .ok (.iconst 1, 1) := by decide +kernel
theorem dX6_dampAt_11 : decode cX6_dampAt 11 = .ok (.iadd, 1) := by decide +kernel
theorem dX6_dampAt_12 : decode cX6_dampAt 12 = .ok (.invokestatic 59, 3) := by decide +kernel
theorem dX6_dampAt_15 : decode cX6_dampAt 15 = .ok (.istore_n 3, 1) := by decide +kernel
theorem dX6_dampAt_16 : decode cX6_dampAt 16 = .ok (.bipush 19, 2) := by decide +kernel
theorem dX6_dampAt_18 : decode cX6_dampAt 18 = .ok (.aload_n 0, 1) := by decide +kernel
theorem dX6_dampAt_19 : decode cX6_dampAt 19 = .ok (.getfield 44, 3) := by decide +kernel
theorem dX6_dampAt_22 : decode cX6_dampAt 22 = .ok (.iload_n 2, 1) := by decide +kernel
theorem dX6_dampAt_23 : decode cX6_dampAt 23 = .ok (.iadd, 1) := by decide +kernel
theorem dX6_dampAt_24 : decode cX6_dampAt 24 = .ok (.iload_n 3, 1) := by decide +kernel
theorem dX6_dampAt_25 : decode cX6_dampAt 25 = .ok (.iadd, 1) := by decide +kernel
theorem dX6_dampAt_26 : decode cX6_dampAt 26 = .ok (.invokestatic 65, 3) := by decide +kernel
theorem dX6_dampAt_29 : decode cX6_dampAt 29 = .ok (.ireturn, 1) := by decide +kernel
theorem dX6_makeLook_0 : decode cX6_makeLook 0 = .ok (.aload_n 0, 1) := by decide +kernel
theorem dX6_makeLook_1 : decode cX6_makeLook 1 = .ok (.iload_n 1, 1) := by decide +kernel
theorem dX6_makeLook_2 : decode cX6_makeLook 2 = .ok (.invokevirtual 68, 3) := by decide +kernel
theorem dX6_makeLook_5 : decode cX6_makeLook 5 = .ok (.ifCond .ne 5, 3) := by decide +kernel
theorem dX6_makeLook_8 : decode cX6_makeLook 8 = .ok (.iconst (-1), 1) := by decide +kernel
theorem dX6_makeLook_9 : decode cX6_makeLook 9 = .ok (.ireturn, 1) := by decide +kernel
theorem dX6_makeLook_10 : decode cX6_makeLook 10 = .ok (.aload_n 0, 1) := by decide +kernel
theorem dX6_makeLook_11 : decode cX6_makeLook 11 = .ok (.getfield 15, 3) := by decide +kernel
theorem dX6_makeLook_14 : decode cX6_makeLook 14 = .ok (.iload_n 1, 1) := by decide +kernel
theorem dX6_makeLook_15 : decode cX6_makeLook 15 = .ok (.iaload, 1) := by decide +kernel
theorem dX6_makeLook_16 : decode cX6_makeLook 16 = .ok (.aload_n 0, 1) := by decide +kernel
theorem dX6_makeLook_17 : decode cX6_makeLook 17 = .ok (.iload_n 2, 1) := by decide +kernel
theorem dX6_makeLook_18 : decode cX6_makeLook 18 = .ok (.invokevirtual 72, 3) := by decide +kernel
theorem dX6_makeLook_21 : decode cX6_makeLook 21 = .ok (.iadd, 1) := by decide +kernel
theorem dX6_makeLook_22 : decode cX6_makeLook 22 = .ok (.bipush 9, 2) := by decide +kernel
theorem dX6_makeLook_24 : decode cX6_makeLook 24 = .ok (.irem, 1) := by decide +kernel
theorem dX6_makeLook_25 : decode cX6_makeLook 25 = .ok (.istore 4, 2) := by decide +kernel
theorem dX6_makeLook_27 : decode cX6_makeLook 27 = .ok (.bipush 15, 2) := by decide +kernel
theorem dX6_makeLook_29 : decode cX6_makeLook 29 = .ok (.aload_n 0, 1) := by decide +kernel
theorem dX6_makeLook_30 : decode cX6_makeLook 30 = .ok (.getfield 18, 3) := by decide +kernel
theorem dX6_makeLook_33 : decode cX6_makeLook 33 = .ok (.iload_n 1, 1) := by decide +kernel
theorem dX6_makeLook_34 : decode cX6_makeLook 34 = .ok (.iaload, 1) := by decide +kernel
theorem dX6_makeLook_35 : decode cX6_makeLook 35 = .ok (.aload_n 0, 1) := by decide +kernel
theorem dX6_makeLook_36 : decode cX6_makeLook 36 = .ok (.iload_n 2, 1) := by decide +kernel
theorem dX6_makeLook_37 : decode cX6_makeLook 37 = .ok (.iload_n 3, 1) := by decide +kernel
theorem dX6_makeLook_38 : decode cX6_makeLook 38 = .ok (.invokevirtual 76, 3) := by decide +kernel
theorem dX6_makeLook_41 : decode cX6_makeLook 41 = .ok (.iconst 2, 1) := by decide +kernel
theorem dX6_makeLook_42 : decode cX6_makeLook 42 = .ok (.idiv, 1) := by decide +kernel
theorem dX6_makeLook_43 : decode cX6_makeLook 43 = .ok (.iadd, 1) := by decide +kernel
theorem dX6_makeLook_44 : decode cX6_makeLook 44 = .ok (.invokestatic 65, 3) := by decide +kernel
theorem dX6_makeLook_47 : decode cX6_makeLook 47 = .ok (.istore 5, 2) := by decide +kernel
theorem dX6_makeLook_49 : decode cX6_makeLook 49 = .ok (.bipush 9, 2) := by decide +kernel
theorem dX6_makeLook_51 : decode cX6_makeLook 51 = .ok (.aload_n 0, 1) := by decide +kernel
theorem dX6_makeLook_52 : decode cX6_makeLook 52 = .ok (.getfield 21, 3) := by decide +kernel
theorem dX6_makeLook_55 : decode cX6_makeLook 55 = .ok (.iload_n 1, 1) := by decide +kernel
theorem dX6_makeLook_56 : decode cX6_makeLook 56 = .ok (.iaload, 1) := by decide +kernel
theorem dX6_makeLook_57 : decode cX6_makeLook 57 = .ok (.aload_n 0, 1) := by decide +kernel
theorem dX6_makeLook_58 : decode cX6_makeLook 58 = .ok (.iload_n 2, 1) := by decide +kernel
theorem dX6_makeLook_59 : decode cX6_makeLook 59 = .ok (.invokevirtual 79, 3) := by decide +kernel
theorem dX6_makeLook_62 : decode cX6_makeLook 62 = .ok (.iconst 1, 1) := by decide +kernel
theorem dX6_makeLook_63 : decode cX6_makeLook 63 = .ok (.if_icmp .ne 7, 3) := by decide +kernel
theorem dX6_makeLook_66 : decode cX6_makeLook 66 = .ok (.iconst 0, 1) := by decide +kernel
theorem dX6_makeLook_67 : decode cX6_makeLook 67 = .ok (.goto 4, 3) := by decide +kernel
theorem dX6_makeLook_70 : decode cX6_makeLook 70 = .ok (.iconst 2, 1) := by decide +kernel
theorem dX6_makeLook_71 : decode cX6_makeLook 71 = .ok (.iadd, 1) := by decide +kernel
theorem dX6_makeLook_72 : decode cX6_makeLook 72 = .ok (.invokestatic 65, 3) := by decide +kernel
theorem dX6_makeLook_75 : decode cX6_makeLook 75 = .ok (.istore 6, 2) := by decide +kernel
theorem dX6_makeLook_77 : decode cX6_makeLook 77 = .ok (.sipush 1000, 3) := by decide +kernel
theorem dX6_makeLook_80 : decode cX6_makeLook 80 = .ok (.iload 4, 2) := by decide +kernel
theorem dX6_makeLook_82 : decode cX6_makeLook 82 = .ok (.imul, 1) := by decide +kernel
theorem dX6_makeLook_83 : decode cX6_makeLook 83 = .ok (.bipush 10, 2) := by decide +kernel
theorem dX6_makeLook_85 : decode cX6_makeLook 85 = .ok (.iload 5, 2) := by decide +kernel
theorem dX6_makeLook_87 : decode cX6_makeLook 87 = .ok (.imul, 1) := by decide +kernel
theorem dX6_makeLook_88 : decode cX6_makeLook 88 = .ok (.iadd, 1) := by decide +kernel
theorem dX6_makeLook_89 : decode cX6_makeLook 89 = .ok (.iload 6, 2) := by decide +kernel
theorem dX6_makeLook_91 : decode cX6_makeLook 91 = .ok (.iadd, 1) := by decide +kernel
theorem dX6_makeLook_92 : decode cX6_makeLook 92 = .ok (.ireturn, 1) := by decide +kernel
theorem dX6_fillLooks_0 : decode cX6_fillLooks 0 = .ok (.iconst 0, 1) := by decide +kernel
theorem dX6_fillLooks_1 : decode cX6_fillLooks 1 = .ok (.istore_n 1, 1) := by decide +kernel
theorem dX6_fillLooks_2 : decode cX6_fillLooks 2 = .ok (.iload_n 1, 1) := by decide +kernel
theorem dX6_fillLooks_3 : decode cX6_fillLooks 3 = .ok (.aload_n 0, 1) := by decide +kernel
theorem dX6_fillLooks_4 : decode cX6_fillLooks 4 = .ok (.getfield 53, 3) := by decide +kernel
theorem dX6_fillLooks_7 : decode cX6_fillLooks 7 = .ok (.if_icmp .ge 48, 3) := by decide +kernel
theorem dX6_fillLooks_10 : decode cX6_fillLooks 10 = .ok (.iconst 0, 1) := by decide +kernel
theorem dX6_fillLooks_11 : decode cX6_fillLooks 11 = .ok (.istore_n 2, 1) := by decide +kernel
theorem dX6_fillLooks_12 : decode cX6_fillLooks 12 = .ok (.iload_n 2, 1) := by decide +kernel
theorem dX6_fillLooks_13 : decode cX6_fillLooks 13 = .ok (.bipush 96, 2) := by decide +kernel
theorem dX6_fillLooks_15 : decode cX6_fillLooks 15 = .ok (.if_icmp .ge 34, 3) := by decide +kernel
theorem dX6_fillLooks_18 : decode cX6_fillLooks 18 = .ok (.aload_n 0, 1) := by decide +kernel
theorem dX6_fillLooks_19 : decode cX6_fillLooks 19 = .ok (.getfield 33, 3) := by decide +kernel
theorem dX6_fillLooks_22 : decode cX6_fillLooks 22 = .ok (.iload_n 1, 1) := by decide +kernel
theorem dX6_fillLooks_23 : decode cX6_fillLooks 23 = .ok (.bipush 96, 2) := by decide +kernel
theorem dX6_fillLooks_25 : decode cX6_fillLooks 25 = .ok (.imul, 1) := by decide +kernel
theorem dX6_fillLooks_26 : decode cX6_fillLooks 26 = .ok (.iload_n 2, 1) := by decide +kernel
theorem dX6_fillLooks_27 : decode cX6_fillLooks 27 = .ok (.iadd, 1) := by decide +kernel
theorem dX6_fillLooks_28 : decode cX6_fillLooks 28 = .ok (.aload_n 0, 1) := by decide +kernel
theorem dX6_fillLooks_29 : decode cX6_fillLooks 29 = .ok (.iload_n 1, 1) := by decide +kernel
theorem dX6_fillLooks_30 : decode cX6_fillLooks 30 = .ok (.iload_n 2, 1) := by decide +kernel
theorem dX6_fillLooks_31 : decode cX6_fillLooks 31 = .ok (.aload_n 0, 1) := by decide +kernel
theorem dX6_fillLooks_32 : decode cX6_fillLooks 32 = .ok (.iload_n 2, 1) := by decide +kernel
theorem dX6_fillLooks_33 : decode cX6_fillLooks 33 = .ok (.bipush 12, 2) := by decide +kernel
theorem dX6_fillLooks_35 : decode cX6_fillLooks 35 = .ok (.idiv, 1) := by decide +kernel
theorem dX6_fillLooks_36 : decode cX6_fillLooks 36 = .ok (.invokevirtual 82, 3) := by decide +kernel
theorem dX6_fillLooks_39 : decode cX6_fillLooks 39 = .ok (.invokevirtual 85, 3) := by decide +kernel
theorem dX6_fillLooks_42 : decode cX6_fillLooks 42 = .ok (.iastore, 1) := by decide +kernel
theorem dX6_fillLooks_43 : decode cX6_fillLooks 43 = .ok (.iinc 2 1, 3) := by decide +kernel
theorem dX6_fillLooks_46 : decode cX6_fillLooks 46 = .ok (.goto (-34), 3) := by decide +kernel
theorem dX6_fillLooks_49 : decode cX6_fillLooks 49 = .ok (.iinc 1 1, 3) := by decide +kernel
theorem dX6_fillLooks_52 : decode cX6_fillLooks 52 = .ok (.goto (-50), 3) := by decide +kernel
theorem dX6_fillLooks_55 : decode cX6_fillLooks 55 = .ok (.return_, 1) := by decide +kernel
theorem dX6_lookAt_0 : decode cX6_lookAt 0 = .ok (.aload_n 0, 1) := by decide +kernel
theorem dX6_lookAt_1 : decode cX6_lookAt 1 = .ok (.iload_n 1, 1) := by decide +kernel
theorem dX6_lookAt_2 : decode cX6_lookAt 2 = .ok (.invokevirtual 68, 3) := by decide +kernel
theorem dX6_lookAt_5 : decode cX6_lookAt 5 = .ok (.ifCond .eq 24, 3) := by decide +kernel
theorem dX6_lookAt_8 : decode cX6_lookAt 8 = .ok (.iload_n 2, 1) := by decide +kernel
theorem dX6_lookAt_9 : decode cX6_lookAt 9 = .ok (.invokestatic 89, 3) := by decide +kernel
theorem dX6_lookAt_12 : decode cX6_lookAt 12 = .ok (.ifCond .eq 17, 3) := by decide +kernel
theorem dX6_lookAt_15 : decode cX6_lookAt 15 = .ok (.aload_n 0, 1) := by decide +kernel
theorem dX6_lookAt_16 : decode cX6_lookAt 16 = .ok (.getfield 33, 3) := by decide +kernel
theorem dX6_lookAt_19 : decode cX6_lookAt 19 = .ok (.iload_n 1, 1) := by decide +kernel
theorem dX6_lookAt_20 : decode cX6_lookAt 20 = .ok (.bipush 96, 2) := by decide +kernel
theorem dX6_lookAt_22 : decode cX6_lookAt 22 = .ok (.imul, 1) := by decide +kernel
theorem dX6_lookAt_23 : decode cX6_lookAt 23 = .ok (.iload_n 2, 1) := by decide +kernel
theorem dX6_lookAt_24 : decode cX6_lookAt 24 = .ok (.iadd, 1) := by decide +kernel
theorem dX6_lookAt_25 : decode cX6_lookAt 25 = .ok (.iaload, 1) := by decide +kernel
theorem dX6_lookAt_26 : decode cX6_lookAt 26 = .ok (.goto 4, 3) := by decide +kernel
theorem dX6_lookAt_29 : decode cX6_lookAt 29 = .ok (.iconst (-1), 1) := by decide +kernel
theorem dX6_lookAt_30 : decode cX6_lookAt 30 = .ok (.ireturn, 1) := by decide +kernel
theorem dX6_firstHour_0 : decode cX6_firstHour 0 = .ok (.iload_n 3, 1) := by decide +kernel
theorem dX6_firstHour_1 : decode cX6_firstHour 1 = .ok (.istore 4, 2) := by decide +kernel
theorem dX6_firstHour_3 : decode cX6_firstHour 3 = .ok (.iload 4, 2) := by decide +kernel
theorem dX6_firstHour_5 : decode cX6_firstHour 5 = .ok (.bipush 96, 2) := by decide +kernel
theorem dX6_firstHour_7 : decode cX6_firstHour 7 = .ok (.if_icmp .ge 23, 3) := by decide +kernel
theorem dX6_firstHour_10 : decode cX6_firstHour 10 = .ok (.aload_n 0, 1) := by decide +kernel
theorem dX6_firstHour_11 : decode cX6_firstHour 11 = .ok (.iload_n 1, 1) := by decide +kernel
theorem dX6_firstHour_12 : decode cX6_firstHour 12 = .ok (.iload 4, 2) := by decide +kernel
theorem dX6_firstHour_14 : decode cX6_firstHour 14 = .ok (.invokevirtual 92, 3) := by decide +kernel
theorem dX6_firstHour_17 : decode cX6_firstHour 17 = .ok (.iload_n 2, 1) := by decide +kernel
theorem dX6_firstHour_18 : decode cX6_firstHour 18 = .ok (.if_icmp .ne 6, 3) := by decide +kernel
theorem dX6_firstHour_21 : decode cX6_firstHour 21 = .ok (.iload 4, 2) := by decide +kernel
theorem dX6_firstHour_23 : decode cX6_firstHour 23 = .ok (.ireturn, 1) := by decide +kernel
theorem dX6_firstHour_24 : decode cX6_firstHour 24 = .ok (.iinc 4 1, 3) := by decide +kernel
theorem dX6_firstHour_27 : decode cX6_firstHour 27 = .ok (.goto (-24), 3) := by decide +kernel
theorem dX6_firstHour_30 : decode cX6_firstHour 30 = .ok (.iconst (-1), 1) := by decide +kernel
theorem dX6_firstHour_31 : decode cX6_firstHour 31 = .ok (.ireturn, 1) := by decide +kernel
theorem dX6_hoursOfLook_0 : decode cX6_hoursOfLook 0 = .ok (.iconst 0, 1) := by decide +kernel
theorem dX6_hoursOfLook_1 : decode cX6_hoursOfLook 1 = .ok (.istore 4, 2) := by decide +kernel
theorem dX6_hoursOfLook_3 : decode cX6_hoursOfLook 3 = .ok (.iconst 0, 1) := by decide +kernel
theorem dX6_hoursOfLook_4 : decode cX6_hoursOfLook 4 = .ok (.istore 5, 2) := by decide +kernel
theorem dX6_hoursOfLook_6 : decode cX6_hoursOfLook 6 = .ok (.iload 5, 2) := by decide +kernel
theorem dX6_hoursOfLook_8 : decode cX6_hoursOfLook 8 = .ok (.bipush 96, 2) := by decide +kernel
theorem dX6_hoursOfLook_10 : decode cX6_hoursOfLook 10 = .ok (.if_icmp .ge 32, 3) := by decide +kernel
theorem dX6_hoursOfLook_13 : decode cX6_hoursOfLook 13 = .ok (.aload_n 0, 1) := by decide +kernel
theorem dX6_hoursOfLook_14 : decode cX6_hoursOfLook 14 = .ok (.iload_n 1, 1) := by decide +kernel
theorem dX6_hoursOfLook_15 : decode cX6_hoursOfLook 15 = .ok (.iload 5, 2) := by decide +kernel
theorem dX6_hoursOfLook_17 : decode cX6_hoursOfLook 17 = .ok (.invokevirtual 92, 3) := by decide +kernel
theorem dX6_hoursOfLook_20 : decode cX6_hoursOfLook 20 = .ok (.iload_n 2, 1) := by decide +kernel
theorem dX6_hoursOfLook_21 : decode cX6_hoursOfLook 21 = .ok (.if_icmp .ne 15, 3) := by decide +kernel
theorem dX6_hoursOfLook_24 : decode cX6_hoursOfLook 24 = .ok (.iload 4, 2) := by decide +kernel
theorem dX6_hoursOfLook_26 : decode cX6_hoursOfLook 26 = .ok (.iload_n 3, 1) := by decide +kernel
theorem dX6_hoursOfLook_27 : decode cX6_hoursOfLook 27 = .ok (.if_icmp .ne 6, 3) := by decide +kernel
theorem dX6_hoursOfLook_30 : decode cX6_hoursOfLook 30 = .ok (.iload 5, 2) := by decide +kernel
theorem dX6_hoursOfLook_32 : decode cX6_hoursOfLook 32 = .ok (.ireturn, 1) := by decide +kernel
theorem dX6_hoursOfLook_33 : decode cX6_hoursOfLook 33 = .ok (.iinc 4 1, 3) := by decide +kernel
theorem dX6_hoursOfLook_36 : decode cX6_hoursOfLook 36 = .ok (.iinc 5 1, 3) := by decide +kernel
theorem dX6_hoursOfLook_39 : decode cX6_hoursOfLook 39 = .ok (.goto (-33), 3) := by decide +kernel
theorem dX6_hoursOfLook_42 : decode cX6_hoursOfLook 42 = .ok (.iload_n 3, 1) := by decide +kernel
theorem dX6_hoursOfLook_43 : decode cX6_hoursOfLook 43 = .ok (.iconst (-1), 1) := by decide +kernel
theorem dX6_hoursOfLook_44 : decode cX6_hoursOfLook 44 = .ok (.if_icmp .ne 8, 3) := by decide +kernel
theorem dX6_hoursOfLook_47 : decode cX6_hoursOfLook 47 = .ok (.iload 4, 2) := by decide +kernel
theorem dX6_hoursOfLook_49 : decode cX6_hoursOfLook 49 = .ok (.goto 4, 3) := by decide +kernel
theorem dX6_hoursOfLook_52 : decode cX6_hoursOfLook 52 = .ok (.iconst (-1), 1) := by decide +kernel
theorem dX6_hoursOfLook_53 : decode cX6_hoursOfLook 53 = .ok (.ireturn, 1) := by decide +kernel
theorem dX7_init_0 : decode cX7_init 0 = .ok (.aload_n 0, 1) := by decide +kernel
theorem dX7_init_1 : decode cX7_init 1 = .ok (.invokespecial 1, 3) := by decide +kernel
theorem dX7_init_4 : decode cX7_init 4 = .ok (.aload_n 0, 1) := by decide +kernel
theorem dX7_init_5 : decode cX7_init 5 = .ok (.new 7, 3) := by decide +kernel
theorem dX7_init_8 : decode cX7_init 8 = .ok (.dup, 1) := by decide +kernel
theorem dX7_init_9 : decode cX7_init 9 = .ok (.invokespecial 9, 3) := by decide +kernel
theorem dX7_init_12 : decode cX7_init 12 = .ok (.putfield 10, 3) := by decide +kernel
theorem dX7_init_15 : decode cX7_init 15 = .ok (.aload_n 0, 1) := by decide +kernel
theorem dX7_init_16 : decode cX7_init 16 = .ok (.new 16, 3) := by decide +kernel
theorem dX7_init_19 : decode cX7_init 19 = .ok (.dup, 1) := by decide +kernel
theorem dX7_init_20 : decode cX7_init 20 = .ok (.invokespecial 18, 3) := by decide +kernel
theorem dX7_init_23 : decode cX7_init 23 = .ok (.putfield 19, 3) := by decide +kernel
theorem dX7_init_26 : decode cX7_init 26 = .ok (.aload_n 0, 1) := by decide +kernel
theorem dX7_init_27 : decode cX7_init 27 = .ok (.new 16, 3) := by decide +kernel
theorem dX7_init_30 : decode cX7_init 30 = .ok (.dup, 1) := by decide +kernel
theorem dX7_init_31 : decode cX7_init 31 = .ok (.invokespecial 18, 3) := by decide +kernel
theorem dX7_init_34 : decode cX7_init 34 = .ok (.putfield 23, 3) := by decide +kernel
theorem dX7_init_37 : decode cX7_init 37 = .ok (.aload_n 0, 1) := by decide +kernel
theorem dX7_init_38 : decode cX7_init 38 = .ok (.new 16, 3) := by decide +kernel
theorem dX7_init_41 : decode cX7_init 41 = .ok (.dup, 1) := by decide +kernel
theorem dX7_init_42 : decode cX7_init 42 = .ok (.invokespecial 18, 3) := by decide +kernel
theorem dX7_init_45 : decode cX7_init 45 = .ok (.putfield 26, 3) := by decide +kernel
theorem dX7_init_48 : decode cX7_init 48 = .ok (.aload_n 0, 1) := by decide +kernel
theorem dX7_init_49 : decode cX7_init 49 = .ok (.new 29, 3) := by decide +kernel
theorem dX7_init_52 : decode cX7_init 52 = .ok (.dup, 1) := by decide +kernel
theorem dX7_init_53 : decode cX7_init 53 = .ok (.invokespecial 31, 3) := by decide +kernel
theorem dX7_init_56 : decode cX7_init 56 = .ok (.putfield 32, 3) := by decide +kernel
theorem dX7_init_59 : decode cX7_init 59 = .ok (.aload_n 0, 1) := by decide +kernel
theorem dX7_init_60 : decode cX7_init 60 = .ok (.new 36, 3) := by decide +kernel
theorem dX7_init_63 : decode cX7_init 63 = .ok (.dup, 1) := by decide +kernel
theorem dX7_init_64 : decode cX7_init 64 = .ok (.invokespecial 38, 3) := by decide +kernel
theorem dX7_init_67 : decode cX7_init 67 = .ok (.putfield 39, 3) := by decide +kernel
theorem dX7_init_70 : decode cX7_init 70 = .ok (.aload_n 0, 1) := by decide +kernel
theorem dX7_init_71 : decode cX7_init 71 = .ok (.new 43, 3) := by decide +kernel
theorem dX7_init_74 : decode cX7_init 74 = .ok (.dup, 1) := by decide +kernel
theorem dX7_init_75 : decode cX7_init 75 = .ok (.invokespecial 45, 3) := by decide +kernel
theorem dX7_init_78 : decode cX7_init 78 = .ok (.putfield 46, 3) := by decide +kernel
theorem dX7_init_81 : decode cX7_init 81 = .ok (.aload_n 0, 1) := by decide +kernel
theorem dX7_init_82 : decode cX7_init 82 = .ok (.new 50, 3) := by decide +kernel
theorem dX7_init_85 : decode cX7_init 85 = .ok (.dup, 1) := by decide +kernel
theorem dX7_init_86 : decode cX7_init 86 = .ok (.invokespecial 52, 3) := by decide +kernel
theorem dX7_init_89 : decode cX7_init 89 = .ok (.putfield 53, 3) := by decide +kernel
theorem dX7_init_92 : decode cX7_init 92 = .ok (.aload_n 0, 1) := by decide +kernel
theorem dX7_init_93 : decode cX7_init 93 = .ok (.iconst 4, 1) := by decide +kernel
theorem dX7_init_94 : decode cX7_init 94 = .ok (.newarray .int, 2) := by decide +kernel
theorem dX7_init_96 : decode cX7_init 96 = .ok (.putfield 57, 3) := by decide +kernel
theorem dX7_init_99 : decode cX7_init 99 = .ok (.aload_n 0, 1) := by decide +kernel
theorem dX7_init_100 : decode cX7_init 100 = .ok (.new 61, 3) := by decide +kernel
theorem dX7_init_103 : decode cX7_init 103 = .ok (.dup, 1) := by decide +kernel
theorem dX7_init_104 : decode cX7_init 104 = .ok (.invokespecial 63, 3) := by decide +kernel
theorem dX7_init_107 : decode cX7_init 107 = .ok (.putfield 64, 3) := by decide +kernel
theorem dX7_init_110 : decode cX7_init 110 = .ok (.aload_n 0, 1) := by decide +kernel
theorem dX7_init_111 : decode cX7_init 111 = .ok (.new 61, 3) := by decide +kernel
theorem dX7_init_114 : decode cX7_init 114 = .ok (.dup, 1) := by decide +kernel
theorem dX7_init_115 : decode cX7_init 115 = .ok (.invokespecial 63, 3) := by decide +kernel
theorem dX7_init_118 : decode cX7_init 118 = .ok (.putfield 68, 3) := by decide +kernel
theorem dX7_init_121 : decode cX7_init 121 = .ok (.aload_n 0, 1) := by decide +kernel
theorem dX7_init_122 : decode cX7_init 122 = .ok (.iconst (-1), 1) := by decide +kernel
theorem dX7_init_123 : decode cX7_init 123 = .ok (.putfield 71, 3) := by decide +kernel
theorem dX7_init_126 : decode cX7_init 126 = .ok (.return_, 1) := by decide +kernel
theorem dX7_feed_0 : decode cX7_feed 0 = .ok (.iload_n 1, 1) := by decide +kernel
theorem dX7_feed_1 : decode cX7_feed 1 = .ok (.ifCond .lt 10, 3) := by decide +kernel
theorem dX7_feed_4 : decode cX7_feed 4 = .ok (.iload_n 1, 1) := by decide +kernel
theorem dX7_feed_5 : decode cX7_feed 5 = .ok (.sipush 255, 3) := by decide +kernel
theorem dX7_feed_8 : decode cX7_feed 8 = .ok (.if_icmp .le 6, 3) := by decide +kernel
theorem dX7_feed_11 : decode cX7_feed 11 = .ok (.ldc 75, 2) := by decide +kernel
theorem dX7_feed_13 : decode cX7_feed 13 = .ok (.ireturn, 1) := by decide +kernel
theorem dX7_feed_14 : decode cX7_feed 14 = .ok (.aload_n 0, 1) := by decide +kernel
theorem dX7_feed_15 : decode cX7_feed 15 = .ok (.getfield 10, 3) := by decide +kernel
theorem dX7_feed_18 : decode cX7_feed 18 = .ok (.iload_n 1, 1) := by decide +kernel
theorem dX7_feed_19 : decode cX7_feed 19 = .ok (.invokevirtual 76, 3) := by decide +kernel
theorem dX7_feed_22 : decode cX7_feed 22 = .ok (.ireturn, 1) := by decide +kernel
theorem dX7_valley_0 : decode cX7_valley 0 = .ok (.aload_n 0, 1) := by decide +kernel
theorem dX7_valley_1 : decode cX7_valley 1 = .ok (.getfield 68, 3) := by decide +kernel
theorem dX7_valley_4 : decode cX7_valley 4 = .ok (.invokevirtual 80, 3) := by decide +kernel
theorem dX7_valley_7 : decode cX7_valley 7 = .ok (.aload_n 0, 1) := by decide +kernel
theorem dX7_valley_8 : decode cX7_valley 8 = .ok (.getfield 10, 3) := by decide +kernel
theorem dX7_valley_11 : decode cX7_valley 11 = .ok (.aload_n 0, 1) := by decide +kernel
theorem dX7_valley_12 : decode cX7_valley 12 = .ok (.getfield 68, 3) := by decide +kernel
theorem dX7_valley_15 : decode cX7_valley 15 = .ok (.invokevirtual 83, 3) := by decide +kernel
theorem dX7_valley_18 : decode cX7_valley 18 = .ok (.istore_n 1, 1) := by decide +kernel
theorem dX7_valley_19 : decode cX7_valley 19 = .ok (.aload_n 0, 1) := by decide +kernel
theorem dX7_valley_20 : decode cX7_valley 20 = .ok (.aload_n 0, 1) := by decide +kernel
theorem dX7_valley_21 : decode cX7_valley 21 = .ok (.getfield 10, 3) := by decide +kernel
theorem dX7_valley_24 : decode cX7_valley 24 = .ok (.getfield 87, 3) := by decide +kernel
theorem dX7_valley_27 : decode cX7_valley 27 = .ok (.putfield 71, 3) := by decide +kernel
theorem dX7_valley_30 : decode cX7_valley 30 = .ok (.iload_n 1, 1) := by decide +kernel
theorem dX7_valley_31 : decode cX7_valley 31 = .ok (.ifCond .eq 8, 3) := by decide +kernel
theorem dX7_valley_34 : decode cX7_valley 34 = .ok (.bipush (-10), 2) := by decide +kernel
theorem dX7_valley_36 : decode cX7_valley 36 = .ok (.iload_n 1, 1) := by decide +kernel
theorem dX7_valley_37 : decode cX7_valley 37 = .ok (.isub, 1) := by decide +kernel
theorem dX7_valley_38 : decode cX7_valley 38 = .ok (.ireturn, 1) := by decide +kernel
theorem dX7_valley_39 : decode cX7_valley 39 = .ok (.aload_n 0, 1) := by decide +kernel
theorem dX7_valley_40 : decode cX7_valley 40 = .ok (.getfield 64, 3) := by decide +kernel
theorem dX7_valley_43 : decode cX7_valley 43 = .ok (.astore_n 2, 1) := by decide +kernel
theorem dX7_valley_44 : decode cX7_valley 44 = .ok (.aload_n 0, 1) := by decide +kernel
theorem dX7_valley_45 : decode cX7_valley 45 = .ok (.aload_n 0, 1) := by decide +kernel
theorem dX7_valley_46 : decode cX7_valley 46 = .ok (.getfield 68, 3) := by decide +kernel
theorem dX7_valley_49 : decode cX7_valley 49 = .ok (.putfield 64, 3) := by decide +kernel
theorem dX7_valley_52 : decode cX7_valley 52 = .ok (.aload_n 0, 1) := by decide +kernel
theorem dX7_valley_53 : decode cX7_valley 53 = .ok (.aload_n 2, 1) := by decide +kernel
theorem dX7_valley_54 : decode cX7_valley 54 = .ok (.putfield 68, 3) := by decide +kernel
theorem dX7_valley_57 : decode cX7_valley 57 = .ok (.aload_n 0, 1) := by decide +kernel
theorem dX7_valley_58 : decode cX7_valley 58 = .ok (.getfield 64, 3) := by decide +kernel
theorem dX7_valley_61 : decode cX7_valley 61 = .ok (.invokevirtual 88, 3) := by decide +kernel
theorem dX7_valley_64 : decode cX7_valley 64 = .ok (.aload_n 0, 1) := by decide +kernel
theorem dX7_valley_65 : decode cX7_valley 65 = .ok (.getfield 19, 3) := by decide +kernel
theorem dX7_valley_68 : decode cX7_valley 68 = .ok (.aload_n 0, 1) := by decide +kernel
theorem dX7_valley_69 : decode cX7_valley 69 = .ok (.getfield 64, 3) := by decide +kernel
theorem dX7_valley_72 : decode cX7_valley 72 = .ok (.invokevirtual 91, 3) := by decide +kernel
theorem dX7_valley_75 : decode cX7_valley 75 = .ok (.aload_n 0, 1) := by decide +kernel
theorem dX7_valley_76 : decode cX7_valley 76 = .ok (.getfield 23, 3) := by decide +kernel
theorem dX7_valley_79 : decode cX7_valley 79 = .ok (.iconst 0, 1) := by decide +kernel
theorem dX7_valley_80 : decode cX7_valley 80 = .ok (.putfield 95, 3) := by decide +kernel
theorem dX7_valley_83 : decode cX7_valley 83 = .ok (.aload_n 0, 1) := by decide +kernel
theorem dX7_valley_84 : decode cX7_valley 84 = .ok (.getfield 26, 3) := by decide +kernel
theorem dX7_valley_87 : decode cX7_valley 87 = .ok (.iconst 0, 1) := by decide +kernel
theorem dX7_valley_88 : decode cX7_valley 88 = .ok (.putfield 95, 3) := by decide +kernel
theorem dX7_valley_91 : decode cX7_valley 91 = .ok (.aload_n 0, 1) := by decide +kernel
theorem dX7_valley_92 : decode cX7_valley 92 = .ok (.getfield 32, 3) := by decide +kernel
theorem dX7_valley_95 : decode cX7_valley 95 = .ok (.invokevirtual 99, 3) := by decide +kernel
theorem dX7_valley_98 : decode cX7_valley 98 = .ok (.aload_n 0, 1) := by decide +kernel
theorem dX7_valley_99 : decode cX7_valley 99 = .ok (.invokevirtual 102, 3) := by decide +kernel
theorem dX7_valley_102 : decode cX7_valley 102 = .ok (.pop, 1) := by decide +kernel
theorem dX7_valley_103 : decode cX7_valley 103 = .ok (.aload_n 0, 1) := by decide +kernel
theorem dX7_valley_104 : decode cX7_valley 104 = .ok (.getfield 39, 3) := by decide +kernel
theorem dX7_valley_107 : decode cX7_valley 107 = .ok (.iconst 0, 1) := by decide +kernel
theorem dX7_valley_108 : decode cX7_valley 108 = .ok (.putfield 106, 3) := by decide +kernel
theorem dX7_valley_111 : decode cX7_valley 111 = .ok (.aload_n 0, 1) := by decide +kernel
theorem dX7_valley_112 : decode cX7_valley 112 = .ok (.getfield 64, 3) := by decide +kernel
theorem dX7_valley_115 : decode cX7_valley 115 = .ok (.getfield 109, 3) := by decide +kernel
theorem dX7_valley_118 : decode cX7_valley 118 = .ok (.ireturn, 1) := by decide +kernel
theorem dX7_fault_0 : decode cX7_fault 0 = .ok (.aload_n 0, 1) := by decide +kernel
theorem dX7_fault_1 : decode cX7_fault 1 = .ok (.getfield 71, 3) := by decide +kernel
theorem dX7_fault_4 : decode cX7_fault 4 = .ok (.ireturn, 1) := by decide +kernel
theorem dX7_told_0 : decode cX7_told 0 = .ok (.iload_n 1, 1) := by decide +kernel
theorem dX7_told_1 : decode cX7_told 1 = .ok (.tableswitch 155 0 10 #[59, 75, 83, 91, 99, 107, 115, 123, 131, 139, 147], 59) := by decide +kernel
theorem dX7_told_60 : decode cX7_told 60 = .ok (.aload_n 0, 1) := by decide +kernel
theorem dX7_told_61 : decode cX7_told 61 = .ok (.getfield 64, 3) := by decide +kernel
theorem dX7_told_64 : decode cX7_told 64 = .ok (.getfield 112, 3) := by decide +kernel
theorem dX7_told_67 : decode cX7_told 67 = .ok (.ifCond .eq 7, 3) := by decide +kernel
theorem dX7_told_70 : decode cX7_told 70 = .ok (.iconst 1, 1) := by decide +kernel
theorem dX7_told_71 : decode cX7_told 71 = .ok (.goto 4, 3) := by decide +kernel
theorem dX7_told_74 : decode cX7_told 74 = .ok (.iconst 0, 1) := by decide +kernel
theorem dX7_told_75 : decode cX7_told 75 = .ok (.ireturn, 1) := by decide +kernel
theorem dX7_told_76 : decode cX7_told 76 = .ok (.aload_n 0, 1) := by decide +kernel
theorem dX7_told_77 : decode cX7_told 77 = .ok (.getfield 64, 3) := by decide +kernel
theorem dX7_told_80 : decode cX7_told 80 = .ok (.getfield 115, 3) := by decide +kernel
theorem dX7_told_83 : decode cX7_told 83 = .ok (.ireturn, 1) := by decide +kernel
theorem dX7_told_84 : decode cX7_told 84 = .ok (.aload_n 0, 1) := by decide +kernel
theorem dX7_told_85 : decode cX7_told 85 = .ok (.getfield 64, 3) := by decide +kernel
theorem dX7_told_88 : decode cX7_told 88 = .ok (.getfield 118, 3) := by decide +kernel
theorem dX7_told_91 : decode cX7_told 91 = .ok (.ireturn, 1) := by decide +kernel
theorem dX7_told_92 : decode cX7_told 92 = .ok (.aload_n 0, 1) := by decide +kernel
theorem dX7_told_93 : decode cX7_told 93 = .ok (.getfield 64, 3) := by decide +kernel
theorem dX7_told_96 : decode cX7_told 96 = .ok (.getfield 121, 3) := by decide +kernel
theorem dX7_told_99 : decode cX7_told 99 = .ok (.ireturn, 1) := by decide +kernel
theorem dX7_told_100 : decode cX7_told 100 = .ok (.aload_n 0, 1) := by decide +kernel
theorem dX7_told_101 : decode cX7_told 101 = .ok (.getfield 64, 3) := by decide +kernel
theorem dX7_told_104 : decode cX7_told 104 = .ok (.getfield 124, 3) := by decide +kernel
theorem dX7_told_107 : decode cX7_told 107 = .ok (.ireturn, 1) := by decide +kernel
theorem dX7_told_108 : decode cX7_told 108 = .ok (.aload_n 0, 1) := by decide +kernel
theorem dX7_told_109 : decode cX7_told 109 = .ok (.getfield 64, 3) := by decide +kernel
theorem dX7_told_112 : decode cX7_told 112 = .ok (.getfield 109, 3) := by decide +kernel
theorem dX7_told_115 : decode cX7_told 115 = .ok (.ireturn, 1) := by decide +kernel
theorem dX7_told_116 : decode cX7_told 116 = .ok (.aload_n 0, 1) := by decide +kernel
theorem dX7_told_117 : decode cX7_told 117 = .ok (.getfield 10, 3) := by decide +kernel
theorem dX7_told_120 : decode cX7_told 120 = .ok (.getfield 127, 3) := by decide +kernel
theorem dX7_told_123 : decode cX7_told 123 = .ok (.ireturn, 1) := by decide +kernel
theorem dX7_told_124 : decode cX7_told 124 = .ok (.aload_n 0, 1) := by decide +kernel
theorem dX7_told_125 : decode cX7_told 125 = .ok (.getfield 19, 3) := by decide +kernel
theorem dX7_told_128 : decode cX7_told 128 = .ok (.getfield 130, 3) := by decide +kernel
theorem dX7_told_131 : decode cX7_told 131 = .ok (.ireturn, 1) := by decide +kernel
theorem dX7_told_132 : decode cX7_told 132 = .ok (.aload_n 0, 1) := by decide +kernel
theorem dX7_told_133 : decode cX7_told 133 = .ok (.getfield 19, 3) := by decide +kernel
theorem dX7_told_136 : decode cX7_told 136 = .ok (.invokevirtual 133, 3) := by decide +kernel
theorem dX7_told_139 : decode cX7_told 139 = .ok (.ireturn, 1) := by decide +kernel
theorem dX7_told_140 : decode cX7_told 140 = .ok (.aload_n 0, 1) := by decide +kernel
theorem dX7_told_141 : decode cX7_told 141 = .ok (.getfield 39, 3) := by decide +kernel
theorem dX7_told_144 : decode cX7_told 144 = .ok (.getfield 106, 3) := by decide +kernel
theorem dX7_told_147 : decode cX7_told 147 = .ok (.ireturn, 1) := by decide +kernel
theorem dX7_told_148 : decode cX7_told 148 = .ok (.aload_n 0, 1) := by decide +kernel
theorem dX7_told_149 : decode cX7_told 149 = .ok (.getfield 32, 3) := by decide +kernel
theorem dX7_told_152 : decode cX7_told 152 = .ok (.getfield 136, 3) := by decide +kernel
theorem dX7_told_155 : decode cX7_told 155 = .ok (.ireturn, 1) := by decide +kernel
theorem dX7_told_156 : decode cX7_told 156 = .ok (.ldc 75, 2) := by decide +kernel
theorem dX7_told_158 : decode cX7_told 158 = .ok (.ireturn, 1) := by decide +kernel
theorem dX7_weather_0 : decode cX7_weather 0 = .ok (.iload_n 1, 1) := by decide +kernel
theorem dX7_weather_1 : decode cX7_weather 1 = .ok (.invokestatic 139, 3) := by decide +kernel
theorem dX7_weather_4 : decode cX7_weather 4 = .ok (.ifCond .eq 12, 3) := by decide +kernel
theorem dX7_weather_7 : decode cX7_weather 7 = .ok (.iload_n 2, 1) := by decide +kernel
theorem dX7_weather_8 : decode cX7_weather 8 = .ok (.ifCond .lt 8, 3) := by decide +kernel
theorem dX7_weather_11 : decode cX7_weather 11 = .ok (.iload_n 2, 1) := by decide +kernel
theorem dX7_weather_12 : decode cX7_weather 12 = .ok (.iconst 2, 1) := by decide +kernel
theorem dX7_weather_13 : decode cX7_weather 13 = .ok (.if_icmp .le 6, 3) := by decide +kernel
theorem dX7_weather_16 : decode cX7_weather 16 = .ok (.ldc 75, 2) := by decide +kernel
theorem dX7_weather_18 : decode cX7_weather 18 = .ok (.ireturn, 1) := by decide +kernel
theorem dX7_weather_19 : decode cX7_weather 19 = .ok (.aload_n 0, 1) := by decide +kernel
theorem dX7_weather_20 : decode cX7_weather 20 = .ok (.getfield 64, 3) := by decide +kernel
theorem dX7_weather_23 : decode cX7_weather 23 = .ok (.getfield 112, 3) := by decide +kernel
theorem dX7_weather_26 : decode cX7_weather 26 = .ok (.ifCond .ne 6, 3) := by decide +kernel
theorem dX7_weather_29 : decode cX7_weather 29 = .ok (.ldc 143, 2) := by decide +kernel
theorem dX7_weather_31 : decode cX7_weather 31 = .ok (.ireturn, 1) := by decide +kernel
theorem dX7_weather_32 : decode cX7_weather 32 = .ok (.iload_n 2, 1) := by decide +kernel
theorem dX7_weather_33 : decode cX7_weather 33 = .ok (.ifCond .ne 12, 3) := by decide +kernel
theorem dX7_weather_36 : decode cX7_weather 36 = .ok (.aload_n 0, 1) := by decide +kernel
theorem dX7_weather_37 : decode cX7_weather 37 = .ok (.getfield 64, 3) := by decide +kernel
theorem dX7_weather_40 : decode cX7_weather 40 = .ok (.iload_n 1, 1) := by decide +kernel
theorem dX7_weather_41 : decode cX7_weather 41 = .ok (.invokevirtual 144, 3) := by decide +kernel
theorem dX7_weather_44 : decode cX7_weather 44 = .ok (.ireturn, 1) := by decide +kernel
theorem dX7_weather_45 : decode cX7_weather 45 = .ok (.iload_n 2, 1) := by decide +kernel
theorem dX7_weather_46 : decode cX7_weather 46 = .ok (.iconst 1, 1) := by decide +kernel
theorem dX7_weather_47 : decode cX7_weather 47 = .ok (.if_icmp .ne 25, 3) := by decide +kernel
theorem dX7_weather_50 : decode cX7_weather 50 = .ok (.aload_n 0, 1) := by decide +kernel
theorem dX7_weather_51 : decode cX7_weather 51 = .ok (.getfield 64, 3) := by decide +kernel
theorem dX7_weather_54 : decode cX7_weather 54 = .ok (.iload_n 1, 1) := by decide +kernel
theorem dX7_weather_55 : decode cX7_weather 55 = .ok (.aload_n 0, 1) := by decide +kernel
theorem dX7_weather_56 : decode cX7_weather 56 = .ok (.getfield 64, 3) := by decide +kernel
theorem dX7_weather_59 : decode cX7_weather 59 = .ok (.iload_n 1, 1) := by decide +kernel
theorem dX7_weather_60 : decode cX7_weather 60 = .ok (.bipush 12, 2) := by decide +kernel
theorem dX7_weather_62 : decode cX7_weather 62 = .ok (.idiv, 1) := by decide +kernel
theorem dX7_weather_63 : decode cX7_weather 63 = .ok (.invokevirtual 147, 3) := by decide +kernel
theorem dX7_weather_66 : decode cX7_weather 66 = .ok (.invokevirtual 150, 3) := by decide +kernel
theorem dX7_weather_69 : decode cX7_weather 69 = .ok (.goto 11, 3) := by decide +kernel
theorem dX7_weather_72 : decode cX7_weather 72 = .ok (.aload_n 0, 1) := by decide +kernel
theorem dX7_weather_73 : decode cX7_weather 73 = .ok (.getfield 64, 3) := by decide +kernel
theorem dX7_weather_76 : decode cX7_weather 76 = .ok (.iload_n 1, 1) := by decide +kernel
theorem dX7_weather_77 : decode cX7_weather 77 = .ok (.invokevirtual 154, 3) := by decide +kernel
theorem dX7_weather_80 : decode cX7_weather 80 = .ok (.ireturn, 1) := by decide +kernel
theorem dX7_hand_0 : decode cX7_hand 0 = .ok (.aload_n 0, 1) := by decide +kernel
theorem dX7_hand_1 : decode cX7_hand 1 = .ok (.getfield 64, 3) := by decide +kernel
theorem dX7_hand_4 : decode cX7_hand 4 = .ok (.iload_n 1, 1) := by decide +kernel
theorem dX7_hand_5 : decode cX7_hand 5 = .ok (.invokevirtual 157, 3) := by decide +kernel
theorem dX7_hand_8 : decode cX7_hand 8 = .ok (.ifCond .ne 6, 3) := by decide +kernel
theorem dX7_hand_11 : decode cX7_hand 11 = .ok (.ldc 160, 2) := by decide +kernel
theorem dX7_hand_13 : decode cX7_hand 13 = .ok (.ireturn, 1) := by decide +kernel
theorem dX7_hand_14 : decode cX7_hand 14 = .ok (.iload_n 2, 1) := by decide +kernel
theorem dX7_hand_15 : decode cX7_hand 15 = .ok (.tableswitch 55 0 2 #[25, 35, 45], 25) := by decide +kernel
theorem dX7_hand_40 : decode cX7_hand 40 = .ok (.aload_n 0, 1) := by decide +kernel
theorem dX7_hand_41 : decode cX7_hand 41 = .ok (.getfield 64, 3) := by decide +kernel
theorem dX7_hand_44 : decode cX7_hand 44 = .ok (.getfield 161, 3) := by decide +kernel
theorem dX7_hand_47 : decode cX7_hand 47 = .ok (.iload_n 1, 1) := by decide +kernel
theorem dX7_hand_48 : decode cX7_hand 48 = .ok (.iaload, 1) := by decide +kernel
theorem dX7_hand_49 : decode cX7_hand 49 = .ok (.ireturn, 1) := by decide +kernel
theorem dX7_hand_50 : decode cX7_hand 50 = .ok (.aload_n 0, 1) := by decide +kernel
theorem dX7_hand_51 : decode cX7_hand 51 = .ok (.getfield 64, 3) := by decide +kernel
theorem dX7_hand_54 : decode cX7_hand 54 = .ok (.getfield 164, 3) := by decide +kernel
theorem dX7_hand_57 : decode cX7_hand 57 = .ok (.iload_n 1, 1) := by decide +kernel
theorem dX7_hand_58 : decode cX7_hand 58 = .ok (.iaload, 1) := by decide +kernel
theorem dX7_hand_59 : decode cX7_hand 59 = .ok (.ireturn, 1) := by decide +kernel
theorem dX7_hand_60 : decode cX7_hand 60 = .ok (.aload_n 0, 1) := by decide +kernel
theorem dX7_hand_61 : decode cX7_hand 61 = .ok (.getfield 64, 3) := by decide +kernel
theorem dX7_hand_64 : decode cX7_hand 64 = .ok (.getfield 167, 3) := by decide +kernel
theorem dX7_hand_67 : decode cX7_hand 67 = .ok (.iload_n 1, 1) := by decide +kernel
theorem dX7_hand_68 : decode cX7_hand 68 = .ok (.iaload, 1) := by decide +kernel
theorem dX7_hand_69 : decode cX7_hand 69 = .ok (.ireturn, 1) := by decide +kernel
theorem dX7_hand_70 : decode cX7_hand 70 = .ok (.ldc 75, 2) := by decide +kernel
theorem dX7_hand_72 : decode cX7_hand 72 = .ok (.ireturn, 1) := by decide +kernel
theorem dX7_letter_0 : decode cX7_letter 0 = .ok (.aload_n 0, 1) := by decide +kernel
theorem dX7_letter_1 : decode cX7_letter 1 = .ok (.getfield 64, 3) := by decide +kernel
theorem dX7_letter_4 : decode cX7_letter 4 = .ok (.iload_n 1, 1) := by decide +kernel
theorem dX7_letter_5 : decode cX7_letter 5 = .ok (.invokevirtual 170, 3) := by decide +kernel
theorem dX7_letter_8 : decode cX7_letter 8 = .ok (.ifCond .ne 6, 3) := by decide +kernel
theorem dX7_letter_11 : decode cX7_letter 11 = .ok (.ldc 160, 2) := by decide +kernel
theorem dX7_letter_13 : decode cX7_letter 13 = .ok (.ireturn, 1) := by decide +kernel
theorem dX7_letter_14 : decode cX7_letter 14 = .ok (.iload_n 2, 1) := by decide +kernel
theorem dX7_letter_15 : decode cX7_letter 15 = .ok (.iconst (-1), 1) := by decide +kernel
theorem dX7_letter_16 : decode cX7_letter 16 = .ok (.if_icmp .ne 10, 3) := by decide +kernel
theorem dX7_letter_19 : decode cX7_letter 19 = .ok (.aload_n 0, 1) := by decide +kernel
theorem dX7_letter_20 : decode cX7_letter 20 = .ok (.iload_n 1, 1) := by decide +kernel
theorem dX7_letter_21 : decode cX7_letter 21 = .ok (.iload_n 3, 1) := by decide +kernel
theorem dX7_letter_22 : decode cX7_letter 22 = .ok (.invokevirtual 173, 3) := by decide +kernel
theorem dX7_letter_25 : decode cX7_letter 25 = .ok (.ireturn, 1) := by decide +kernel
theorem dX7_letter_26 : decode cX7_letter 26 = .ok (.aload_n 0, 1) := by decide +kernel
theorem dX7_letter_27 : decode cX7_letter 27 = .ok (.getfield 19, 3) := by decide +kernel
theorem dX7_letter_30 : decode cX7_letter 30 = .ok (.iload_n 1, 1) := by decide +kernel
theorem dX7_letter_31 : decode cX7_letter 31 = .ok (.iload_n 2, 1) := by decide +kernel
theorem dX7_letter_32 : decode cX7_letter 32 = .ok (.invokevirtual 176, 3) := by decide +kernel
theorem dX7_letter_35 : decode cX7_letter 35 = .ok (.ifCond .ne 6, 3) := by decide +kernel
theorem dX7_letter_38 : decode cX7_letter 38 = .ok (.ldc 160, 2) := by decide +kernel
theorem dX7_letter_40 : decode cX7_letter 40 = .ok (.ireturn, 1) := by decide +kernel
theorem dX7_letter_41 : decode cX7_letter 41 = .ok (.iload_n 3, 1) := by decide +kernel
theorem dX7_letter_42 : decode cX7_letter 42 = .ok (.tableswitch 101 0 4 #[34, 48, 58, 68, 83], 34) := by decide +kernel
theorem dX7_letter_76 : decode cX7_letter 76 = .ok (.aload_n 0, 1) := by decide +kernel
theorem dX7_letter_77 : decode cX7_letter 77 = .ok (.getfield 19, 3) := by decide +kernel
theorem dX7_letter_80 : decode cX7_letter 80 = .ok (.aload_n 0, 1) := by decide +kernel
theorem dX7_letter_81 : decode cX7_letter 81 = .ok (.getfield 64, 3) := by decide +kernel
theorem dX7_letter_84 : decode cX7_letter 84 = .ok (.iload_n 1, 1) := by decide +kernel
theorem dX7_letter_85 : decode cX7_letter 85 = .ok (.iload_n 2, 1) := by decide +kernel
theorem dX7_letter_86 : decode cX7_letter 86 = .ok (.invokevirtual 180, 3) := by decide +kernel
theorem dX7_letter_89 : decode cX7_letter 89 = .ok (.ireturn, 1) := by decide +kernel
theorem dX7_letter_90 : decode cX7_letter 90 = .ok (.aload_n 0, 1) := by decide +kernel
theorem dX7_letter_91 : decode cX7_letter 91 = .ok (.getfield 19, 3) := by decide +kernel
theorem dX7_letter_94 : decode cX7_letter 94 = .ok (.iload_n 1, 1) := by decide +kernel
theorem dX7_letter_95 : decode cX7_letter 95 = .ok (.iload_n 2, 1) := by decide +kernel
theorem dX7_letter_96 : decode cX7_letter 96 = .ok (.invokevirtual 184, 3) := by decide +kernel
theorem dX7_letter_99 : decode cX7_letter 99 = .ok (.ireturn, 1) := by decide +kernel
theorem dX7_letter_100 : decode cX7_letter 100 = .ok (.aload_n 0, 1) := by decide +kernel
theorem dX7_letter_101 : decode cX7_letter 101 = .ok (.getfield 19, 3) := by decide +kernel
theorem dX7_letter_104 : decode cX7_letter 104 = .ok (.iload_n 1, 1) := by decide +kernel
theorem dX7_letter_105 : decode cX7_letter 105 = .ok (.iload_n 2, 1) := by decide +kernel
theorem dX7_letter_106 : decode cX7_letter 106 = .ok (.invokevirtual 187, 3) := by decide +kernel
theorem dX7_letter_109 : decode cX7_letter 109 = .ok (.ireturn, 1) := by decide +kernel
theorem dX7_letter_110 : decode cX7_letter 110 = .ok (.aload_n 0, 1) := by decide +kernel
theorem dX7_letter_111 : decode cX7_letter 111 = .ok (.iload_n 1, 1) := by decide +kernel
theorem dX7_letter_112 : decode cX7_letter 112 = .ok (.iload_n 2, 1) := by decide +kernel
theorem dX7_letter_113 : decode cX7_letter 113 = .ok (.invokevirtual 190, 3) := by decide +kernel
theorem dX7_letter_116 : decode cX7_letter 116 = .ok (.ifCond .eq 7, 3) := by decide +kernel
theorem dX7_letter_119 : decode cX7_letter 119 = .ok (.iconst 1, 1) := by decide +kernel
theorem dX7_letter_120 : decode cX7_letter 120 = .ok (.goto 4, 3) := by decide +kernel
theorem dX7_letter_123 : decode cX7_letter 123 = .ok (.iconst 0, 1) := by decide +kernel
theorem dX7_letter_124 : decode cX7_letter 124 = .ok (.ireturn, 1) := by decide +kernel
theorem dX7_letter_125 : decode cX7_letter 125 = .ok (.aload_n 0, 1) := by decide +kernel
theorem dX7_letter_126 : decode cX7_letter 126 = .ok (.getfield 19, 3) := by decide +kernel
theorem dX7_letter_129 : decode cX7_letter 129 = .ok (.iload_n 1, 1) := by decide +kernel
theorem dX7_letter_130 : decode cX7_letter 130 = .ok (.iload_n 2, 1) := by decide +kernel
theorem dX7_letter_131 : decode cX7_letter 131 = .ok (.invokevirtual 193, 3) := by decide +kernel
theorem dX7_letter_134 : decode cX7_letter 134 = .ok (.ifCond .eq 7, 3) := by decide +kernel
theorem dX7_letter_137 : decode cX7_letter 137 = .ok (.iconst 1, 1) := by decide +kernel
theorem dX7_letter_138 : decode cX7_letter 138 = .ok (.goto 4, 3) := by decide +kernel
theorem dX7_letter_141 : decode cX7_letter 141 = .ok (.iconst 0, 1) := by decide +kernel
theorem dX7_letter_142 : decode cX7_letter 142 = .ok (.ireturn, 1) := by decide +kernel
theorem dX7_letter_143 : decode cX7_letter 143 = .ok (.ldc 75, 2) := by decide +kernel
theorem dX7_letter_145 : decode cX7_letter 145 = .ok (.ireturn, 1) := by decide +kernel
theorem dX7_add_0 : decode cX7_add 0 = .ok (.aload_n 0, 1) := by decide +kernel
theorem dX7_add_1 : decode cX7_add 1 = .ok (.getfield 64, 3) := by decide +kernel
theorem dX7_add_4 : decode cX7_add 4 = .ok (.iload_n 1, 1) := by decide +kernel
theorem dX7_add_5 : decode cX7_add 5 = .ok (.invokevirtual 170, 3) := by decide +kernel
theorem dX7_add_8 : decode cX7_add 8 = .ok (.ifCond .eq 14, 3) := by decide +kernel
theorem dX7_add_11 : decode cX7_add 11 = .ok (.aload_n 0, 1) := by decide +kernel
theorem dX7_add_12 : decode cX7_add 12 = .ok (.getfield 64, 3) := by decide +kernel
theorem dX7_add_15 : decode cX7_add 15 = .ok (.iload_n 2, 1) := by decide +kernel
theorem dX7_add_16 : decode cX7_add 16 = .ok (.invokevirtual 157, 3) := by decide +kernel
theorem dX7_add_19 : decode cX7_add 19 = .ok (.ifCond .ne 6, 3) := by decide +kernel
theorem dX7_add_22 : decode cX7_add 22 = .ok (.ldc 160, 2) := by decide +kernel
theorem dX7_add_24 : decode cX7_add 24 = .ok (.ireturn, 1) := by decide +kernel
theorem dX7_add_25 : decode cX7_add 25 = .ok (.iload_n 3, 1) := by decide +kernel
theorem dX7_add_26 : decode cX7_add 26 = .ok (.invokestatic 139, 3) := by decide +kernel
theorem dX7_add_29 : decode cX7_add 29 = .ok (.ifCond .ne 6, 3) := by decide +kernel
theorem dX7_add_32 : decode cX7_add 32 = .ok (.ldc 75, 2) := by decide +kernel
theorem dX7_add_34 : decode cX7_add 34 = .ok (.ireturn, 1) := by decide +kernel
theorem dX7_add_35 : decode cX7_add 35 = .ok (.iload 4, 2) := by decide +kernel
theorem dX7_add_37 : decode cX7_add 37 = .ok (.ifCond .eq 17, 3) := by decide +kernel
theorem dX7_add_40 : decode cX7_add 40 = .ok (.aload_n 0, 1) := by decide +kernel
theorem dX7_add_41 : decode cX7_add 41 = .ok (.getfield 19, 3) := by decide +kernel
theorem dX7_add_44 : decode cX7_add 44 = .ok (.getfield 130, 3) := by decide +kernel
theorem dX7_add_47 : decode cX7_add 47 = .ok (.iconst (-1), 1) := by decide +kernel
theorem dX7_add_48 : decode cX7_add 48 = .ok (.if_icmp .ne 6, 3) := by decide +kernel
theorem dX7_add_51 : decode cX7_add 51 = .ok (.ldc 143, 2) := by decide +kernel
theorem dX7_add_53 : decode cX7_add 53 = .ok (.ireturn, 1) := by decide +kernel
theorem dX7_add_54 : decode cX7_add 54 = .ok (.aload_n 0, 1) := by decide +kernel
theorem dX7_add_55 : decode cX7_add 55 = .ok (.getfield 19, 3) := by decide +kernel
theorem dX7_add_58 : decode cX7_add 58 = .ok (.iload_n 1, 1) := by decide +kernel
theorem dX7_add_59 : decode cX7_add 59 = .ok (.invokevirtual 196, 3) := by decide +kernel
theorem dX7_add_62 : decode cX7_add 62 = .ok (.ifCond .eq 6, 3) := by decide +kernel
theorem dX7_add_65 : decode cX7_add 65 = .ok (.ldc 199, 2) := by decide +kernel
theorem dX7_add_67 : decode cX7_add 67 = .ok (.ireturn, 1) := by decide +kernel
theorem dX7_add_68 : decode cX7_add 68 = .ok (.aload_n 0, 1) := by decide +kernel
theorem dX7_add_69 : decode cX7_add 69 = .ok (.iload_n 1, 1) := by decide +kernel
theorem dX7_add_70 : decode cX7_add 70 = .ok (.iload_n 2, 1) := by decide +kernel
theorem dX7_add_71 : decode cX7_add 71 = .ok (.iload_n 3, 1) := by decide +kernel
theorem dX7_add_72 : decode cX7_add 72 = .ok (.iload 4, 2) := by decide +kernel
theorem dX7_add_74 : decode cX7_add 74 = .ok (.ifCond .eq 13, 3) := by decide +kernel
theorem dX7_add_77 : decode cX7_add 77 = .ok (.aload_n 0, 1) := by decide +kernel
theorem dX7_add_78 : decode cX7_add 78 = .ok (.getfield 19, 3) := by decide +kernel
theorem dX7_add_81 : decode cX7_add 81 = .ok (.getfield 130, 3) := by decide +kernel
theorem dX7_add_84 : decode cX7_add 84 = .ok (.goto 4, 3) := by decide +kernel
theorem dX7_add_87 : decode cX7_add 87 = .ok (.iconst (-1), 1) := by decide +kernel
theorem dX7_add_88 : decode cX7_add 88 = .ok (.invokevirtual 200, 3) := by decide +kernel
theorem dX7_add_91 : decode cX7_add 91 = .ok (.aload_n 0, 1) := by decide +kernel
theorem dX7_add_92 : decode cX7_add 92 = .ok (.getfield 19, 3) := by decide +kernel
theorem dX7_add_95 : decode cX7_add 95 = .ok (.iload_n 1, 1) := by decide +kernel
theorem dX7_add_96 : decode cX7_add 96 = .ok (.invokevirtual 204, 3) := by decide +kernel
theorem dX7_add_99 : decode cX7_add 99 = .ok (.ireturn, 1) := by decide +kernel
theorem dX7_blot_0 : decode cX7_blot 0 = .ok (.aload_n 0, 1) := by decide +kernel
theorem dX7_blot_1 : decode cX7_blot 1 = .ok (.getfield 64, 3) := by decide +kernel
theorem dX7_blot_4 : decode cX7_blot 4 = .ok (.iload_n 1, 1) := by decide +kernel
theorem dX7_blot_5 : decode cX7_blot 5 = .ok (.invokevirtual 170, 3) := by decide +kernel
theorem dX7_blot_8 : decode cX7_blot 8 = .ok (.ifCond .ne 6, 3) := by decide +kernel
theorem dX7_blot_11 : decode cX7_blot 11 = .ok (.ldc 160, 2) := by decide +kernel
theorem dX7_blot_13 : decode cX7_blot 13 = .ok (.ireturn, 1) := by decide +kernel
theorem dX7_blot_14 : decode cX7_blot 14 = .ok (.aload_n 0, 1) := by decide +kernel
theorem dX7_blot_15 : decode cX7_blot 15 = .ok (.getfield 19, 3) := by decide +kernel
theorem dX7_blot_18 : decode cX7_blot 18 = .ok (.iload_n 1, 1) := by decide +kernel
theorem dX7_blot_19 : decode cX7_blot 19 = .ok (.invokevirtual 204, 3) := by decide +kernel
theorem dX7_blot_22 : decode cX7_blot 22 = .ok (.iconst 1, 1) := by decide +kernel
theorem dX7_blot_23 : decode cX7_blot 23 = .ok (.isub, 1) := by decide +kernel
theorem dX7_blot_24 : decode cX7_blot 24 = .ok (.istore_n 2, 1) := by decide +kernel
theorem dX7_blot_25 : decode cX7_blot 25 = .ok (.iload_n 2, 1) := by decide +kernel
theorem dX7_blot_26 : decode cX7_blot 26 = .ok (.ifCond .ge 6, 3) := by decide +kernel
theorem dX7_blot_29 : decode cX7_blot 29 = .ok (.ldc 143, 2) := by decide +kernel
theorem dX7_blot_31 : decode cX7_blot 31 = .ok (.ireturn, 1) := by decide +kernel
theorem dX7_blot_32 : decode cX7_blot 32 = .ok (.aload_n 0, 1) := by decide +kernel
theorem dX7_blot_33 : decode cX7_blot 33 = .ok (.getfield 19, 3) := by decide +kernel
theorem dX7_blot_36 : decode cX7_blot 36 = .ok (.aload_n 0, 1) := by decide +kernel
theorem dX7_blot_37 : decode cX7_blot 37 = .ok (.getfield 64, 3) := by decide +kernel
theorem dX7_blot_40 : decode cX7_blot 40 = .ok (.iload_n 1, 1) := by decide +kernel
theorem dX7_blot_41 : decode cX7_blot 41 = .ok (.iload_n 2, 1) := by decide +kernel
theorem dX7_blot_42 : decode cX7_blot 42 = .ok (.invokevirtual 180, 3) := by decide +kernel
theorem dX7_blot_45 : decode cX7_blot 45 = .ok (.istore_n 3, 1) := by decide +kernel
theorem dX7_blot_46 : decode cX7_blot 46 = .ok (.aload_n 0, 1) := by decide +kernel
theorem dX7_blot_47 : decode cX7_blot 47 = .ok (.getfield 32, 3) := by decide +kernel
theorem dX7_blot_50 : decode cX7_blot 50 = .ok (.iload_n 1, 1) := by decide +kernel
theorem dX7_blot_51 : decode cX7_blot 51 = .ok (.aload_n 0, 1) := by decide +kernel
theorem dX7_blot_52 : decode cX7_blot 52 = .ok (.getfield 19, 3) := by decide +kernel
theorem dX7_blot_55 : decode cX7_blot 55 = .ok (.iload_n 1, 1) := by decide +kernel
theorem dX7_blot_56 : decode cX7_blot 56 = .ok (.iload_n 2, 1) := by decide +kernel
theorem dX7_blot_57 : decode cX7_blot 57 = .ok (.invokevirtual 187, 3) := by decide +kernel
theorem dX7_blot_60 : decode cX7_blot 60 = .ok (.aload_n 0, 1) := by decide +kernel
theorem dX7_blot_61 : decode cX7_blot 61 = .ok (.getfield 19, 3) := by decide +kernel
theorem dX7_blot_64 : decode cX7_blot 64 = .ok (.iload_n 1, 1) := by decide +kernel
theorem dX7_blot_65 : decode cX7_blot 65 = .ok (.iload_n 2, 1) := by decide +kernel
theorem dX7_blot_66 : decode cX7_blot 66 = .ok (.invokevirtual 184, 3) := by decide +kernel
theorem dX7_blot_69 : decode cX7_blot 69 = .ok (.aload_n 0, 1) := by decide +kernel
theorem dX7_blot_70 : decode cX7_blot 70 = .ok (.getfield 19, 3) := by decide +kernel
theorem dX7_blot_73 : decode cX7_blot 73 = .ok (.iload_n 1, 1) := by decide +kernel
theorem dX7_blot_74 : decode cX7_blot 74 = .ok (.iload_n 2, 1) := by decide +kernel
theorem dX7_blot_75 : decode cX7_blot 75 = .ok (.invokevirtual 207, 3) := by decide +kernel
theorem dX7_blot_78 : decode cX7_blot 78 = .ok (.invokevirtual 210, 3) := by decide +kernel
theorem dX7_blot_81 : decode cX7_blot 81 = .ok (.aload_n 0, 1) := by decide +kernel
theorem dX7_blot_82 : decode cX7_blot 82 = .ok (.getfield 19, 3) := by decide +kernel
theorem dX7_blot_85 : decode cX7_blot 85 = .ok (.iload_n 1, 1) := by decide +kernel
theorem dX7_blot_86 : decode cX7_blot 86 = .ok (.invokevirtual 213, 3) := by decide +kernel
theorem dX7_blot_89 : decode cX7_blot 89 = .ok (.iload_n 3, 1) := by decide +kernel
theorem dX7_blot_90 : decode cX7_blot 90 = .ok (.ireturn, 1) := by decide +kernel
theorem dX7_bottle_0 : decode cX7_bottle 0 = .ok (.iload_n 1, 1) := by decide +kernel
theorem dX7_bottle_1 : decode cX7_bottle 1 = .ok (.iconst (-1), 1) := by decide +kernel
theorem dX7_bottle_2 : decode cX7_bottle 2 = .ok (.if_icmp .eq 13, 3) := by decide +kernel
theorem dX7_bottle_5 : decode cX7_bottle 5 = .ok (.iload_n 1, 1) := by decide +kernel
theorem dX7_bottle_6 : decode cX7_bottle 6 = .ok (.invokestatic 139, 3) := by decide +kernel
theorem dX7_bottle_9 : decode cX7_bottle 9 = .ok (.ifCond .ne 6, 3) := by decide +kernel
theorem dX7_bottle_12 : decode cX7_bottle 12 = .ok (.ldc 75, 2) := by decide +kernel
theorem dX7_bottle_14 : decode cX7_bottle 14 = .ok (.ireturn, 1) := by decide +kernel
theorem dX7_bottle_15 : decode cX7_bottle 15 = .ok (.aload_n 0, 1) := by decide +kernel
theorem dX7_bottle_16 : decode cX7_bottle 16 = .ok (.getfield 64, 3) := by decide +kernel
theorem dX7_bottle_19 : decode cX7_bottle 19 = .ok (.getfield 112, 3) := by decide +kernel
theorem dX7_bottle_22 : decode cX7_bottle 22 = .ok (.ifCond .ne 6, 3) := by decide +kernel
theorem dX7_bottle_25 : decode cX7_bottle 25 = .ok (.ldc 143, 2) := by decide +kernel
theorem dX7_bottle_27 : decode cX7_bottle 27 = .ok (.ireturn, 1) := by decide +kernel
theorem dX7_bottle_28 : decode cX7_bottle 28 = .ok (.aload_n 0, 1) := by decide +kernel
theorem dX7_bottle_29 : decode cX7_bottle 29 = .ok (.getfield 19, 3) := by decide +kernel
theorem dX7_bottle_32 : decode cX7_bottle 32 = .ok (.getfield 130, 3) := by decide +kernel
theorem dX7_bottle_35 : decode cX7_bottle 35 = .ok (.istore_n 2, 1) := by decide +kernel
theorem dX7_bottle_36 : decode cX7_bottle 36 = .ok (.aload_n 0, 1) := by decide +kernel
theorem dX7_bottle_37 : decode cX7_bottle 37 = .ok (.getfield 32, 3) := by decide +kernel
theorem dX7_bottle_40 : decode cX7_bottle 40 = .ok (.iload_n 2, 1) := by decide +kernel
theorem dX7_bottle_41 : decode cX7_bottle 41 = .ok (.invokevirtual 217, 3) := by decide +kernel
theorem dX7_bottle_44 : decode cX7_bottle 44 = .ok (.aload_n 0, 1) := by decide +kernel
theorem dX7_bottle_45 : decode cX7_bottle 45 = .ok (.getfield 19, 3) := by decide +kernel
theorem dX7_bottle_48 : decode cX7_bottle 48 = .ok (.iload_n 1, 1) := by decide +kernel
theorem dX7_bottle_49 : decode cX7_bottle 49 = .ok (.putfield 130, 3) := by decide +kernel
theorem dX7_bottle_52 : decode cX7_bottle 52 = .ok (.iload_n 2, 1) := by decide +kernel
theorem dX7_bottle_53 : decode cX7_bottle 53 = .ok (.ireturn, 1) := by decide +kernel
theorem dX7_drift_0 : decode cX7_drift 0 = .ok (.iload_n 1, 1) := by decide +kernel
theorem dX7_drift_1 : decode cX7_drift 1 = .ok (.iconst 1, 1) := by decide +kernel
theorem dX7_drift_2 : decode cX7_drift 2 = .ok (.if_icmp .lt 9, 3) := by decide +kernel
theorem dX7_drift_5 : decode cX7_drift 5 = .ok (.iload_n 1, 1) := by decide +kernel
theorem dX7_drift_6 : decode cX7_drift 6 = .ok (.bipush 30, 2) := by decide +kernel
theorem dX7_drift_8 : decode cX7_drift 8 = .ok (.if_icmp .le 6, 3) := by decide +kernel
theorem dX7_drift_11 : decode cX7_drift 11 = .ok (.ldc 75, 2) := by decide +kernel
theorem dX7_drift_13 : decode cX7_drift 13 = .ok (.ireturn, 1) := by decide +kernel
theorem dX7_drift_14 : decode cX7_drift 14 = .ok (.aload_n 0, 1) := by decide +kernel
theorem dX7_drift_15 : decode cX7_drift 15 = .ok (.getfield 64, 3) := by decide +kernel
theorem dX7_drift_18 : decode cX7_drift 18 = .ok (.getfield 124, 3) := by decide +kernel
theorem dX7_drift_21 : decode cX7_drift 21 = .ok (.iconst 1, 1) := by decide +kernel
theorem dX7_drift_22 : decode cX7_drift 22 = .ok (.if_icmp .lt 14, 3) := by decide +kernel
theorem dX7_drift_25 : decode cX7_drift 25 = .ok (.aload_n 0, 1) := by decide +kernel
theorem dX7_drift_26 : decode cX7_drift 26 = .ok (.getfield 64, 3) := by decide +kernel
theorem dX7_drift_29 : decode cX7_drift 29 = .ok (.getfield 109, 3) := by decide +kernel
theorem dX7_drift_32 : decode cX7_drift 32 = .ok (.iconst 1, 1) := by decide +kernel
theorem dX7_drift_33 : decode cX7_drift 33 = .ok (.if_icmp .ge 6, 3) := by decide +kernel
theorem dX7_drift_36 : decode cX7_drift 36 = .ok (.ldc 143, 2) := by decide +kernel
theorem dX7_drift_38 : decode cX7_drift 38 = .ok (.ireturn, 1) := by decide +kernel
theorem dX7_drift_39 : decode cX7_drift 39 = .ok (.iconst 0, 1) := by decide +kernel
theorem dX7_drift_40 : decode cX7_drift 40 = .ok (.istore_n 2, 1) := by decide +kernel
theorem dX7_drift_41 : decode cX7_drift 41 = .ok (.iload_n 2, 1) := by decide +kernel
theorem dX7_drift_42 : decode cX7_drift 42 = .ok (.iload_n 1, 1) := by decide +kernel
theorem dX7_drift_43 : decode cX7_drift 43 = .ok (.if_icmp .ge 72, 3) := by decide +kernel
theorem dX7_drift_46 : decode cX7_drift 46 = .ok (.aload_n 0, 1) := by decide +kernel
theorem dX7_drift_47 : decode cX7_drift 47 = .ok (.getfield 19, 3) := by decide +kernel
theorem dX7_drift_50 : decode cX7_drift 50 = .ok (.aload_n 0, 1) := by decide +kernel
theorem dX7_drift_51 : decode cX7_drift 51 = .ok (.getfield 64, 3) := by decide +kernel
theorem dX7_drift_54 : decode cX7_drift 54 = .ok (.getfield 109, 3) := by decide +kernel
theorem dX7_drift_57 : decode cX7_drift 57 = .ok (.invokevirtual 220, 3) := by decide +kernel
theorem dX7_drift_60 : decode cX7_drift 60 = .ok (.istore_n 3, 1) := by decide +kernel
theorem dX7_drift_61 : decode cX7_drift 61 = .ok (.aload_n 0, 1) := by decide +kernel
theorem dX7_drift_62 : decode cX7_drift 62 = .ok (.getfield 19, 3) := by decide +kernel
theorem dX7_drift_65 : decode cX7_drift 65 = .ok (.aload_n 0, 1) := by decide +kernel
theorem dX7_drift_66 : decode cX7_drift 66 = .ok (.getfield 64, 3) := by decide +kernel
theorem dX7_drift_69 : decode cX7_drift 69 = .ok (.getfield 124, 3) := by decide +kernel
theorem dX7_drift_72 : decode cX7_drift 72 = .ok (.invokevirtual 220, 3) := by decide +kernel
theorem dX7_drift_75 : decode cX7_drift 75 = .ok (.istore 4, 2) := by decide +kernel
theorem dX7_drift_77 : decode cX7_drift 77 = .ok (.aload_n 0, 1) := by decide +kernel
theorem dX7_drift_78 : decode cX7_drift 78 = .ok (.getfield 19, 3) := by decide +kernel
theorem dX7_drift_81 : decode cX7_drift 81 = .ok (.bipush 96, 2) := by decide +kernel
theorem dX7_drift_83 : decode cX7_drift 83 = .ok (.invokevirtual 220, 3) := by decide +kernel
theorem dX7_drift_86 : decode cX7_drift 86 = .ok (.istore 5, 2) := by decide +kernel
theorem dX7_drift_88 : decode cX7_drift 88 = .ok (.aload_n 0, 1) := by decide +kernel
theorem dX7_drift_89 : decode cX7_drift 89 = .ok (.getfield 19, 3) := by decide +kernel
theorem dX7_drift_92 : decode cX7_drift 92 = .ok (.iload_n 3, 1) := by decide +kernel
theorem dX7_drift_93 : decode cX7_drift 93 = .ok (.invokevirtual 196, 3) := by decide +kernel
theorem dX7_drift_96 : decode cX7_drift 96 = .ok (.ifCond .ne 13, 3) := by decide +kernel
theorem dX7_drift_99 : decode cX7_drift 99 = .ok (.aload_n 0, 1) := by decide +kernel
theorem dX7_drift_100 : decode cX7_drift 100 = .ok (.iload_n 3, 1) := by decide +kernel
theorem dX7_drift_101 : decode cX7_drift 101 = .ok (.iload 4, 2) := by decide +kernel
theorem dX7_drift_103 : decode cX7_drift 103 = .ok (.iload 5, 2) := by decide +kernel
theorem dX7_drift_105 : decode cX7_drift 105 = .ok (.iconst (-1), 1) := by decide +kernel
theorem dX7_drift_106 : decode cX7_drift 106 = .ok (.invokevirtual 200, 3) := by decide +kernel
theorem dX7_drift_109 : decode cX7_drift 109 = .ok (.iinc 2 1, 3) := by decide +kernel
theorem dX7_drift_112 : decode cX7_drift 112 = .ok (.goto (-71), 3) := by decide +kernel
theorem dX7_drift_115 : decode cX7_drift 115 = .ok (.aload_n 0, 1) := by decide +kernel
theorem dX7_drift_116 : decode cX7_drift 116 = .ok (.getfield 19, 3) := by decide +kernel
theorem dX7_drift_119 : decode cX7_drift 119 = .ok (.invokevirtual 133, 3) := by decide +kernel
theorem dX7_drift_122 : decode cX7_drift 122 = .ok (.ireturn, 1) := by decide +kernel
theorem dX7_undo_0 : decode cX7_undo 0 = .ok (.iload_n 1, 1) := by decide +kernel
theorem dX7_undo_1 : decode cX7_undo 1 = .ok (.iconst 1, 1) := by decide +kernel
theorem dX7_undo_2 : decode cX7_undo 2 = .ok (.if_icmp .lt 9, 3) := by decide +kernel
theorem dX7_undo_5 : decode cX7_undo 5 = .ok (.iload_n 1, 1) := by decide +kernel
theorem dX7_undo_6 : decode cX7_undo 6 = .ok (.bipush 30, 2) := by decide +kernel
theorem dX7_undo_8 : decode cX7_undo 8 = .ok (.if_icmp .le 6, 3) := by decide +kernel
theorem dX7_undo_11 : decode cX7_undo 11 = .ok (.ldc 75, 2) := by decide +kernel
theorem dX7_undo_13 : decode cX7_undo 13 = .ok (.ireturn, 1) := by decide +kernel
theorem dX7_undo_14 : decode cX7_undo 14 = .ok (.iload_n 1, 1) := by decide +kernel
theorem dX7_undo_15 : decode cX7_undo 15 = .ok (.aload_n 0, 1) := by decide +kernel
theorem dX7_undo_16 : decode cX7_undo 16 = .ok (.getfield 32, 3) := by decide +kernel
theorem dX7_undo_19 : decode cX7_undo 19 = .ok (.getfield 136, 3) := by decide +kernel
theorem dX7_undo_22 : decode cX7_undo 22 = .ok (.if_icmp .le 6, 3) := by decide +kernel
theorem dX7_undo_25 : decode cX7_undo 25 = .ok (.ldc 143, 2) := by decide +kernel
theorem dX7_undo_27 : decode cX7_undo 27 = .ok (.ireturn, 1) := by decide +kernel
theorem dX7_undo_28 : decode cX7_undo 28 = .ok (.iconst 0, 1) := by decide +kernel
theorem dX7_undo_29 : decode cX7_undo 29 = .ok (.istore_n 2, 1) := by decide +kernel
theorem dX7_undo_30 : decode cX7_undo 30 = .ok (.iload_n 2, 1) := by decide +kernel
theorem dX7_undo_31 : decode cX7_undo 31 = .ok (.iload_n 1, 1) := by decide +kernel
theorem dX7_undo_32 : decode cX7_undo 32 = .ok (.if_icmp .ge 20, 3) := by decide +kernel
theorem dX7_undo_35 : decode cX7_undo 35 = .ok (.aload_n 0, 1) := by decide +kernel
theorem dX7_undo_36 : decode cX7_undo 36 = .ok (.getfield 32, 3) := by decide +kernel
theorem dX7_undo_39 : decode cX7_undo 39 = .ok (.aload_n 0, 1) := by decide +kernel
theorem dX7_undo_40 : decode cX7_undo 40 = .ok (.getfield 19, 3) := by decide +kernel
theorem dX7_undo_43 : decode cX7_undo 43 = .ok (.invokevirtual 223, 3) := by decide +kernel
theorem dX7_undo_46 : decode cX7_undo 46 = .ok (.iinc 2 1, 3) := by decide +kernel
theorem dX7_undo_49 : decode cX7_undo 49 = .ok (.goto (-19), 3) := by decide +kernel
theorem dX7_undo_52 : decode cX7_undo 52 = .ok (.aload_n 0, 1) := by decide +kernel
theorem dX7_undo_53 : decode cX7_undo 53 = .ok (.getfield 19, 3) := by decide +kernel
theorem dX7_undo_56 : decode cX7_undo 56 = .ok (.invokevirtual 133, 3) := by decide +kernel
theorem dX7_undo_59 : decode cX7_undo 59 = .ok (.ireturn, 1) := by decide +kernel
theorem dX7_look_0 : decode cX7_look 0 = .ok (.aload_n 0, 1) := by decide +kernel
theorem dX7_look_1 : decode cX7_look 1 = .ok (.getfield 64, 3) := by decide +kernel
theorem dX7_look_4 : decode cX7_look 4 = .ok (.iload_n 1, 1) := by decide +kernel
theorem dX7_look_5 : decode cX7_look 5 = .ok (.invokevirtual 157, 3) := by decide +kernel
theorem dX7_look_8 : decode cX7_look 8 = .ok (.ifCond .ne 6, 3) := by decide +kernel
theorem dX7_look_11 : decode cX7_look 11 = .ok (.ldc 160, 2) := by decide +kernel
theorem dX7_look_13 : decode cX7_look 13 = .ok (.ireturn, 1) := by decide +kernel
theorem dX7_look_14 : decode cX7_look 14 = .ok (.iload_n 2, 1) := by decide +kernel
theorem dX7_look_15 : decode cX7_look 15 = .ok (.invokestatic 139, 3) := by decide +kernel
theorem dX7_look_18 : decode cX7_look 18 = .ok (.ifCond .eq 15, 3) := by decide +kernel
theorem dX7_look_21 : decode cX7_look 21 = .ok (.aload_n 0, 1) := by decide +kernel
theorem dX7_look_22 : decode cX7_look 22 = .ok (.getfield 64, 3) := by decide +kernel
theorem dX7_look_25 : decode cX7_look 25 = .ok (.iload_n 1, 1) := by decide +kernel
theorem dX7_look_26 : decode cX7_look 26 = .ok (.iload_n 2, 1) := by decide +kernel
theorem dX7_look_27 : decode cX7_look 27 = .ok (.invokevirtual 227, 3) := by decide +kernel
theorem dX7_look_30 : decode cX7_look 30 = .ok (.goto 5, 3) := by decide +kernel
theorem dX7_look_33 : decode cX7_look 33 = .ok (.ldc 75, 2) := by decide +kernel
theorem dX7_look_35 : decode cX7_look 35 = .ok (.ireturn, 1) := by decide +kernel
theorem dX7_written_0 : decode cX7_written 0 = .ok (.aload_n 0, 1) := by decide +kernel
theorem dX7_written_1 : decode cX7_written 1 = .ok (.getfield 64, 3) := by decide +kernel
theorem dX7_written_4 : decode cX7_written 4 = .ok (.iload_n 1, 1) := by decide +kernel
theorem dX7_written_5 : decode cX7_written 5 = .ok (.invokevirtual 170, 3) := by decide +kernel
theorem dX7_written_8 : decode cX7_written 8 = .ok (.ifCond .eq 26, 3) := by decide +kernel
theorem dX7_written_11 : decode cX7_written 11 = .ok (.aload_n 0, 1) := by decide +kernel
theorem dX7_written_12 : decode cX7_written 12 = .ok (.getfield 19, 3) := by decide +kernel
theorem dX7_written_15 : decode cX7_written 15 = .ok (.iload_n 1, 1) := by decide +kernel
theorem dX7_written_16 : decode cX7_written 16 = .ok (.iload_n 2, 1) := by decide +kernel
theorem dX7_written_17 : decode cX7_written 17 = .ok (.invokevirtual 176, 3) := by decide +kernel
theorem dX7_written_20 : decode cX7_written 20 = .ok (.ifCond .eq 14, 3) := by decide +kernel
theorem dX7_written_23 : decode cX7_written 23 = .ok (.aload_n 0, 1) := by decide +kernel
theorem dX7_written_24 : decode cX7_written 24 = .ok (.getfield 64, 3) := by decide +kernel
theorem dX7_written_27 : decode cX7_written 27 = .ok (.iload_n 3, 1) := by decide +kernel
theorem dX7_written_28 : decode cX7_written 28 = .ok (.invokevirtual 157, 3) := by decide +kernel
theorem dX7_written_31 : decode cX7_written 31 = .ok (.ifCond .ne 6, 3) := by decide +kernel
theorem dX7_written_34 : decode cX7_written 34 = .ok (.ldc 160, 2) := by decide +kernel
theorem dX7_written_36 : decode cX7_written 36 = .ok (.ireturn, 1) := by decide +kernel
theorem dX7_written_37 : decode cX7_written 37 = .ok (.aload_n 0, 1) := by decide +kernel
theorem dX7_written_38 : decode cX7_written 38 = .ok (.getfield 64, 3) := by decide +kernel
theorem dX7_written_41 : decode cX7_written 41 = .ok (.iload_n 3, 1) := by decide +kernel
theorem dX7_written_42 : decode cX7_written 42 = .ok (.aload_n 0, 1) := by decide +kernel
theorem dX7_written_43 : decode cX7_written 43 = .ok (.getfield 19, 3) := by decide +kernel
theorem dX7_written_46 : decode cX7_written 46 = .ok (.aload_n 0, 1) := by decide +kernel
theorem dX7_written_47 : decode cX7_written 47 = .ok (.getfield 64, 3) := by decide +kernel
theorem dX7_written_50 : decode cX7_written 50 = .ok (.iload_n 1, 1) := by decide +kernel
theorem dX7_written_51 : decode cX7_written 51 = .ok (.iload_n 2, 1) := by decide +kernel
theorem dX7_written_52 : decode cX7_written 52 = .ok (.invokevirtual 180, 3) := by decide +kernel
theorem dX7_written_55 : decode cX7_written 55 = .ok (.iload 4, 2) := by decide +kernel
theorem dX7_written_57 : decode cX7_written 57 = .ok (.invokevirtual 230, 3) := by decide +kernel
theorem dX7_written_60 : decode cX7_written 60 = .ok (.ireturn, 1) := by decide +kernel
theorem dX7_who_0 : decode cX7_who 0 = .ok (.aload_n 0, 1) := by decide +kernel
theorem dX7_who_1 : decode cX7_who 1 = .ok (.getfield 64, 3) := by decide +kernel
theorem dX7_who_4 : decode cX7_who 4 = .ok (.iload_n 1, 1) := by decide +kernel
theorem dX7_who_5 : decode cX7_who 5 = .ok (.invokevirtual 170, 3) := by decide +kernel
theorem dX7_who_8 : decode cX7_who 8 = .ok (.ifCond .eq 15, 3) := by decide +kernel
theorem dX7_who_11 : decode cX7_who 11 = .ok (.aload_n 0, 1) := by decide +kernel
theorem dX7_who_12 : decode cX7_who 12 = .ok (.getfield 19, 3) := by decide +kernel
theorem dX7_who_15 : decode cX7_who 15 = .ok (.iload_n 1, 1) := by decide +kernel
theorem dX7_who_16 : decode cX7_who 16 = .ok (.iload_n 2, 1) := by decide +kernel
theorem dX7_who_17 : decode cX7_who 17 = .ok (.invokevirtual 176, 3) := by decide +kernel
theorem dX7_who_20 : decode cX7_who 20 = .ok (.ifCond .ne 6, 3) := by decide +kernel
theorem dX7_who_23 : decode cX7_who 23 = .ok (.ldc 160, 2) := by decide +kernel
theorem dX7_who_25 : decode cX7_who 25 = .ok (.ireturn, 1) := by decide +kernel
theorem dX7_who_26 : decode cX7_who 26 = .ok (.aload_n 0, 1) := by decide +kernel
theorem dX7_who_27 : decode cX7_who 27 = .ok (.getfield 19, 3) := by decide +kernel
theorem dX7_who_30 : decode cX7_who 30 = .ok (.aload_n 0, 1) := by decide +kernel
theorem dX7_who_31 : decode cX7_who 31 = .ok (.getfield 64, 3) := by decide +kernel
theorem dX7_who_34 : decode cX7_who 34 = .ok (.iload_n 1, 1) := by decide +kernel
theorem dX7_who_35 : decode cX7_who 35 = .ok (.iload_n 2, 1) := by decide +kernel
theorem dX7_who_36 : decode cX7_who 36 = .ok (.invokevirtual 180, 3) := by decide +kernel
theorem dX7_who_39 : decode cX7_who 39 = .ok (.istore_n 3, 1) := by decide +kernel
theorem dX7_who_40 : decode cX7_who 40 = .ok (.iconst 0, 1) := by decide +kernel
theorem dX7_who_41 : decode cX7_who 41 = .ok (.istore 4, 2) := by decide +kernel
theorem dX7_who_43 : decode cX7_who 43 = .ok (.iconst 0, 1) := by decide +kernel
theorem dX7_who_44 : decode cX7_who 44 = .ok (.istore 5, 2) := by decide +kernel
theorem dX7_who_46 : decode cX7_who 46 = .ok (.iload 5, 2) := by decide +kernel
theorem dX7_who_48 : decode cX7_who 48 = .ok (.aload_n 0, 1) := by decide +kernel
theorem dX7_who_49 : decode cX7_who 49 = .ok (.getfield 64, 3) := by decide +kernel
theorem dX7_who_52 : decode cX7_who 52 = .ok (.getfield 124, 3) := by decide +kernel
theorem dX7_who_55 : decode cX7_who 55 = .ok (.if_icmp .ge 33, 3) := by decide +kernel
theorem dX7_who_58 : decode cX7_who 58 = .ok (.aload_n 0, 1) := by decide +kernel
theorem dX7_who_59 : decode cX7_who 59 = .ok (.getfield 64, 3) := by decide +kernel
theorem dX7_who_62 : decode cX7_who 62 = .ok (.iload 5, 2) := by decide +kernel
theorem dX7_who_64 : decode cX7_who 64 = .ok (.iload_n 3, 1) := by decide +kernel
theorem dX7_who_65 : decode cX7_who 65 = .ok (.iconst 0, 1) := by decide +kernel
theorem dX7_who_66 : decode cX7_who 66 = .ok (.invokevirtual 234, 3) := by decide +kernel
theorem dX7_who_69 : decode cX7_who 69 = .ok (.iconst (-1), 1) := by decide +kernel
theorem dX7_who_70 : decode cX7_who 70 = .ok (.if_icmp .eq 12, 3) := by decide +kernel
theorem dX7_who_73 : decode cX7_who 73 = .ok (.iload 4, 2) := by decide +kernel
theorem dX7_who_75 : decode cX7_who 75 = .ok (.iconst 1, 1) := by decide +kernel
theorem dX7_who_76 : decode cX7_who 76 = .ok (.iload 5, 2) := by decide +kernel
theorem dX7_who_78 : decode cX7_who 78 = .ok (.ishl, 1) := by decide +kernel
theorem dX7_who_79 : decode cX7_who 79 = .ok (.ior, 1) := by decide +kernel
theorem dX7_who_80 : decode cX7_who 80 = .ok (.istore 4, 2) := by decide +kernel
theorem dX7_who_82 : decode cX7_who 82 = .ok (.iinc 5 1, 3) := by decide +kernel
theorem dX7_who_85 : decode cX7_who 85 = .ok (.goto (-39), 3) := by decide +kernel
theorem dX7_who_88 : decode cX7_who 88 = .ok (.iload 4, 2) := by decide +kernel
theorem dX7_who_90 : decode cX7_who 90 = .ok (.ireturn, 1) := by decide +kernel
theorem dX7_dated_0 : decode cX7_dated 0 = .ok (.aload_n 0, 1) := by decide +kernel
theorem dX7_dated_1 : decode cX7_dated 1 = .ok (.getfield 64, 3) := by decide +kernel
theorem dX7_dated_4 : decode cX7_dated 4 = .ok (.iload_n 1, 1) := by decide +kernel
theorem dX7_dated_5 : decode cX7_dated 5 = .ok (.invokevirtual 170, 3) := by decide +kernel
theorem dX7_dated_8 : decode cX7_dated 8 = .ok (.ifCond .eq 14, 3) := by decide +kernel
theorem dX7_dated_11 : decode cX7_dated 11 = .ok (.aload_n 0, 1) := by decide +kernel
theorem dX7_dated_12 : decode cX7_dated 12 = .ok (.getfield 64, 3) := by decide +kernel
theorem dX7_dated_15 : decode cX7_dated 15 = .ok (.iload_n 2, 1) := by decide +kernel
theorem dX7_dated_16 : decode cX7_dated 16 = .ok (.invokevirtual 157, 3) := by decide +kernel
theorem dX7_dated_19 : decode cX7_dated 19 = .ok (.ifCond .ne 6, 3) := by decide +kernel
theorem dX7_dated_22 : decode cX7_dated 22 = .ok (.ldc 160, 2) := by decide +kernel
theorem dX7_dated_24 : decode cX7_dated 24 = .ok (.ireturn, 1) := by decide +kernel
theorem dX7_dated_25 : decode cX7_dated 25 = .ok (.iload_n 3, 1) := by decide +kernel
theorem dX7_dated_26 : decode cX7_dated 26 = .ok (.ifCond .lt 8, 3) := by decide +kernel
theorem dX7_dated_29 : decode cX7_dated 29 = .ok (.iload_n 3, 1) := by decide +kernel
theorem dX7_dated_30 : decode cX7_dated 30 = .ok (.iconst 2, 1) := by decide +kernel
theorem dX7_dated_31 : decode cX7_dated 31 = .ok (.if_icmp .le 6, 3) := by decide +kernel
theorem dX7_dated_34 : decode cX7_dated 34 = .ok (.ldc 75, 2) := by decide +kernel
theorem dX7_dated_36 : decode cX7_dated 36 = .ok (.ireturn, 1) := by decide +kernel
theorem dX7_dated_37 : decode cX7_dated 37 = .ok (.aload_n 0, 1) := by decide +kernel
theorem dX7_dated_38 : decode cX7_dated 38 = .ok (.getfield 19, 3) := by decide +kernel
theorem dX7_dated_41 : decode cX7_dated 41 = .ok (.iload_n 1, 1) := by decide +kernel
theorem dX7_dated_42 : decode cX7_dated 42 = .ok (.invokevirtual 204, 3) := by decide +kernel
theorem dX7_dated_45 : decode cX7_dated 45 = .ok (.istore 4, 2) := by decide +kernel
theorem dX7_dated_47 : decode cX7_dated 47 = .ok (.iconst 0, 1) := by decide +kernel
theorem dX7_dated_48 : decode cX7_dated 48 = .ok (.istore 5, 2) := by decide +kernel
theorem dX7_dated_50 : decode cX7_dated 50 = .ok (.iconst (-1), 1) := by decide +kernel
theorem dX7_dated_51 : decode cX7_dated 51 = .ok (.istore 6, 2) := by decide +kernel
theorem dX7_dated_53 : decode cX7_dated 53 = .ok (.iconst (-1), 1) := by decide +kernel
theorem dX7_dated_54 : decode cX7_dated 54 = .ok (.istore 7, 2) := by decide +kernel
theorem dX7_dated_56 : decode cX7_dated 56 = .ok (.iconst 0, 1) := by decide +kernel
theorem dX7_dated_57 : decode cX7_dated 57 = .ok (.istore 8, 2) := by decide +kernel
theorem dX7_dated_59 : decode cX7_dated 59 = .ok (.iload 8, 2) := by decide +kernel
theorem dX7_dated_61 : decode cX7_dated 61 = .ok (.bipush 96, 2) := by decide +kernel
theorem dX7_dated_63 : decode cX7_dated 63 = .ok (.if_icmp .ge 62, 3) := by decide +kernel
theorem dX7_dated_66 : decode cX7_dated 66 = .ok (.iload 8, 2) := by decide +kernel
theorem dX7_dated_68 : decode cX7_dated 68 = .ok (.iload 4, 2) := by decide +kernel
theorem dX7_dated_70 : decode cX7_dated 70 = .ok (.iadd, 1) := by decide +kernel
theorem dX7_dated_71 : decode cX7_dated 71 = .ok (.bipush 96, 2) := by decide +kernel
theorem dX7_dated_73 : decode cX7_dated 73 = .ok (.if_icmp .gt 52, 3) := by decide +kernel
theorem dX7_dated_76 : decode cX7_dated 76 = .ok (.aload_n 0, 1) := by decide +kernel
theorem dX7_dated_77 : decode cX7_dated 77 = .ok (.getfield 19, 3) := by decide +kernel
theorem dX7_dated_80 : decode cX7_dated 80 = .ok (.aload_n 0, 1) := by decide +kernel
theorem dX7_dated_81 : decode cX7_dated 81 = .ok (.getfield 64, 3) := by decide +kernel
theorem dX7_dated_84 : decode cX7_dated 84 = .ok (.iload_n 1, 1) := by decide +kernel
theorem dX7_dated_85 : decode cX7_dated 85 = .ok (.iconst 0, 1) := by decide +kernel
theorem dX7_dated_86 : decode cX7_dated 86 = .ok (.iload_n 2, 1) := by decide +kernel
theorem dX7_dated_87 : decode cX7_dated 87 = .ok (.iload 8, 2) := by decide +kernel
theorem dX7_dated_89 : decode cX7_dated 89 = .ok (.invokevirtual 237, 3) := by decide +kernel
theorem dX7_dated_92 : decode cX7_dated 92 = .ok (.iload 4, 2) := by decide +kernel
theorem dX7_dated_94 : decode cX7_dated 94 = .ok (.if_icmp .ne 25, 3) := by decide +kernel
theorem dX7_dated_97 : decode cX7_dated 97 = .ok (.iinc 5 1, 3) := by decide +kernel
theorem dX7_dated_100 : decode cX7_dated 100 = .ok (.iload 6, 2) := by decide +kernel
theorem dX7_dated_102 : decode cX7_dated 102 = .ok (.iconst (-1), 1) := by decide +kernel
theorem dX7_dated_103 : decode cX7_dated 103 = .ok (.if_icmp .ne 8, 3) := by decide +kernel
theorem dX7_dated_106 : decode cX7_dated 106 = .ok (.iload 8, 2) := by decide +kernel
theorem dX7_dated_108 : decode cX7_dated 108 = .ok (.goto 5, 3) := by decide +kernel
theorem dX7_dated_111 : decode cX7_dated 111 = .ok (.iload 6, 2) := by decide +kernel
theorem dX7_dated_113 : decode cX7_dated 113 = .ok (.istore 6, 2) := by decide +kernel
theorem dX7_dated_115 : decode cX7_dated 115 = .ok (.iload 8, 2) := by decide +kernel
theorem dX7_dated_117 : decode cX7_dated 117 = .ok (.istore 7, 2) := by decide +kernel
theorem dX7_dated_119 : decode cX7_dated 119 = .ok (.iinc 8 1, 3) := by decide +kernel
theorem dX7_dated_122 : decode cX7_dated 122 = .ok (.goto (-63), 3) := by decide +kernel
theorem dX7_dated_125 : decode cX7_dated 125 = .ok (.iload_n 3, 1) := by decide +kernel
theorem dX7_dated_126 : decode cX7_dated 126 = .ok (.ifCond .ne 6, 3) := by decide +kernel
theorem dX7_dated_129 : decode cX7_dated 129 = .ok (.iload 5, 2) := by decide +kernel
theorem dX7_dated_131 : decode cX7_dated 131 = .ok (.ireturn, 1) := by decide +kernel
theorem dX7_dated_132 : decode cX7_dated 132 = .ok (.iload_n 3, 1) := by decide +kernel
theorem dX7_dated_133 : decode cX7_dated 133 = .ok (.iconst 1, 1) := by decide +kernel
theorem dX7_dated_134 : decode cX7_dated 134 = .ok (.if_icmp .ne 8, 3) := by decide +kernel
theorem dX7_dated_137 : decode cX7_dated 137 = .ok (.iload 6, 2) := by decide +kernel
theorem dX7_dated_139 : decode cX7_dated 139 = .ok (.goto 5, 3) := by decide +kernel
theorem dX7_dated_142 : decode cX7_dated 142 = .ok (.iload 7, 2) := by decide +kernel
theorem dX7_dated_144 : decode cX7_dated 144 = .ok (.ireturn, 1) := by decide +kernel
theorem dX7_addedAt_0 : decode cX7_addedAt 0 = .ok (.aload_n 0, 1) := by decide +kernel
theorem dX7_addedAt_1 : decode cX7_addedAt 1 = .ok (.getfield 64, 3) := by decide +kernel
theorem dX7_addedAt_4 : decode cX7_addedAt 4 = .ok (.iload_n 1, 1) := by decide +kernel
theorem dX7_addedAt_5 : decode cX7_addedAt 5 = .ok (.invokevirtual 170, 3) := by decide +kernel
theorem dX7_addedAt_8 : decode cX7_addedAt 8 = .ok (.ifCond .eq 14, 3) := by decide +kernel
theorem dX7_addedAt_11 : decode cX7_addedAt 11 = .ok (.aload_n 0, 1) := by decide +kernel
theorem dX7_addedAt_12 : decode cX7_addedAt 12 = .ok (.getfield 64, 3) := by decide +kernel
theorem dX7_addedAt_15 : decode cX7_addedAt 15 = .ok (.iload_n 2, 1) := by decide +kernel
theorem dX7_addedAt_16 : decode cX7_addedAt 16 = .ok (.invokevirtual 157, 3) := by decide +kernel
theorem dX7_addedAt_19 : decode cX7_addedAt 19 = .ok (.ifCond .ne 6, 3) := by decide +kernel
theorem dX7_addedAt_22 : decode cX7_addedAt 22 = .ok (.ldc 160, 2) := by decide +kernel
theorem dX7_addedAt_24 : decode cX7_addedAt 24 = .ok (.ireturn, 1) := by decide +kernel
theorem dX7_addedAt_25 : decode cX7_addedAt 25 = .ok (.iload_n 3, 1) := by decide +kernel
theorem dX7_addedAt_26 : decode cX7_addedAt 26 = .ok (.ifCond .ne 18, 3) := by decide +kernel
theorem dX7_addedAt_29 : decode cX7_addedAt 29 = .ok (.aload_n 0, 1) := by decide +kernel
theorem dX7_addedAt_30 : decode cX7_addedAt 30 = .ok (.getfield 19, 3) := by decide +kernel
theorem dX7_addedAt_33 : decode cX7_addedAt 33 = .ok (.aload_n 0, 1) := by decide +kernel
theorem dX7_addedAt_34 : decode cX7_addedAt 34 = .ok (.getfield 64, 3) := by decide +kernel
theorem dX7_addedAt_37 : decode cX7_addedAt 37 = .ok (.iload_n 1, 1) := by decide +kernel
theorem dX7_addedAt_38 : decode cX7_addedAt 38 = .ok (.iconst 0, 1) := by decide +kernel
theorem dX7_addedAt_39 : decode cX7_addedAt 39 = .ok (.iload_n 2, 1) := by decide +kernel
theorem dX7_addedAt_40 : decode cX7_addedAt 40 = .ok (.invokevirtual 241, 3) := by decide +kernel
theorem dX7_addedAt_43 : decode cX7_addedAt 43 = .ok (.ireturn, 1) := by decide +kernel
theorem dX7_addedAt_44 : decode cX7_addedAt 44 = .ok (.iload_n 3, 1) := by decide +kernel
theorem dX7_addedAt_45 : decode cX7_addedAt 45 = .ok (.iconst 1, 1) := by decide +kernel
theorem dX7_addedAt_46 : decode cX7_addedAt 46 = .ok (.if_icmp .ne 19, 3) := by decide +kernel
theorem dX7_addedAt_49 : decode cX7_addedAt 49 = .ok (.aload_n 0, 1) := by decide +kernel
theorem dX7_addedAt_50 : decode cX7_addedAt 50 = .ok (.getfield 19, 3) := by decide +kernel
theorem dX7_addedAt_53 : decode cX7_addedAt 53 = .ok (.aload_n 0, 1) := by decide +kernel
theorem dX7_addedAt_54 : decode cX7_addedAt 54 = .ok (.getfield 64, 3) := by decide +kernel
theorem dX7_addedAt_57 : decode cX7_addedAt 57 = .ok (.iload_n 1, 1) := by decide +kernel
theorem dX7_addedAt_58 : decode cX7_addedAt 58 = .ok (.iload_n 2, 1) := by decide +kernel
theorem dX7_addedAt_59 : decode cX7_addedAt 59 = .ok (.invokevirtual 245, 3) := by decide +kernel
theorem dX7_addedAt_62 : decode cX7_addedAt 62 = .ok (.goto 5, 3) := by decide +kernel
theorem dX7_addedAt_65 : decode cX7_addedAt 65 = .ok (.ldc 75, 2) := by decide +kernel
theorem dX7_addedAt_67 : decode cX7_addedAt 67 = .ok (.ireturn, 1) := by decide +kernel
theorem dX7_next_0 : decode cX7_next 0 = .ok (.aload_n 0, 1) := by decide +kernel
theorem dX7_next_1 : decode cX7_next 1 = .ok (.getfield 64, 3) := by decide +kernel
theorem dX7_next_4 : decode cX7_next 4 = .ok (.iload_n 1, 1) := by decide +kernel
theorem dX7_next_5 : decode cX7_next 5 = .ok (.invokevirtual 170, 3) := by decide +kernel
theorem dX7_next_8 : decode cX7_next 8 = .ok (.ifCond .ne 6, 3) := by decide +kernel
theorem dX7_next_11 : decode cX7_next 11 = .ok (.ldc 160, 2) := by decide +kernel
theorem dX7_next_13 : decode cX7_next 13 = .ok (.ireturn, 1) := by decide +kernel
theorem dX7_next_14 : decode cX7_next 14 = .ok (.iload_n 2, 1) := by decide +kernel
theorem dX7_next_15 : decode cX7_next 15 = .ok (.ifCond .lt 8, 3) := by decide +kernel
theorem dX7_next_18 : decode cX7_next 18 = .ok (.iload_n 2, 1) := by decide +kernel
theorem dX7_next_19 : decode cX7_next 19 = .ok (.iconst 1, 1) := by decide +kernel
theorem dX7_next_20 : decode cX7_next 20 = .ok (.if_icmp .le 6, 3) := by decide +kernel
theorem dX7_next_23 : decode cX7_next 23 = .ok (.ldc 75, 2) := by decide +kernel
theorem dX7_next_25 : decode cX7_next 25 = .ok (.ireturn, 1) := by decide +kernel
theorem dX7_next_26 : decode cX7_next 26 = .ok (.aload_n 0, 1) := by decide +kernel
theorem dX7_next_27 : decode cX7_next 27 = .ok (.getfield 46, 3) := by decide +kernel
theorem dX7_next_30 : decode cX7_next 30 = .ok (.aload_n 0, 1) := by decide +kernel
theorem dX7_next_31 : decode cX7_next 31 = .ok (.getfield 64, 3) := by decide +kernel
theorem dX7_next_34 : decode cX7_next 34 = .ok (.aload_n 0, 1) := by decide +kernel
theorem dX7_next_35 : decode cX7_next 35 = .ok (.getfield 19, 3) := by decide +kernel
theorem dX7_next_38 : decode cX7_next 38 = .ok (.iload_n 1, 1) := by decide +kernel
theorem dX7_next_39 : decode cX7_next 39 = .ok (.aload_n 0, 1) := by decide +kernel
theorem dX7_next_40 : decode cX7_next 40 = .ok (.getfield 57, 3) := by decide +kernel
theorem dX7_next_43 : decode cX7_next 43 = .ok (.iload_n 1, 1) := by decide +kernel
theorem dX7_next_44 : decode cX7_next 44 = .ok (.iaload, 1) := by decide +kernel
theorem dX7_next_45 : decode cX7_next 45 = .ok (.invokevirtual 248, 3) := by decide +kernel
theorem dX7_next_48 : decode cX7_next 48 = .ok (.iload_n 2, 1) := by decide +kernel
theorem dX7_next_49 : decode cX7_next 49 = .ok (.ifCond .ne 13, 3) := by decide +kernel
theorem dX7_next_52 : decode cX7_next 52 = .ok (.aload_n 0, 1) := by decide +kernel
theorem dX7_next_53 : decode cX7_next 53 = .ok (.getfield 46, 3) := by decide +kernel
theorem dX7_next_56 : decode cX7_next 56 = .ok (.getfield 252, 3) := by decide +kernel
theorem dX7_next_59 : decode cX7_next 59 = .ok (.goto 22, 3) := by decide +kernel
theorem dX7_next_62 : decode cX7_next 62 = .ok (.aload_n 0, 1) := by decide +kernel
theorem dX7_next_63 : decode cX7_next 63 = .ok (.getfield 46, 3) := by decide +kernel
theorem dX7_next_66 : decode cX7_next 66 = .ok (.aload_n 0, 1) := by decide +kernel
theorem dX7_next_67 : decode cX7_next 67 = .ok (.getfield 64, 3) := by decide +kernel
theorem dX7_next_70 : decode cX7_next 70 = .ok (.aload_n 0, 1) := by decide +kernel
theorem dX7_next_71 : decode cX7_next 71 = .ok (.getfield 19, 3) := by decide +kernel
theorem dX7_next_74 : decode cX7_next 74 = .ok (.iload_n 1, 1) := by decide +kernel
theorem dX7_next_75 : decode cX7_next 75 = .ok (.invokevirtual 204, 3) := by decide +kernel
theorem dX7_next_78 : decode cX7_next 78 = .ok (.invokevirtual 253, 3) := by decide +kernel
theorem dX7_next_81 : decode cX7_next 81 = .ok (.ireturn, 1) := by decide +kernel
theorem dX7_soonest_0 : decode cX7_soonest 0 = .ok (.aload_n 0, 1) := by decide +kernel
theorem dX7_soonest_1 : decode cX7_soonest 1 = .ok (.getfield 64, 3) := by decide +kernel
theorem dX7_soonest_4 : decode cX7_soonest 4 = .ok (.iload_n 1, 1) := by decide +kernel
theorem dX7_soonest_5 : decode cX7_soonest 5 = .ok (.invokevirtual 157, 3) := by decide +kernel
theorem dX7_soonest_8 : decode cX7_soonest 8 = .ok (.ifCond .ne 6, 3) := by decide +kernel
theorem dX7_soonest_11 : decode cX7_soonest 11 = .ok (.ldc 160, 2) := by decide +kernel
theorem dX7_soonest_13 : decode cX7_soonest 13 = .ok (.ireturn, 1) := by decide +kernel
theorem dX7_soonest_14 : decode cX7_soonest 14 = .ok (.iload_n 2, 1) := by decide +kernel
theorem dX7_soonest_15 : decode cX7_soonest 15 = .ok (.invokestatic 257, 3) := by decide +kernel
theorem dX7_soonest_18 : decode cX7_soonest 18 = .ok (.ifCond .eq 10, 3) := by decide +kernel
theorem dX7_soonest_21 : decode cX7_soonest 21 = .ok (.iload_n 3, 1) := by decide +kernel
theorem dX7_soonest_22 : decode cX7_soonest 22 = .ok (.invokestatic 139, 3) := by decide +kernel
theorem dX7_soonest_25 : decode cX7_soonest 25 = .ok (.ifCond .ne 6, 3) := by decide +kernel
theorem dX7_soonest_28 : decode cX7_soonest 28 = .ok (.ldc 75, 2) := by decide +kernel
theorem dX7_soonest_30 : decode cX7_soonest 30 = .ok (.ireturn, 1) := by decide +kernel
theorem dX7_soonest_31 : decode cX7_soonest 31 = .ok (.aload_n 0, 1) := by decide +kernel
theorem dX7_soonest_32 : decode cX7_soonest 32 = .ok (.getfield 64, 3) := by decide +kernel
theorem dX7_soonest_35 : decode cX7_soonest 35 = .ok (.iload_n 1, 1) := by decide +kernel
theorem dX7_soonest_36 : decode cX7_soonest 36 = .ok (.iload_n 2, 1) := by decide +kernel
theorem dX7_soonest_37 : decode cX7_soonest 37 = .ok (.iload_n 3, 1) := by decide +kernel
theorem dX7_soonest_38 : decode cX7_soonest 38 = .ok (.invokevirtual 234, 3) := by decide +kernel
theorem dX7_soonest_41 : decode cX7_soonest 41 = .ok (.ireturn, 1) := by decide +kernel
theorem dX7_likely_0 : decode cX7_likely 0 = .ok (.aload_n 0, 1) := by decide +kernel
theorem dX7_likely_1 : decode cX7_likely 1 = .ok (.getfield 64, 3) := by decide +kernel
theorem dX7_likely_4 : decode cX7_likely 4 = .ok (.iload_n 1, 1) := by decide +kernel
theorem dX7_likely_5 : decode cX7_likely 5 = .ok (.invokevirtual 157, 3) := by decide +kernel
theorem dX7_likely_8 : decode cX7_likely 8 = .ok (.ifCond .ne 6, 3) := by decide +kernel
theorem dX7_likely_11 : decode cX7_likely 11 = .ok (.ldc 160, 2) := by decide +kernel
theorem dX7_likely_13 : decode cX7_likely 13 = .ok (.ireturn, 1) := by decide +kernel
theorem dX7_likely_14 : decode cX7_likely 14 = .ok (.iload_n 2, 1) := by decide +kernel
theorem dX7_likely_15 : decode cX7_likely 15 = .ok (.invokestatic 257, 3) := by decide +kernel
theorem dX7_likely_18 : decode cX7_likely 18 = .ok (.ifCond .ne 6, 3) := by decide +kernel
theorem dX7_likely_21 : decode cX7_likely 21 = .ok (.ldc 75, 2) := by decide +kernel
theorem dX7_likely_23 : decode cX7_likely 23 = .ok (.ireturn, 1) := by decide +kernel
theorem dX7_likely_24 : decode cX7_likely 24 = .ok (.aload_n 0, 1) := by decide +kernel
theorem dX7_likely_25 : decode cX7_likely 25 = .ok (.getfield 64, 3) := by decide +kernel
theorem dX7_likely_28 : decode cX7_likely 28 = .ok (.iload_n 1, 1) := by decide +kernel
theorem dX7_likely_29 : decode cX7_likely 29 = .ok (.iload_n 2, 1) := by decide +kernel
theorem dX7_likely_30 : decode cX7_likely 30 = .ok (.iconst (-1), 1) := by decide +kernel
theorem dX7_likely_31 : decode cX7_likely 31 = .ok (.invokevirtual 230, 3) := by decide +kernel
theorem dX7_likely_34 : decode cX7_likely 34 = .ok (.ldc_w 260, 3) := by decide +kernel
theorem dX7_likely_37 : decode cX7_likely 37 = .ok (.imul, 1) := by decide +kernel
theorem dX7_likely_38 : decode cX7_likely 38 = .ok (.bipush 96, 2) := by decide +kernel
theorem dX7_likely_40 : decode cX7_likely 40 = .ok (.idiv, 1) := by decide +kernel
theorem dX7_likely_41 : decode cX7_likely 41 = .ok (.ireturn, 1) := by decide +kernel
theorem dX7_hands_0 : decode cX7_hands 0 = .ok (.iload_n 1, 1) := by decide +kernel
theorem dX7_hands_1 : decode cX7_hands 1 = .ok (.iconst (-1), 1) := by decide +kernel
theorem dX7_hands_2 : decode cX7_hands 2 = .ok (.if_icmp .eq 17, 3) := by decide +kernel
theorem dX7_hands_5 : decode cX7_hands 5 = .ok (.aload_n 0, 1) := by decide +kernel
theorem dX7_hands_6 : decode cX7_hands 6 = .ok (.getfield 64, 3) := by decide +kernel
theorem dX7_hands_9 : decode cX7_hands 9 = .ok (.iload_n 1, 1) := by decide +kernel
theorem dX7_hands_10 : decode cX7_hands 10 = .ok (.invokevirtual 170, 3) := by decide +kernel
theorem dX7_hands_13 : decode cX7_hands 13 = .ok (.ifCond .ne 6, 3) := by decide +kernel
theorem dX7_hands_16 : decode cX7_hands 16 = .ok (.ldc 160, 2) := by decide +kernel
theorem dX7_hands_18 : decode cX7_hands 18 = .ok (.ireturn, 1) := by decide +kernel
theorem dX7_hands_19 : decode cX7_hands 19 = .ok (.aload_n 0, 1) := by decide +kernel
theorem dX7_hands_20 : decode cX7_hands 20 = .ok (.getfield 64, 3) := by decide +kernel
theorem dX7_hands_23 : decode cX7_hands 23 = .ok (.getfield 109, 3) := by decide +kernel
theorem dX7_hands_26 : decode cX7_hands 26 = .ok (.aload_n 0, 1) := by decide +kernel
theorem dX7_hands_27 : decode cX7_hands 27 = .ok (.getfield 64, 3) := by decide +kernel
theorem dX7_hands_30 : decode cX7_hands 30 = .ok (.getfield 124, 3) := by decide +kernel
theorem dX7_hands_33 : decode cX7_hands 33 = .ok (.if_icmp .le 5, 3) := by decide +kernel
theorem dX7_hands_36 : decode cX7_hands 36 = .ok (.iconst (-1), 1) := by decide +kernel
theorem dX7_hands_37 : decode cX7_hands 37 = .ok (.ireturn, 1) := by decide +kernel
theorem dX7_hands_38 : decode cX7_hands 38 = .ok (.aload_n 0, 1) := by decide +kernel
theorem dX7_hands_39 : decode cX7_hands 39 = .ok (.getfield 53, 3) := by decide +kernel
theorem dX7_hands_42 : decode cX7_hands 42 = .ok (.aload_n 0, 1) := by decide +kernel
theorem dX7_hands_43 : decode cX7_hands 43 = .ok (.getfield 64, 3) := by decide +kernel
theorem dX7_hands_46 : decode cX7_hands 46 = .ok (.aload_n 0, 1) := by decide +kernel
theorem dX7_hands_47 : decode cX7_hands 47 = .ok (.getfield 19, 3) := by decide +kernel
theorem dX7_hands_50 : decode cX7_hands 50 = .ok (.invokevirtual 261, 3) := by decide +kernel
theorem dX7_hands_53 : decode cX7_hands 53 = .ok (.aload_n 0, 1) := by decide +kernel
theorem dX7_hands_54 : decode cX7_hands 54 = .ok (.getfield 53, 3) := by decide +kernel
theorem dX7_hands_57 : decode cX7_hands 57 = .ok (.aload_n 0, 1) := by decide +kernel
theorem dX7_hands_58 : decode cX7_hands 58 = .ok (.getfield 64, 3) := by decide +kernel
theorem dX7_hands_61 : decode cX7_hands 61 = .ok (.getfield 109, 3) := by decide +kernel
theorem dX7_hands_64 : decode cX7_hands 64 = .ok (.aload_n 0, 1) := by decide +kernel
theorem dX7_hands_65 : decode cX7_hands 65 = .ok (.getfield 64, 3) := by decide +kernel
theorem dX7_hands_68 : decode cX7_hands 68 = .ok (.getfield 124, 3) := by decide +kernel
theorem dX7_hands_71 : decode cX7_hands 71 = .ok (.invokevirtual 265, 3) := by decide +kernel
theorem dX7_hands_74 : decode cX7_hands 74 = .ok (.iload_n 1, 1) := by decide +kernel
theorem dX7_hands_75 : decode cX7_hands 75 = .ok (.iconst (-1), 1) := by decide +kernel
theorem dX7_hands_76 : decode cX7_hands 76 = .ok (.if_icmp .ne 13, 3) := by decide +kernel
theorem dX7_hands_79 : decode cX7_hands 79 = .ok (.aload_n 0, 1) := by decide +kernel
theorem dX7_hands_80 : decode cX7_hands 80 = .ok (.getfield 53, 3) := by decide +kernel
theorem dX7_hands_83 : decode cX7_hands 83 = .ok (.getfield 269, 3) := by decide +kernel
theorem dX7_hands_86 : decode cX7_hands 86 = .ok (.goto 18, 3) := by decide +kernel
theorem dX7_hands_89 : decode cX7_hands 89 = .ok (.aload_n 0, 1) := by decide +kernel
theorem dX7_hands_90 : decode cX7_hands 90 = .ok (.getfield 53, 3) := by decide +kernel
theorem dX7_hands_93 : decode cX7_hands 93 = .ok (.iload_n 1, 1) := by decide +kernel
theorem dX7_hands_94 : decode cX7_hands 94 = .ok (.aload_n 0, 1) := by decide +kernel
theorem dX7_hands_95 : decode cX7_hands 95 = .ok (.getfield 64, 3) := by decide +kernel
theorem dX7_hands_98 : decode cX7_hands 98 = .ok (.getfield 109, 3) := by decide +kernel
theorem dX7_hands_101 : decode cX7_hands 101 = .ok (.invokevirtual 272, 3) := by decide +kernel
theorem dX7_hands_104 : decode cX7_hands 104 = .ok (.ireturn, 1) := by decide +kernel
theorem dX7_forged_0 : decode cX7_forged 0 = .ok (.aload_n 0, 1) := by decide +kernel
theorem dX7_forged_1 : decode cX7_forged 1 = .ok (.getfield 64, 3) := by decide +kernel
theorem dX7_forged_4 : decode cX7_forged 4 = .ok (.iload_n 1, 1) := by decide +kernel
theorem dX7_forged_5 : decode cX7_forged 5 = .ok (.invokevirtual 170, 3) := by decide +kernel
theorem dX7_forged_8 : decode cX7_forged 8 = .ok (.ifCond .ne 6, 3) := by decide +kernel
theorem dX7_forged_11 : decode cX7_forged 11 = .ok (.ldc 160, 2) := by decide +kernel
theorem dX7_forged_13 : decode cX7_forged 13 = .ok (.ireturn, 1) := by decide +kernel
theorem dX7_forged_14 : decode cX7_forged 14 = .ok (.iload_n 2, 1) := by decide +kernel
theorem dX7_forged_15 : decode cX7_forged 15 = .ok (.ifCond .lt 8, 3) := by decide +kernel
theorem dX7_forged_18 : decode cX7_forged 18 = .ok (.iload_n 2, 1) := by decide +kernel
theorem dX7_forged_19 : decode cX7_forged 19 = .ok (.iconst 1, 1) := by decide +kernel
theorem dX7_forged_20 : decode cX7_forged 20 = .ok (.if_icmp .le 6, 3) := by decide +kernel
theorem dX7_forged_23 : decode cX7_forged 23 = .ok (.ldc 75, 2) := by decide +kernel
theorem dX7_forged_25 : decode cX7_forged 25 = .ok (.ireturn, 1) := by decide +kernel
theorem dX7_forged_26 : decode cX7_forged 26 = .ok (.aload_n 0, 1) := by decide +kernel
theorem dX7_forged_27 : decode cX7_forged 27 = .ok (.getfield 19, 3) := by decide +kernel
theorem dX7_forged_30 : decode cX7_forged 30 = .ok (.iload_n 1, 1) := by decide +kernel
theorem dX7_forged_31 : decode cX7_forged 31 = .ok (.invokevirtual 204, 3) := by decide +kernel
theorem dX7_forged_34 : decode cX7_forged 34 = .ok (.istore_n 3, 1) := by decide +kernel
theorem dX7_forged_35 : decode cX7_forged 35 = .ok (.iconst 0, 1) := by decide +kernel
theorem dX7_forged_36 : decode cX7_forged 36 = .ok (.istore 4, 2) := by decide +kernel
theorem dX7_forged_38 : decode cX7_forged 38 = .ok (.iconst 0, 1) := by decide +kernel
theorem dX7_forged_39 : decode cX7_forged 39 = .ok (.istore 5, 2) := by decide +kernel
theorem dX7_forged_41 : decode cX7_forged 41 = .ok (.iconst 0, 1) := by decide +kernel
theorem dX7_forged_42 : decode cX7_forged 42 = .ok (.istore 6, 2) := by decide +kernel
theorem dX7_forged_44 : decode cX7_forged 44 = .ok (.iload 6, 2) := by decide +kernel
theorem dX7_forged_46 : decode cX7_forged 46 = .ok (.iload_n 3, 1) := by decide +kernel
theorem dX7_forged_47 : decode cX7_forged 47 = .ok (.if_icmp .ge 64, 3) := by decide +kernel
theorem dX7_forged_50 : decode cX7_forged 50 = .ok (.aload_n 0, 1) := by decide +kernel
theorem dX7_forged_51 : decode cX7_forged 51 = .ok (.getfield 19, 3) := by decide +kernel
theorem dX7_forged_54 : decode cX7_forged 54 = .ok (.iload_n 1, 1) := by decide +kernel
theorem dX7_forged_55 : decode cX7_forged 55 = .ok (.iload 6, 2) := by decide +kernel
theorem dX7_forged_57 : decode cX7_forged 57 = .ok (.invokevirtual 193, 3) := by decide +kernel
theorem dX7_forged_60 : decode cX7_forged 60 = .ok (.ifCond .eq 45, 3) := by decide +kernel
theorem dX7_forged_63 : decode cX7_forged 63 = .ok (.aload_n 0, 1) := by decide +kernel
theorem dX7_forged_64 : decode cX7_forged 64 = .ok (.getfield 19, 3) := by decide +kernel
theorem dX7_forged_67 : decode cX7_forged 67 = .ok (.aload_n 0, 1) := by decide +kernel
theorem dX7_forged_68 : decode cX7_forged 68 = .ok (.getfield 64, 3) := by decide +kernel
theorem dX7_forged_71 : decode cX7_forged 71 = .ok (.iload_n 1, 1) := by decide +kernel
theorem dX7_forged_72 : decode cX7_forged 72 = .ok (.iload 6, 2) := by decide +kernel
theorem dX7_forged_74 : decode cX7_forged 74 = .ok (.aload_n 0, 1) := by decide +kernel
theorem dX7_forged_75 : decode cX7_forged 75 = .ok (.getfield 19, 3) := by decide +kernel
theorem dX7_forged_78 : decode cX7_forged 78 = .ok (.iload_n 1, 1) := by decide +kernel
theorem dX7_forged_79 : decode cX7_forged 79 = .ok (.iload 6, 2) := by decide +kernel
theorem dX7_forged_81 : decode cX7_forged 81 = .ok (.invokevirtual 187, 3) := by decide +kernel
theorem dX7_forged_84 : decode cX7_forged 84 = .ok (.invokevirtual 275, 3) := by decide +kernel
theorem dX7_forged_87 : decode cX7_forged 87 = .ok (.ifCond .eq 9, 3) := by decide +kernel
theorem dX7_forged_90 : decode cX7_forged 90 = .ok (.iinc 4 1, 3) := by decide +kernel
theorem dX7_forged_93 : decode cX7_forged 93 = .ok (.goto 12, 3) := by decide +kernel
theorem dX7_forged_96 : decode cX7_forged 96 = .ok (.iload 5, 2) := by decide +kernel
theorem dX7_forged_98 : decode cX7_forged 98 = .ok (.iconst 1, 1) := by decide +kernel
theorem dX7_forged_99 : decode cX7_forged 99 = .ok (.iload 6, 2) := by decide +kernel
theorem dX7_forged_101 : decode cX7_forged 101 = .ok (.ishl, 1) := by decide +kernel
theorem dX7_forged_102 : decode cX7_forged 102 = .ok (.ior, 1) := by decide +kernel
theorem dX7_forged_103 : decode cX7_forged 103 = .ok (.istore 5, 2) := by decide +kernel
theorem dX7_forged_105 : decode cX7_forged 105 = .ok (.iinc 6 1, 3) := by decide +kernel
theorem dX7_forged_108 : decode cX7_forged 108 = .ok (.goto (-64), 3) := by decide +kernel
theorem dX7_forged_111 : decode cX7_forged 111 = .ok (.iload_n 2, 1) := by decide +kernel
theorem dX7_forged_112 : decode cX7_forged 112 = .ok (.ifCond .ne 8, 3) := by decide +kernel
theorem dX7_forged_115 : decode cX7_forged 115 = .ok (.iload 4, 2) := by decide +kernel
theorem dX7_forged_117 : decode cX7_forged 117 = .ok (.goto 5, 3) := by decide +kernel
theorem dX7_forged_120 : decode cX7_forged 120 = .ok (.iload 5, 2) := by decide +kernel
theorem dX7_forged_122 : decode cX7_forged 122 = .ok (.ireturn, 1) := by decide +kernel
theorem dX7_air_0 : decode cX7_air 0 = .ok (.aload_n 0, 1) := by decide +kernel
theorem dX7_air_1 : decode cX7_air 1 = .ok (.getfield 64, 3) := by decide +kernel
theorem dX7_air_4 : decode cX7_air 4 = .ok (.iload_n 1, 1) := by decide +kernel
theorem dX7_air_5 : decode cX7_air 5 = .ok (.invokevirtual 157, 3) := by decide +kernel
theorem dX7_air_8 : decode cX7_air 8 = .ok (.ifCond .ne 6, 3) := by decide +kernel
theorem dX7_air_11 : decode cX7_air 11 = .ok (.ldc 160, 2) := by decide +kernel
theorem dX7_air_13 : decode cX7_air 13 = .ok (.ireturn, 1) := by decide +kernel
theorem dX7_air_14 : decode cX7_air 14 = .ok (.iload_n 2, 1) := by decide +kernel
theorem dX7_air_15 : decode cX7_air 15 = .ok (.invokestatic 139, 3) := by decide +kernel
theorem dX7_air_18 : decode cX7_air 18 = .ok (.ifCond .eq 24, 3) := by decide +kernel
theorem dX7_air_21 : decode cX7_air 21 = .ok (.aload_n 0, 1) := by decide +kernel
theorem dX7_air_22 : decode cX7_air 22 = .ok (.getfield 64, 3) := by decide +kernel
theorem dX7_air_25 : decode cX7_air 25 = .ok (.iload_n 1, 1) := by decide +kernel
theorem dX7_air_26 : decode cX7_air 26 = .ok (.aload_n 0, 1) := by decide +kernel
theorem dX7_air_27 : decode cX7_air 27 = .ok (.getfield 64, 3) := by decide +kernel
theorem dX7_air_30 : decode cX7_air 30 = .ok (.iload_n 1, 1) := by decide +kernel
theorem dX7_air_31 : decode cX7_air 31 = .ok (.iload_n 2, 1) := by decide +kernel
theorem dX7_air_32 : decode cX7_air 32 = .ok (.invokevirtual 227, 3) := by decide +kernel
theorem dX7_air_35 : decode cX7_air 35 = .ok (.iload_n 3, 1) := by decide +kernel
theorem dX7_air_36 : decode cX7_air 36 = .ok (.invokevirtual 230, 3) := by decide +kernel
theorem dX7_air_39 : decode cX7_air 39 = .ok (.goto 5, 3) := by decide +kernel
theorem dX7_air_42 : decode cX7_air 42 = .ok (.ldc 75, 2) := by decide +kernel
theorem dX7_air_44 : decode cX7_air 44 = .ok (.ireturn, 1) := by decide +kernel
theorem dX7_rain_0 : decode cX7_rain 0 = .ok (.iload_n 1, 1) := by decide +kernel
theorem dX7_rain_1 : decode cX7_rain 1 = .ok (.ifCond .lt 9, 3) := by decide +kernel
theorem dX7_rain_4 : decode cX7_rain 4 = .ok (.iload_n 1, 1) := by decide +kernel
theorem dX7_rain_5 : decode cX7_rain 5 = .ok (.bipush 8, 2) := by decide +kernel
theorem dX7_rain_7 : decode cX7_rain 7 = .ok (.if_icmp .lt 6, 3) := by decide +kernel
theorem dX7_rain_10 : decode cX7_rain 10 = .ok (.ldc 75, 2) := by decide +kernel
theorem dX7_rain_12 : decode cX7_rain 12 = .ok (.ireturn, 1) := by decide +kernel
theorem dX7_rain_13 : decode cX7_rain 13 = .ok (.aload_n 0, 1) := by decide +kernel
theorem dX7_rain_14 : decode cX7_rain 14 = .ok (.getfield 64, 3) := by decide +kernel
theorem dX7_rain_17 : decode cX7_rain 17 = .ok (.getfield 112, 3) := by decide +kernel
theorem dX7_rain_20 : decode cX7_rain 20 = .ok (.ifCond .ne 6, 3) := by decide +kernel
theorem dX7_rain_23 : decode cX7_rain 23 = .ok (.ldc 143, 2) := by decide +kernel
theorem dX7_rain_25 : decode cX7_rain 25 = .ok (.ireturn, 1) := by decide +kernel
theorem dX7_rain_26 : decode cX7_rain 26 = .ok (.iconst 0, 1) := by decide +kernel
theorem dX7_rain_27 : decode cX7_rain 27 = .ok (.istore_n 2, 1) := by decide +kernel
theorem dX7_rain_28 : decode cX7_rain 28 = .ok (.iconst 0, 1) := by decide +kernel
theorem dX7_rain_29 : decode cX7_rain 29 = .ok (.istore_n 3, 1) := by decide +kernel
theorem dX7_rain_30 : decode cX7_rain 30 = .ok (.iload_n 3, 1) := by decide +kernel
theorem dX7_rain_31 : decode cX7_rain 31 = .ok (.bipush 10, 2) := by decide +kernel
theorem dX7_rain_33 : decode cX7_rain 33 = .ok (.if_icmp .ge 31, 3) := by decide +kernel
theorem dX7_rain_36 : decode cX7_rain 36 = .ok (.aload_n 0, 1) := by decide +kernel
theorem dX7_rain_37 : decode cX7_rain 37 = .ok (.getfield 19, 3) := by decide +kernel
theorem dX7_rain_40 : decode cX7_rain 40 = .ok (.aload_n 0, 1) := by decide +kernel
theorem dX7_rain_41 : decode cX7_rain 41 = .ok (.getfield 64, 3) := by decide +kernel
theorem dX7_rain_44 : decode cX7_rain 44 = .ok (.iload_n 1, 1) := by decide +kernel
theorem dX7_rain_45 : decode cX7_rain 45 = .ok (.iload_n 3, 1) := by decide +kernel
theorem dX7_rain_46 : decode cX7_rain 46 = .ok (.invokevirtual 279, 3) := by decide +kernel
theorem dX7_rain_49 : decode cX7_rain 49 = .ok (.ifCond .eq 9, 3) := by decide +kernel
theorem dX7_rain_52 : decode cX7_rain 52 = .ok (.iload_n 2, 1) := by decide +kernel
theorem dX7_rain_53 : decode cX7_rain 53 = .ok (.iconst 1, 1) := by decide +kernel
theorem dX7_rain_54 : decode cX7_rain 54 = .ok (.iload_n 3, 1) := by decide +kernel
theorem dX7_rain_55 : decode cX7_rain 55 = .ok (.ishl, 1) := by decide +kernel
theorem dX7_rain_56 : decode cX7_rain 56 = .ok (.ior, 1) := by decide +kernel
theorem dX7_rain_57 : decode cX7_rain 57 = .ok (.istore_n 2, 1) := by decide +kernel
theorem dX7_rain_58 : decode cX7_rain 58 = .ok (.iinc 3 1, 3) := by decide +kernel
theorem dX7_rain_61 : decode cX7_rain 61 = .ok (.goto (-31), 3) := by decide +kernel
theorem dX7_rain_64 : decode cX7_rain 64 = .ok (.iload_n 2, 1) := by decide +kernel
theorem dX7_rain_65 : decode cX7_rain 65 = .ok (.ireturn, 1) := by decide +kernel
theorem dX7_measure_0 : decode cX7_measure 0 = .ok (.aload_n 0, 1) := by decide +kernel
theorem dX7_measure_1 : decode cX7_measure 1 = .ok (.getfield 64, 3) := by decide +kernel
theorem dX7_measure_4 : decode cX7_measure 4 = .ok (.iload_n 1, 1) := by decide +kernel
theorem dX7_measure_5 : decode cX7_measure 5 = .ok (.invokevirtual 170, 3) := by decide +kernel
theorem dX7_measure_8 : decode cX7_measure 8 = .ok (.ifCond .eq 15, 3) := by decide +kernel
theorem dX7_measure_11 : decode cX7_measure 11 = .ok (.aload_n 0, 1) := by decide +kernel
theorem dX7_measure_12 : decode cX7_measure 12 = .ok (.getfield 19, 3) := by decide +kernel
theorem dX7_measure_15 : decode cX7_measure 15 = .ok (.iload_n 1, 1) := by decide +kernel
theorem dX7_measure_16 : decode cX7_measure 16 = .ok (.iload_n 2, 1) := by decide +kernel
theorem dX7_measure_17 : decode cX7_measure 17 = .ok (.invokevirtual 176, 3) := by decide +kernel
theorem dX7_measure_20 : decode cX7_measure 20 = .ok (.ifCond .ne 6, 3) := by decide +kernel
theorem dX7_measure_23 : decode cX7_measure 23 = .ok (.ldc 160, 2) := by decide +kernel
theorem dX7_measure_25 : decode cX7_measure 25 = .ok (.ireturn, 1) := by decide +kernel
theorem dX7_measure_26 : decode cX7_measure 26 = .ok (.aload_n 0, 1) := by decide +kernel
theorem dX7_measure_27 : decode cX7_measure 27 = .ok (.getfield 57, 3) := by decide +kernel
theorem dX7_measure_30 : decode cX7_measure 30 = .ok (.iload_n 1, 1) := by decide +kernel
theorem dX7_measure_31 : decode cX7_measure 31 = .ok (.dup2, 1) := by decide +kernel
theorem dX7_measure_32 : decode cX7_measure 32 = .ok (.iaload, 1) := by decide +kernel
theorem dX7_measure_33 : decode cX7_measure 33 = .ok (.iconst 1, 1) := by decide +kernel
theorem dX7_measure_34 : decode cX7_measure 34 = .ok (.iload_n 2, 1) := by decide +kernel
theorem dX7_measure_35 : decode cX7_measure 35 = .ok (.ishl, 1) := by decide +kernel
theorem dX7_measure_36 : decode cX7_measure 36 = .ok (.ior, 1) := by decide +kernel
theorem dX7_measure_37 : decode cX7_measure 37 = .ok (.iastore, 1) := by decide +kernel
theorem dX7_measure_38 : decode cX7_measure 38 = .ok (.aload_n 0, 1) := by decide +kernel
theorem dX7_measure_39 : decode cX7_measure 39 = .ok (.getfield 57, 3) := by decide +kernel
theorem dX7_measure_42 : decode cX7_measure 42 = .ok (.iload_n 1, 1) := by decide +kernel
theorem dX7_measure_43 : decode cX7_measure 43 = .ok (.iaload, 1) := by decide +kernel
theorem dX7_measure_44 : decode cX7_measure 44 = .ok (.invokestatic 283, 3) := by decide +kernel
theorem dX7_measure_47 : decode cX7_measure 47 = .ok (.ireturn, 1) := by decide +kernel
theorem dX7_write_0 : decode cX7_write 0 = .ok (.aload_n 0, 1) := by decide +kernel
theorem dX7_write_1 : decode cX7_write 1 = .ok (.getfield 64, 3) := by decide +kernel
theorem dX7_write_4 : decode cX7_write 4 = .ok (.iload_n 1, 1) := by decide +kernel
theorem dX7_write_5 : decode cX7_write 5 = .ok (.invokevirtual 170, 3) := by decide +kernel
theorem dX7_write_8 : decode cX7_write 8 = .ok (.ifCond .eq 13, 3) := by decide +kernel
theorem dX7_write_11 : decode cX7_write 11 = .ok (.iload_n 2, 1) := by decide +kernel
theorem dX7_write_12 : decode cX7_write 12 = .ok (.ifCond .lt 9, 3) := by decide +kernel
theorem dX7_write_15 : decode cX7_write 15 = .ok (.iload_n 2, 1) := by decide +kernel
theorem dX7_write_16 : decode cX7_write 16 = .ok (.bipush 12, 2) := by decide +kernel
theorem dX7_write_18 : decode cX7_write 18 = .ok (.if_icmp .lt 6, 3) := by decide +kernel
theorem dX7_write_21 : decode cX7_write 21 = .ok (.ldc 160, 2) := by decide +kernel
theorem dX7_write_23 : decode cX7_write 23 = .ok (.ireturn, 1) := by decide +kernel
theorem dX7_write_24 : decode cX7_write 24 = .ok (.iload_n 3, 1) := by decide +kernel
theorem dX7_write_25 : decode cX7_write 25 = .ok (.invokestatic 257, 3) := by decide +kernel
theorem dX7_write_28 : decode cX7_write 28 = .ok (.ifCond .ne 6, 3) := by decide +kernel
theorem dX7_write_31 : decode cX7_write 31 = .ok (.ldc 75, 2) := by decide +kernel
theorem dX7_write_33 : decode cX7_write 33 = .ok (.ireturn, 1) := by decide +kernel
theorem dX7_write_34 : decode cX7_write 34 = .ok (.aload_n 0, 1) := by decide +kernel
theorem dX7_write_35 : decode cX7_write 35 = .ok (.getfield 39, 3) := by decide +kernel
theorem dX7_write_38 : decode cX7_write 38 = .ok (.iload_n 1, 1) := by decide +kernel
theorem dX7_write_39 : decode cX7_write 39 = .ok (.iload_n 2, 1) := by decide +kernel
theorem dX7_write_40 : decode cX7_write 40 = .ok (.iload_n 3, 1) := by decide +kernel
theorem dX7_write_41 : decode cX7_write 41 = .ok (.invokevirtual 288, 3) := by decide +kernel
theorem dX7_write_44 : decode cX7_write 44 = .ok (.ireturn, 1) := by decide +kernel
theorem dX7_judge_0 : decode cX7_judge 0 = .ok (.aload_n 0, 1) := by decide +kernel
theorem dX7_judge_1 : decode cX7_judge 1 = .ok (.getfield 39, 3) := by decide +kernel
theorem dX7_judge_4 : decode cX7_judge 4 = .ok (.aload_n 0, 1) := by decide +kernel
theorem dX7_judge_5 : decode cX7_judge 5 = .ok (.getfield 64, 3) := by decide +kernel
theorem dX7_judge_8 : decode cX7_judge 8 = .ok (.aload_n 0, 1) := by decide +kernel
theorem dX7_judge_9 : decode cX7_judge 9 = .ok (.getfield 19, 3) := by decide +kernel
theorem dX7_judge_12 : decode cX7_judge 12 = .ok (.invokevirtual 291, 3) := by decide +kernel
theorem dX7_judge_15 : decode cX7_judge 15 = .ok (.ireturn, 1) := by decide +kernel
theorem dX7_tear_0 : decode cX7_tear 0 = .ok (.aload_n 0, 1) := by decide +kernel
theorem dX7_tear_1 : decode cX7_tear 1 = .ok (.getfield 39, 3) := by decide +kernel
theorem dX7_tear_4 : decode cX7_tear 4 = .ok (.getfield 106, 3) := by decide +kernel
theorem dX7_tear_7 : decode cX7_tear 7 = .ok (.aload_n 0, 1) := by decide +kernel
theorem dX7_tear_8 : decode cX7_tear 8 = .ok (.invokevirtual 102, 3) := by decide +kernel
theorem dX7_tear_11 : decode cX7_tear 11 = .ok (.iadd, 1) := by decide +kernel
theorem dX7_tear_12 : decode cX7_tear 12 = .ok (.istore_n 1, 1) := by decide +kernel
theorem dX7_tear_13 : decode cX7_tear 13 = .ok (.aload_n 0, 1) := by decide +kernel
theorem dX7_tear_14 : decode cX7_tear 14 = .ok (.getfield 39, 3) := by decide +kernel
theorem dX7_tear_17 : decode cX7_tear 17 = .ok (.iconst 0, 1) := by decide +kernel
theorem dX7_tear_18 : decode cX7_tear 18 = .ok (.putfield 106, 3) := by decide +kernel
theorem dX7_tear_21 : decode cX7_tear 21 = .ok (.iload_n 1, 1) := by decide +kernel
theorem dX7_tear_22 : decode cX7_tear 22 = .ok (.ireturn, 1) := by decide +kernel
theorem dX7_seed_0 : decode cX7_seed 0 = .ok (.iload_n 1, 1) := by decide +kernel
theorem dX7_seed_1 : decode cX7_seed 1 = .ok (.ifCond .ge 6, 3) := by decide +kernel
theorem dX7_seed_4 : decode cX7_seed 4 = .ok (.ldc 75, 2) := by decide +kernel
theorem dX7_seed_6 : decode cX7_seed 6 = .ok (.ireturn, 1) := by decide +kernel
theorem dX7_seed_7 : decode cX7_seed 7 = .ok (.aload_n 0, 1) := by decide +kernel
theorem dX7_seed_8 : decode cX7_seed 8 = .ok (.getfield 19, 3) := by decide +kernel
theorem dX7_seed_11 : decode cX7_seed 11 = .ok (.getfield 295, 3) := by decide +kernel
theorem dX7_seed_14 : decode cX7_seed 14 = .ok (.istore_n 2, 1) := by decide +kernel
theorem dX7_seed_15 : decode cX7_seed 15 = .ok (.aload_n 0, 1) := by decide +kernel
theorem dX7_seed_16 : decode cX7_seed 16 = .ok (.getfield 19, 3) := by decide +kernel
theorem dX7_seed_19 : decode cX7_seed 19 = .ok (.iload_n 1, 1) := by decide +kernel
theorem dX7_seed_20 : decode cX7_seed 20 = .ok (.putfield 295, 3) := by decide +kernel
theorem dX7_seed_23 : decode cX7_seed 23 = .ok (.iload_n 2, 1) := by decide +kernel
theorem dX7_seed_24 : decode cX7_seed 24 = .ok (.ireturn, 1) := by decide +kernel
theorem dX7_keep_0 : decode cX7_keep 0 = .ok (.iload_n 1, 1) := by decide +kernel
theorem dX7_keep_1 : decode cX7_keep 1 = .ok (.invokestatic 298, 3) := by decide +kernel
theorem dX7_keep_4 : decode cX7_keep 4 = .ok (.ifCond .ne 6, 3) := by decide +kernel
theorem dX7_keep_7 : decode cX7_keep 7 = .ok (.ldc 160, 2) := by decide +kernel
theorem dX7_keep_9 : decode cX7_keep 9 = .ok (.ireturn, 1) := by decide +kernel
theorem dX7_keep_10 : decode cX7_keep 10 = .ok (.aload_n 0, 1) := by decide +kernel
theorem dX7_keep_11 : decode cX7_keep 11 = .ok (.iload_n 1, 1) := by decide +kernel
theorem dX7_keep_12 : decode cX7_keep 12 = .ok (.invokevirtual 301, 3) := by decide +kernel
theorem dX7_keep_15 : decode cX7_keep 15 = .ok (.astore_n 2, 1) := by decide +kernel
theorem dX7_keep_16 : decode cX7_keep 16 = .ok (.aload_n 2, 1) := by decide +kernel
theorem dX7_keep_17 : decode cX7_keep 17 = .ok (.aload_n 0, 1) := by decide +kernel
theorem dX7_keep_18 : decode cX7_keep 18 = .ok (.getfield 19, 3) := by decide +kernel
theorem dX7_keep_21 : decode cX7_keep 21 = .ok (.invokevirtual 305, 3) := by decide +kernel
theorem dX7_keep_24 : decode cX7_keep 24 = .ok (.aload_n 2, 1) := by decide +kernel
theorem dX7_keep_25 : decode cX7_keep 25 = .ok (.iconst 1, 1) := by decide +kernel
theorem dX7_keep_26 : decode cX7_keep 26 = .ok (.putfield 95, 3) := by decide +kernel
theorem dX7_keep_29 : decode cX7_keep 29 = .ok (.aload_n 0, 1) := by decide +kernel
theorem dX7_keep_30 : decode cX7_keep 30 = .ok (.getfield 32, 3) := by decide +kernel
theorem dX7_keep_33 : decode cX7_keep 33 = .ok (.invokevirtual 99, 3) := by decide +kernel
theorem dX7_keep_36 : decode cX7_keep 36 = .ok (.iconst 1, 1) := by decide +kernel
theorem dX7_keep_37 : decode cX7_keep 37 = .ok (.ireturn, 1) := by decide +kernel
theorem dX7_goBack_0 : decode cX7_goBack 0 = .ok (.iload_n 1, 1) := by decide +kernel
theorem dX7_goBack_1 : decode cX7_goBack 1 = .ok (.invokestatic 298, 3) := by decide +kernel
theorem dX7_goBack_4 : decode cX7_goBack 4 = .ok (.ifCond .ne 6, 3) := by decide +kernel
theorem dX7_goBack_7 : decode cX7_goBack 7 = .ok (.ldc 160, 2) := by decide +kernel
theorem dX7_goBack_9 : decode cX7_goBack 9 = .ok (.ireturn, 1) := by decide +kernel
theorem dX7_goBack_10 : decode cX7_goBack 10 = .ok (.aload_n 0, 1) := by decide +kernel
theorem dX7_goBack_11 : decode cX7_goBack 11 = .ok (.iload_n 1, 1) := by decide +kernel
theorem dX7_goBack_12 : decode cX7_goBack 12 = .ok (.invokevirtual 301, 3) := by decide +kernel
theorem dX7_goBack_15 : decode cX7_goBack 15 = .ok (.astore_n 2, 1) := by decide +kernel
theorem dX7_goBack_16 : decode cX7_goBack 16 = .ok (.aload_n 2, 1) := by decide +kernel
theorem dX7_goBack_17 : decode cX7_goBack 17 = .ok (.getfield 95, 3) := by decide +kernel
theorem dX7_goBack_20 : decode cX7_goBack 20 = .ok (.ifCond .ne 6, 3) := by decide +kernel
theorem dX7_goBack_23 : decode cX7_goBack 23 = .ok (.ldc 143, 2) := by decide +kernel
theorem dX7_goBack_25 : decode cX7_goBack 25 = .ok (.ireturn, 1) := by decide +kernel
theorem dX7_goBack_26 : decode cX7_goBack 26 = .ok (.aload_n 0, 1) := by decide +kernel
theorem dX7_goBack_27 : decode cX7_goBack 27 = .ok (.getfield 19, 3) := by decide +kernel
theorem dX7_goBack_30 : decode cX7_goBack 30 = .ok (.aload_n 2, 1) := by decide +kernel
theorem dX7_goBack_31 : decode cX7_goBack 31 = .ok (.invokevirtual 305, 3) := by decide +kernel
theorem dX7_goBack_34 : decode cX7_goBack 34 = .ok (.aload_n 0, 1) := by decide +kernel
theorem dX7_goBack_35 : decode cX7_goBack 35 = .ok (.getfield 32, 3) := by decide +kernel
theorem dX7_goBack_38 : decode cX7_goBack 38 = .ok (.invokevirtual 99, 3) := by decide +kernel
theorem dX7_goBack_41 : decode cX7_goBack 41 = .ok (.iconst 1, 1) := by decide +kernel
theorem dX7_goBack_42 : decode cX7_goBack 42 = .ok (.ireturn, 1) := by decide +kernel
theorem dX7_isHour_0 : decode cX7_isHour 0 = .ok (.iload_n 0, 1) := by decide +kernel
theorem dX7_isHour_1 : decode cX7_isHour 1 = .ok (.ifCond .lt 13, 3) := by decide +kernel
theorem dX7_isHour_4 : decode cX7_isHour 4 = .ok (.iload_n 0, 1) := by decide +kernel
theorem dX7_isHour_5 : decode cX7_isHour 5 = .ok (.bipush 96, 2) := by decide +kernel
theorem dX7_isHour_7 : decode cX7_isHour 7 = .ok (.if_icmp .ge 7, 3) := by decide +kernel
theorem dX7_isHour_10 : decode cX7_isHour 10 = .ok (.iconst 1, 1) := by decide +kernel
theorem dX7_isHour_11 : decode cX7_isHour 11 = .ok (.goto 4, 3) := by decide +kernel
theorem dX7_isHour_14 : decode cX7_isHour 14 = .ok (.iconst 0, 1) := by decide +kernel
theorem dX7_isHour_15 : decode cX7_isHour 15 = .ok (.ireturn, 1) := by decide +kernel
theorem dX7_isLook_0 : decode cX7_isLook 0 = .ok (.iload_n 0, 1) := by decide +kernel
theorem dX7_isLook_1 : decode cX7_isLook 1 = .ok (.ifCond .lt 14, 3) := by decide +kernel
theorem dX7_isLook_4 : decode cX7_isLook 4 = .ok (.iload_n 0, 1) := by decide +kernel
theorem dX7_isLook_5 : decode cX7_isLook 5 = .ok (.sipush 9999, 3) := by decide +kernel
theorem dX7_isLook_8 : decode cX7_isLook 8 = .ok (.if_icmp .gt 7, 3) := by decide +kernel
theorem dX7_isLook_11 : decode cX7_isLook 11 = .ok (.iconst 1, 1) := by decide +kernel
theorem dX7_isLook_12 : decode cX7_isLook 12 = .ok (.goto 4, 3) := by decide +kernel
theorem dX7_isLook_15 : decode cX7_isLook 15 = .ok (.iconst 0, 1) := by decide +kernel
theorem dX7_isLook_16 : decode cX7_isLook 16 = .ok (.ireturn, 1) := by decide +kernel
theorem dX7_isImage_0 : decode cX7_isImage 0 = .ok (.iload_n 0, 1) := by decide +kernel
theorem dX7_isImage_1 : decode cX7_isImage 1 = .ok (.ifCond .eq 8, 3) := by decide +kernel
theorem dX7_isImage_4 : decode cX7_isImage 4 = .ok (.iload_n 0, 1) := by decide +kernel
theorem dX7_isImage_5 : decode cX7_isImage 5 = .ok (.iconst 1, 1) := by decide +kernel
theorem dX7_isImage_6 : decode cX7_isImage 6 = .ok (.if_icmp .ne 7, 3) := by decide +kernel
theorem dX7_isImage_9 : decode cX7_isImage 9 = .ok (.iconst 1, 1) := by decide +kernel
theorem dX7_isImage_10 : decode cX7_isImage 10 = .ok (.goto 4, 3) := by decide +kernel
theorem dX7_isImage_13 : decode cX7_isImage 13 = .ok (.iconst 0, 1) := by decide +kernel
theorem dX7_isImage_14 : decode cX7_isImage 14 = .ok (.ireturn, 1) := by decide +kernel
theorem dX7_imageOf_0 : decode cX7_imageOf 0 = .ok (.iload_n 1, 1) := by decide +kernel
theorem dX7_imageOf_1 : decode cX7_imageOf 1 = .ok (.ifCond .ne 10, 3) := by decide +kernel
theorem dX7_imageOf_4 : decode cX7_imageOf 4 = .ok (.aload_n 0, 1) := by decide +kernel
theorem dX7_imageOf_5 : decode cX7_imageOf 5 = .ok (.getfield 23, 3) := by decide +kernel
theorem dX7_imageOf_8 : decode cX7_imageOf 8 = .ok (.goto 7, 3) := by decide +kernel
theorem dX7_imageOf_11 : decode cX7_imageOf 11 = .ok (.aload_n 0, 1) := by decide +kernel
theorem dX7_imageOf_12 : decode cX7_imageOf 12 = .ok (.getfield 26, 3) := by decide +kernel
theorem dX7_imageOf_15 : decode cX7_imageOf 15 = .ok (.areturn, 1) := by decide +kernel
theorem dX7_isMeasured_0 : decode cX7_isMeasured 0 = .ok (.aload_n 0, 1) := by decide +kernel
theorem dX7_isMeasured_1 : decode cX7_isMeasured 1 = .ok (.getfield 57, 3) := by decide +kernel
theorem dX7_isMeasured_4 : decode cX7_isMeasured 4 = .ok (.iload_n 1, 1) := by decide +kernel
theorem dX7_isMeasured_5 : decode cX7_isMeasured 5 = .ok (.iaload, 1) := by decide +kernel
theorem dX7_isMeasured_6 : decode cX7_isMeasured 6 = .ok (.iload_n 2, 1) := by decide +kernel
theorem dX7_isMeasured_7 : decode cX7_isMeasured 7 = .ok (.ishr, 1) := by decide +kernel
theorem dX7_isMeasured_8 : decode cX7_isMeasured 8 = .ok (.iconst 1, 1) := by decide +kernel
theorem dX7_isMeasured_9 : decode cX7_isMeasured 9 = .ok (.iand, 1) := by decide +kernel
theorem dX7_isMeasured_10 : decode cX7_isMeasured 10 = .ok (.iconst 1, 1) := by decide +kernel
theorem dX7_isMeasured_11 : decode cX7_isMeasured 11 = .ok (.if_icmp .ne 7, 3) := by decide +kernel
theorem dX7_isMeasured_14 : decode cX7_isMeasured 14 = .ok (.iconst 1, 1) := by decide +kernel
theorem dX7_isMeasured_15 : decode cX7_isMeasured 15 = .ok (.goto 4, 3) := by decide +kernel
theorem dX7_isMeasured_18 : decode cX7_isMeasured 18 = .ok (.iconst 0, 1) := by decide +kernel
theorem dX7_isMeasured_19 : decode cX7_isMeasured 19 = .ok (.ireturn, 1) := by decide +kernel
theorem dX7_ofAllLetters_0 : decode cX7_ofAllLetters 0 = .ok (.iload_n 2, 1) := by decide +kernel
theorem dX7_ofAllLetters_1 : decode cX7_ofAllLetters 1 = .ok (.ifCond .ne 12, 3) := by decide +kernel
theorem dX7_ofAllLetters_4 : decode cX7_ofAllLetters 4 = .ok (.aload_n 0, 1) := by decide +kernel
theorem dX7_ofAllLetters_5 : decode cX7_ofAllLetters 5 = .ok (.getfield 19, 3) := by decide +kernel
theorem dX7_ofAllLetters_8 : decode cX7_ofAllLetters 8 = .ok (.iload_n 1, 1) := by decide +kernel
theorem dX7_ofAllLetters_9 : decode cX7_ofAllLetters 9 = .ok (.invokevirtual 204, 3) := by decide +kernel
theorem dX7_ofAllLetters_12 : decode cX7_ofAllLetters 12 = .ok (.ireturn, 1) := by decide +kernel
theorem dX7_ofAllLetters_13 : decode cX7_ofAllLetters 13 = .ok (.iload_n 2, 1) := by decide +kernel
theorem dX7_ofAllLetters_14 : decode cX7_ofAllLetters 14 = .ok (.iconst 1, 1) := by decide +kernel
theorem dX7_ofAllLetters_15 : decode cX7_ofAllLetters 15 = .ok (.if_icmp .ne 14, 3) := by decide +kernel
theorem dX7_ofAllLetters_18 : decode cX7_ofAllLetters 18 = .ok (.aload_n 0, 1) := by decide +kernel
theorem dX7_ofAllLetters_19 : decode cX7_ofAllLetters 19 = .ok (.getfield 19, 3) := by decide +kernel
theorem dX7_ofAllLetters_22 : decode cX7_ofAllLetters 22 = .ok (.iload_n 1, 1) := by decide +kernel
theorem dX7_ofAllLetters_23 : decode cX7_ofAllLetters 23 = .ok (.invokevirtual 308, 3) := by decide +kernel
theorem dX7_ofAllLetters_26 : decode cX7_ofAllLetters 26 = .ok (.goto 5, 3) := by decide +kernel
theorem dX7_ofAllLetters_29 : decode cX7_ofAllLetters 29 = .ok (.ldc 75, 2) := by decide +kernel
theorem dX7_ofAllLetters_31 : decode cX7_ofAllLetters 31 = .ok (.ireturn, 1) := by decide +kernel
theorem dX7_append_0 : decode cX7_append 0 = .ok (.aload_n 0, 1) := by decide +kernel
theorem dX7_append_1 : decode cX7_append 1 = .ok (.getfield 19, 3) := by decide +kernel
theorem dX7_append_4 : decode cX7_append 4 = .ok (.iload_n 1, 1) := by decide +kernel
theorem dX7_append_5 : decode cX7_append 5 = .ok (.iload_n 2, 1) := by decide +kernel
theorem dX7_append_6 : decode cX7_append 6 = .ok (.iload_n 3, 1) := by decide +kernel
theorem dX7_append_7 : decode cX7_append 7 = .ok (.iload 4, 2) := by decide +kernel
theorem dX7_append_9 : decode cX7_append 9 = .ok (.invokevirtual 311, 3) := by decide +kernel
theorem dX7_append_12 : decode cX7_append 12 = .ok (.aload_n 0, 1) := by decide +kernel
theorem dX7_append_13 : decode cX7_append 13 = .ok (.getfield 32, 3) := by decide +kernel
theorem dX7_append_16 : decode cX7_append 16 = .ok (.iload_n 1, 1) := by decide +kernel
theorem dX7_append_17 : decode cX7_append 17 = .ok (.invokevirtual 314, 3) := by decide +kernel
theorem dX7_append_20 : decode cX7_append 20 = .ok (.return_, 1) := by decide +kernel
theorem dX7_dropMeasures_0 : decode cX7_dropMeasures 0 = .ok (.iconst 0, 1) := by decide +kernel
theorem dX7_dropMeasures_1 : decode cX7_dropMeasures 1 = .ok (.istore_n 1, 1) := by decide +kernel
theorem dX7_dropMeasures_2 : decode cX7_dropMeasures 2 = .ok (.iconst 0, 1) := by decide +kernel
theorem dX7_dropMeasures_3 : decode cX7_dropMeasures 3 = .ok (.istore_n 2, 1) := by decide +kernel
theorem dX7_dropMeasures_4 : decode cX7_dropMeasures 4 = .ok (.iload_n 2, 1) := by decide +kernel
theorem dX7_dropMeasures_5 : decode cX7_dropMeasures 5 = .ok (.iconst 4, 1) := by decide +kernel
theorem dX7_dropMeasures_6 : decode cX7_dropMeasures 6 = .ok (.if_icmp .ge 28, 3) := by decide +kernel
theorem dX7_dropMeasures_9 : decode cX7_dropMeasures 9 = .ok (.iload_n 1, 1) := by decide +kernel
theorem dX7_dropMeasures_10 : decode cX7_dropMeasures 10 = .ok (.aload_n 0, 1) := by decide +kernel
theorem dX7_dropMeasures_11 : decode cX7_dropMeasures 11 = .ok (.getfield 57, 3) := by decide +kernel
theorem dX7_dropMeasures_14 : decode cX7_dropMeasures 14 = .ok (.iload_n 2, 1) := by decide +kernel
theorem dX7_dropMeasures_15 : decode cX7_dropMeasures 15 = .ok (.iaload, 1) := by decide +kernel
theorem dX7_dropMeasures_16 : decode cX7_dropMeasures 16 = .ok (.invokestatic 283, 3) := by decide +kernel
theorem dX7_dropMeasures_19 : decode cX7_dropMeasures 19 = .ok (.iadd, 1) := by decide +kernel
theorem dX7_dropMeasures_20 : decode cX7_dropMeasures 20 = .ok (.istore_n 1, 1) := by decide +kernel
theorem dX7_dropMeasures_21 : decode cX7_dropMeasures 21 = .ok (.aload_n 0, 1) := by decide +kernel
theorem dX7_dropMeasures_22 : decode cX7_dropMeasures 22 = .ok (.getfield 57, 3) := by decide +kernel
theorem dX7_dropMeasures_25 : decode cX7_dropMeasures 25 = .ok (.iload_n 2, 1) := by decide +kernel
theorem dX7_dropMeasures_26 : decode cX7_dropMeasures 26 = .ok (.iconst 0, 1) := by decide +kernel
theorem dX7_dropMeasures_27 : decode cX7_dropMeasures 27 = .ok (.iastore, 1) := by decide +kernel
theorem dX7_dropMeasures_28 : decode cX7_dropMeasures 28 = .ok (.iinc 2 1, 3) := by decide +kernel
theorem dX7_dropMeasures_31 : decode cX7_dropMeasures 31 = .ok (.goto (-27), 3) := by decide +kernel
theorem dX7_dropMeasures_34 : decode cX7_dropMeasures 34 = .ok (.iload_n 1, 1) := by decide +kernel
theorem dX7_dropMeasures_35 : decode cX7_dropMeasures 35 = .ok (.ireturn, 1) := by decide +kernel
theorem dX8_init_0 : decode cX8_init 0 = .ok (.aload_n 0, 1) := by decide +kernel
theorem dX8_init_1 : decode cX8_init 1 = .ok (.invokespecial 1, 3) := by decide +kernel
theorem dX8_init_4 : decode cX8_init 4 = .ok (.aload_n 0, 1) := by decide +kernel
theorem dX8_init_5 : decode cX8_init 5 = .ok (.sipush 1782, 3) := by decide +kernel
theorem dX8_init_8 : decode cX8_init 8 = .ok (.newarray .int, 2) := by decide +kernel
theorem dX8_init_10 : decode cX8_init 10 = .ok (.putfield 7, 3) := by decide +kernel
theorem dX8_init_13 : decode cX8_init 13 = .ok (.aload_n 0, 1) := by decide +kernel
theorem dX8_init_14 : decode cX8_init 14 = .ok (.iconst 2, 1) := by decide +kernel
theorem dX8_init_15 : decode cX8_init 15 = .ok (.newarray .boolean, 2) := by decide +kernel
theorem dX8_init_17 : decode cX8_init 17 = .ok (.putfield 13, 3) := by decide +kernel
theorem dX8_init_20 : decode cX8_init 20 = .ok (.aload_n 0, 1) := by decide +kernel
theorem dX8_init_21 : decode cX8_init 21 = .ok (.bipush 6, 2) := by decide +kernel
theorem dX8_init_23 : decode cX8_init 23 = .ok (.newarray .int, 2) := by decide +kernel
theorem dX8_init_25 : decode cX8_init 25 = .ok (.putfield 17, 3) := by decide +kernel
theorem dX8_init_28 : decode cX8_init 28 = .ok (.aload_n 0, 1) := by decide +kernel
theorem dX8_init_29 : decode cX8_init 29 = .ok (.bipush 16, 2) := by decide +kernel
theorem dX8_init_31 : decode cX8_init 31 = .ok (.newarray .int, 2) := by decide +kernel
theorem dX8_init_33 : decode cX8_init 33 = .ok (.putfield 20, 3) := by decide +kernel
theorem dX8_init_36 : decode cX8_init 36 = .ok (.aload_n 0, 1) := by decide +kernel
theorem dX8_init_37 : decode cX8_init 37 = .ok (.bipush 8, 2) := by decide +kernel
theorem dX8_init_39 : decode cX8_init 39 = .ok (.newarray .int, 2) := by decide +kernel
theorem dX8_init_41 : decode cX8_init 41 = .ok (.putfield 23, 3) := by decide +kernel
theorem dX8_init_44 : decode cX8_init 44 = .ok (.aload_n 0, 1) := by decide +kernel
theorem dX8_init_45 : decode cX8_init 45 = .ok (.bipush 8, 2) := by decide +kernel
theorem dX8_init_47 : decode cX8_init 47 = .ok (.newarray .int, 2) := by decide +kernel
theorem dX8_init_49 : decode cX8_init 49 = .ok (.putfield 26, 3) := by decide +kernel
theorem dX8_init_52 : decode cX8_init 52 = .ok (.aload_n 0, 1) := by decide +kernel
theorem dX8_init_53 : decode cX8_init 53 = .ok (.bipush 8, 2) := by decide +kernel
theorem dX8_init_55 : decode cX8_init 55 = .ok (.newarray .int, 2) := by decide +kernel
theorem dX8_init_57 : decode cX8_init 57 = .ok (.putfield 29, 3) := by decide +kernel
theorem dX8_init_60 : decode cX8_init 60 = .ok (.aload_n 0, 1) := by decide +kernel
theorem dX8_init_61 : decode cX8_init 61 = .ok (.bipush 8, 2) := by decide +kernel
theorem dX8_init_63 : decode cX8_init 63 = .ok (.newarray .int, 2) := by decide +kernel
theorem dX8_init_65 : decode cX8_init 65 = .ok (.putfield 32, 3) := by decide +kernel
theorem dX8_init_68 : decode cX8_init 68 = .ok (.aload_n 0, 1) := by decide +kernel
theorem dX8_init_69 : decode cX8_init 69 = .ok (.bipush 8, 2) := by decide +kernel
theorem dX8_init_71 : decode cX8_init 71 = .ok (.newarray .int, 2) := by decide +kernel
theorem dX8_init_73 : decode cX8_init 73 = .ok (.putfield 35, 3) := by decide +kernel
theorem dX8_init_76 : decode cX8_init 76 = .ok (.aload_n 0, 1) := by decide +kernel
theorem dX8_init_77 : decode cX8_init 77 = .ok (.bipush 8, 2) := by decide +kernel
theorem dX8_init_79 : decode cX8_init 79 = .ok (.newarray .int, 2) := by decide +kernel
theorem dX8_init_81 : decode cX8_init 81 = .ok (.putfield 38, 3) := by decide +kernel
theorem dX8_init_84 : decode cX8_init 84 = .ok (.aload_n 0, 1) := by decide +kernel
theorem dX8_init_85 : decode cX8_init 85 = .ok (.sipush 230, 3) := by decide +kernel
theorem dX8_init_88 : decode cX8_init 88 = .ok (.newarray .int, 2) := by decide +kernel
theorem dX8_init_90 : decode cX8_init 90 = .ok (.putfield 41, 3) := by decide +kernel
theorem dX8_init_93 : decode cX8_init 93 = .ok (.aload_n 0, 1) := by decide +kernel
theorem dX8_init_94 : decode cX8_init 94 = .ok (.iconst (-1), 1) := by decide +kernel
theorem dX8_init_95 : decode cX8_init 95 = .ok (.putfield 44, 3) := by decide +kernel
theorem dX8_init_98 : decode cX8_init 98 = .ok (.aload_n 0, 1) := by decide +kernel
theorem dX8_init_99 : decode cX8_init 99 = .ok (.iconst 4, 1) := by decide +kernel
theorem dX8_init_100 : decode cX8_init 100 = .ok (.newarray .int, 2) := by decide +kernel
theorem dX8_init_102 : decode cX8_init 102 = .ok (.putfield 48, 3) := by decide +kernel
theorem dX8_init_105 : decode cX8_init 105 = .ok (.aload_n 0, 1) := by decide +kernel
theorem dX8_init_106 : decode cX8_init 106 = .ok (.sipush 384, 3) := by decide +kernel
theorem dX8_init_109 : decode cX8_init 109 = .ok (.newarray .boolean, 2) := by decide +kernel
theorem dX8_init_111 : decode cX8_init 111 = .ok (.putfield 51, 3) := by decide +kernel
theorem dX8_init_114 : decode cX8_init 114 = .ok (.aload_n 0, 1) := by decide +kernel
theorem dX8_init_115 : decode cX8_init 115 = .ok (.sipush 10000, 3) := by decide +kernel
theorem dX8_init_118 : decode cX8_init 118 = .ok (.newarray .int, 2) := by decide +kernel
theorem dX8_init_120 : decode cX8_init 120 = .ok (.putfield 54, 3) := by decide +kernel
theorem dX8_init_123 : decode cX8_init 123 = .ok (.aload_n 0, 1) := by decide +kernel
theorem dX8_init_124 : decode cX8_init 124 = .ok (.bipush 16, 2) := by decide +kernel
theorem dX8_init_126 : decode cX8_init 126 = .ok (.newarray .int, 2) := by decide +kernel
theorem dX8_init_128 : decode cX8_init 128 = .ok (.putfield 57, 3) := by decide +kernel
theorem dX8_init_131 : decode cX8_init 131 = .ok (.aload_n 0, 1) := by decide +kernel
theorem dX8_init_132 : decode cX8_init 132 = .ok (.bipush 20, 2) := by decide +kernel
theorem dX8_init_134 : decode cX8_init 134 = .ok (.newarray .int, 2) := by decide +kernel
theorem dX8_init_136 : decode cX8_init 136 = .ok (.putfield 60, 3) := by decide +kernel
theorem dX8_init_139 : decode cX8_init 139 = .ok (.aload_n 0, 1) := by decide +kernel
theorem dX8_init_140 : decode cX8_init 140 = .ok (.bipush 20, 2) := by decide +kernel
theorem dX8_init_142 : decode cX8_init 142 = .ok (.newarray .int, 2) := by decide +kernel
theorem dX8_init_144 : decode cX8_init 144 = .ok (.putfield 63, 3) := by decide +kernel
theorem dX8_init_147 : decode cX8_init 147 = .ok (.aload_n 0, 1) := by decide +kernel
theorem dX8_init_148 : decode cX8_init 148 = .ok (.bipush 20, 2) := by decide +kernel
theorem dX8_init_150 : decode cX8_init 150 = .ok (.newarray .int, 2) := by decide +kernel
theorem dX8_init_152 : decode cX8_init 152 = .ok (.putfield 66, 3) := by decide +kernel
theorem dX8_init_155 : decode cX8_init 155 = .ok (.aload_n 0, 1) := by decide +kernel
theorem dX8_init_156 : decode cX8_init 156 = .ok (.getfield 7, 3) := by decide +kernel
theorem dX8_init_159 : decode cX8_init 159 = .ok (.bipush 52, 2) := by decide +kernel
theorem dX8_init_161 : decode cX8_init 161 = .ok (.iconst (-1), 1) := by decide +kernel
theorem dX8_init_162 : decode cX8_init 162 = .ok (.iastore, 1) := by decide +kernel
theorem dX8_init_163 : decode cX8_init 163 = .ok (.return_, 1) := by decide +kernel
theorem dX8_in_0 : decode cX8_in 0 = .ok (.lload_n 0, 1) := by decide +kernel
theorem dX8_in_1 : decode cX8_in 1 = .ok (.lload_n 2, 1) := by decide +kernel
theorem dX8_in_2 : decode cX8_in 2 = .ok (.lcmp, 1) := by decide +kernel
theorem dX8_in_3 : decode cX8_in 3 = .ok (.ifCond .lt 14, 3) := by decide +kernel
theorem dX8_in_6 : decode cX8_in 6 = .ok (.lload_n 0, 1) := by decide +kernel
theorem dX8_in_7 : decode cX8_in 7 = .ok (.lload 4, 2) := by decide +kernel
theorem dX8_in_9 : decode cX8_in 9 = .ok (.lcmp, 1) := by decide +kernel
theorem dX8_in_10 : decode cX8_in 10 = .ok (.ifCond .gt 7, 3) := by decide +kernel
theorem dX8_in_13 : decode cX8_in 13 = .ok (.iconst 1, 1) := by decide +kernel
theorem dX8_in_14 : decode cX8_in 14 = .ok (.goto 4, 3) := by decide +kernel
theorem dX8_in_17 : decode cX8_in 17 = .ok (.iconst 0, 1) := by decide +kernel
theorem dX8_in_18 : decode cX8_in 18 = .ok (.ireturn, 1) := by decide +kernel
theorem dX8_one_0 : decode cX8_one 0 = .ok (.iload_n 0, 1) := by decide +kernel
theorem dX8_one_1 : decode cX8_one 1 = .ok (.ifCond .eq 7, 3) := by decide +kernel
theorem dX8_one_4 : decode cX8_one 4 = .ok (.iconst 1, 1) := by decide +kernel
theorem dX8_one_5 : decode cX8_one 5 = .ok (.goto 4, 3) := by decide +kernel
theorem dX8_one_8 : decode cX8_one 8 = .ok (.iconst 0, 1) := by decide +kernel
theorem dX8_one_9 : decode cX8_one 9 = .ok (.ireturn, 1) := by decide +kernel
theorem dX8_has_0 : decode cX8_has 0 = .ok (.iload_n 0, 1) := by decide +kernel
theorem dX8_has_1 : decode cX8_has 1 = .ok (.iload_n 1, 1) := by decide +kernel
theorem dX8_has_2 : decode cX8_has 2 = .ok (.ishr, 1) := by decide +kernel
theorem dX8_has_3 : decode cX8_has 3 = .ok (.iconst 1, 1) := by decide +kernel
theorem dX8_has_4 : decode cX8_has 4 = .ok (.iand, 1) := by decide +kernel
theorem dX8_has_5 : decode cX8_has 5 = .ok (.iconst 1, 1) := by decide +kernel
theorem dX8_has_6 : decode cX8_has 6 = .ok (.if_icmp .ne 7, 3) := by decide +kernel
theorem dX8_has_9 : decode cX8_has 9 = .ok (.iconst 1, 1) := by decide +kernel
theorem dX8_has_10 : decode cX8_has 10 = .ok (.goto 4, 3) := by decide +kernel
theorem dX8_has_13 : decode cX8_has 13 = .ok (.iconst 0, 1) := by decide +kernel
theorem dX8_has_14 : decode cX8_has 14 = .ok (.ireturn, 1) := by decide +kernel
theorem dX8_ones_0 : decode cX8_ones 0 = .ok (.iconst 0, 1) := by decide +kernel
theorem dX8_ones_1 : decode cX8_ones 1 = .ok (.istore_n 1, 1) := by decide +kernel
theorem dX8_ones_2 : decode cX8_ones 2 = .ok (.iconst 0, 1) := by decide +kernel
theorem dX8_ones_3 : decode cX8_ones 3 = .ok (.istore_n 2, 1) := by decide +kernel
theorem dX8_ones_4 : decode cX8_ones 4 = .ok (.iload_n 2, 1) := by decide +kernel
theorem dX8_ones_5 : decode cX8_ones 5 = .ok (.bipush 12, 2) := by decide +kernel
theorem dX8_ones_7 : decode cX8_ones 7 = .ok (.if_icmp .ge 17, 3) := by decide +kernel
theorem dX8_ones_10 : decode cX8_ones 10 = .ok (.iload_n 1, 1) := by decide +kernel
theorem dX8_ones_11 : decode cX8_ones 11 = .ok (.iload_n 0, 1) := by decide +kernel
theorem dX8_ones_12 : decode cX8_ones 12 = .ok (.iload_n 2, 1) := by decide +kernel
theorem dX8_ones_13 : decode cX8_ones 13 = .ok (.ishr, 1) := by decide +kernel
theorem dX8_ones_14 : decode cX8_ones 14 = .ok (.iconst 1, 1) := by decide +kernel
theorem dX8_ones_15 : decode cX8_ones 15 = .ok (.iand, 1) := by decide +kernel
theorem dX8_ones_16 : decode cX8_ones 16 = .ok (.iadd, 1) := by decide +kernel
theorem dX8_ones_17 : decode cX8_ones 17 = .ok (.istore_n 1, 1) := by decide +kernel
theorem dX8_ones_18 : decode cX8_ones 18 = .ok (.iinc 2 1, 3) := by decide +kernel
theorem dX8_ones_21 : decode cX8_ones 21 = .ok (.goto (-17), 3) := by decide +kernel
theorem dX8_ones_24 : decode cX8_ones 24 = .ok (.iload_n 1, 1) := by decide +kernel
theorem dX8_ones_25 : decode cX8_ones 25 = .ok (.ireturn, 1) := by decide +kernel
theorem dX8_feed_0 : decode cX8_feed 0 = .ok (.iload_n 1, 1) := by decide +kernel
theorem dX8_feed_1 : decode cX8_feed 1 = .ok (.i2l, 1) := by decide +kernel
theorem dX8_feed_2 : decode cX8_feed 2 = .ok (.lconst 0, 1) := by decide +kernel
theorem dX8_feed_3 : decode cX8_feed 3 = .ok (.ldc2_w 69, 3) := by decide +kernel
theorem dX8_feed_6 : decode cX8_feed 6 = .ok (.invokestatic 71, 3) := by decide +kernel
theorem dX8_feed_9 : decode cX8_feed 9 = .ok (.ifCond .ne 6, 3) := by decide +kernel
theorem dX8_feed_12 : decode cX8_feed 12 = .ok (.ldc 75, 2) := by decide +kernel
theorem dX8_feed_14 : decode cX8_feed 14 = .ok (.ireturn, 1) := by decide +kernel
theorem dX8_feed_15 : decode cX8_feed 15 = .ok (.aload_n 0, 1) := by decide +kernel
theorem dX8_feed_16 : decode cX8_feed 16 = .ok (.getfield 76, 3) := by decide +kernel
theorem dX8_feed_19 : decode cX8_feed 19 = .ok (.sipush 230, 3) := by decide +kernel
theorem dX8_feed_22 : decode cX8_feed 22 = .ok (.if_icmp .ne 6, 3) := by decide +kernel
theorem dX8_feed_25 : decode cX8_feed 25 = .ok (.ldc 79, 2) := by decide +kernel
theorem dX8_feed_27 : decode cX8_feed 27 = .ok (.ireturn, 1) := by decide +kernel
theorem dX8_feed_28 : decode cX8_feed 28 = .ok (.aload_n 0, 1) := by decide +kernel
theorem dX8_feed_29 : decode cX8_feed 29 = .ok (.getfield 41, 3) := by decide +kernel
theorem dX8_feed_32 : decode cX8_feed 32 = .ok (.aload_n 0, 1) := by decide +kernel
theorem dX8_feed_33 : decode cX8_feed 33 = .ok (.getfield 76, 3) := by decide +kernel
theorem dX8_feed_36 : decode cX8_feed 36 = .ok (.iload_n 1, 1) := by decide +kernel
theorem dX8_feed_37 : decode cX8_feed 37 = .ok (.iastore, 1) := by decide +kernel
theorem dX8_feed_38 : decode cX8_feed 38 = .ok (.aload_n 0, 1) := by decide +kernel
theorem dX8_feed_39 : decode cX8_feed 39 = .ok (.dup, 1) := by decide +kernel
theorem dX8_feed_40 : decode cX8_feed 40 = .ok (.getfield 76, 3) := by decide +kernel
theorem dX8_feed_43 : decode cX8_feed 43 = .ok (.iconst 1, 1) := by decide +kernel
theorem dX8_feed_44 : decode cX8_feed 44 = .ok (.iadd, 1) := by decide +kernel
theorem dX8_feed_45 : decode cX8_feed 45 = .ok (.putfield 76, 3) := by decide +kernel
theorem dX8_feed_48 : decode cX8_feed 48 = .ok (.aload_n 0, 1) := by decide +kernel
theorem dX8_feed_49 : decode cX8_feed 49 = .ok (.getfield 76, 3) := by decide +kernel
theorem dX8_feed_52 : decode cX8_feed 52 = .ok (.ireturn, 1) := by decide +kernel
theorem dX8_here_0 : decode cX8_here 0 = .ok (.aload_n 0, 1) := by decide +kernel
theorem dX8_here_1 : decode cX8_here 1 = .ok (.getfield 80, 3) := by decide +kernel
theorem dX8_here_4 : decode cX8_here 4 = .ok (.aload_n 0, 1) := by decide +kernel
theorem dX8_here_5 : decode cX8_here 5 = .ok (.getfield 76, 3) := by decide +kernel
theorem dX8_here_8 : decode cX8_here 8 = .ok (.if_icmp .ge 30, 3) := by decide +kernel
theorem dX8_here_11 : decode cX8_here 11 = .ok (.aload_n 0, 1) := by decide +kernel
theorem dX8_here_12 : decode cX8_here 12 = .ok (.getfield 41, 3) := by decide +kernel
theorem dX8_here_15 : decode cX8_here 15 = .ok (.aload_n 0, 1) := by decide +kernel
theorem dX8_here_16 : decode cX8_here 16 = .ok (.getfield 80, 3) := by decide +kernel
theorem dX8_here_19 : decode cX8_here 19 = .ok (.iaload, 1) := by decide +kernel
theorem dX8_here_20 : decode cX8_here 20 = .ok (.bipush 32, 2) := by decide +kernel
theorem dX8_here_22 : decode cX8_here 22 = .ok (.if_icmp .ne 16, 3) := by decide +kernel
theorem dX8_here_25 : decode cX8_here 25 = .ok (.aload_n 0, 1) := by decide +kernel
theorem dX8_here_26 : decode cX8_here 26 = .ok (.dup, 1) := by decide +kernel
theorem dX8_here_27 : decode cX8_here 27 = .ok (.getfield 80, 3) := by decide +kernel
theorem dX8_here_30 : decode cX8_here 30 = .ok (.iconst 1, 1) := by decide +kernel
theorem dX8_here_31 : decode cX8_here 31 = .ok (.iadd, 1) := by decide +kernel
theorem dX8_here_32 : decode cX8_here 32 = .ok (.putfield 80, 3) := by decide +kernel
theorem dX8_here_35 : decode cX8_here 35 = .ok (.goto (-35), 3) := by decide +kernel
theorem dX8_here_38 : decode cX8_here 38 = .ok (.aload_n 0, 1) := by decide +kernel
theorem dX8_here_39 : decode cX8_here 39 = .ok (.getfield 80, 3) := by decide +kernel
theorem dX8_here_42 : decode cX8_here 42 = .ok (.aload_n 0, 1) := by decide +kernel
theorem dX8_here_43 : decode cX8_here 43 = .ok (.getfield 76, 3) := by decide +kernel
theorem dX8_here_46 : decode cX8_here 46 = .ok (.if_icmp .ge 15, 3) := by decide +kernel
theorem dX8_here_49 : decode cX8_here 49 = .ok (.aload_n 0, 1) := by decide +kernel
theorem dX8_here_50 : decode cX8_here 50 = .ok (.getfield 41, 3) := by decide +kernel
theorem dX8_here_53 : decode cX8_here 53 = .ok (.aload_n 0, 1) := by decide +kernel
theorem dX8_here_54 : decode cX8_here 54 = .ok (.getfield 80, 3) := by decide +kernel
theorem dX8_here_57 : decode cX8_here 57 = .ok (.iaload, 1) := by decide +kernel
theorem dX8_here_58 : decode cX8_here 58 = .ok (.goto 4, 3) := by decide +kernel
theorem dX8_here_61 : decode cX8_here 61 = .ok (.iconst (-1), 1) := by decide +kernel
theorem dX8_here_62 : decode cX8_here 62 = .ok (.ireturn, 1) := by decide +kernel
theorem dX8_want_0 : decode cX8_want 0 = .ok (.iload_n 1, 1) := by decide +kernel
theorem dX8_want_1 : decode cX8_want 1 = .ok (.ifCond .ne 20, 3) := by decide +kernel
theorem dX8_want_4 : decode cX8_want 4 = .ok (.aload_n 0, 1) := by decide +kernel
theorem dX8_want_5 : decode cX8_want 5 = .ok (.getfield 83, 3) := by decide +kernel
theorem dX8_want_8 : decode cX8_want 8 = .ok (.ifCond .ne 13, 3) := by decide +kernel
theorem dX8_want_11 : decode cX8_want 11 = .ok (.aload_n 0, 1) := by decide +kernel
theorem dX8_want_12 : decode cX8_want 12 = .ok (.iload_n 2, 1) := by decide +kernel
theorem dX8_want_13 : decode cX8_want 13 = .ok (.putfield 83, 3) := by decide +kernel
theorem dX8_want_16 : decode cX8_want 16 = .ok (.aload_n 0, 1) := by decide +kernel
theorem dX8_want_17 : decode cX8_want 17 = .ok (.iload_n 3, 1) := by decide +kernel
theorem dX8_want_18 : decode cX8_want 18 = .ok (.putfield 44, 3) := by decide +kernel
theorem dX8_want_21 : decode cX8_want 21 = .ok (.aload_n 0, 1) := by decide +kernel
theorem dX8_want_22 : decode cX8_want 22 = .ok (.getfield 83, 3) := by decide +kernel
theorem dX8_want_25 : decode cX8_want 25 = .ok (.ifCond .ne 7, 3) := by decide +kernel
theorem dX8_want_28 : decode cX8_want 28 = .ok (.iconst 1, 1) := by decide +kernel
theorem dX8_want_29 : decode cX8_want 29 = .ok (.goto 4, 3) := by decide +kernel
theorem dX8_want_32 : decode cX8_want 32 = .ok (.iconst 0, 1) := by decide +kernel
theorem dX8_want_33 : decode cX8_want 33 = .ok (.ireturn, 1) := by decide +kernel
theorem dX8_takeNumber_0 : decode cX8_takeNumber 0 = .ok (.aload_n 0, 1) := by decide +kernel
theorem dX8_takeNumber_1 : decode cX8_takeNumber 1 = .ok (.getfield 83, 3) := by decide +kernel
theorem dX8_takeNumber_4 : decode cX8_takeNumber 4 = .ok (.ifCond .le 5, 3) := by decide +kernel
theorem dX8_takeNumber_7 : decode cX8_takeNumber 7 = .ok (.iconst 0, 1) := by decide +kernel
theorem dX8_takeNumber_8 : decode cX8_takeNumber 8 = .ok (.ireturn, 1) := by decide +kernel
theorem dX8_takeNumber_9 : decode cX8_takeNumber 9 = .ok (.aload_n 0, 1) := by decide +kernel
theorem dX8_takeNumber_10 : decode cX8_takeNumber 10 = .ok (.invokevirtual 86, 3) := by decide +kernel
theorem dX8_takeNumber_13 : decode cX8_takeNumber 13 = .ok (.istore_n 1, 1) := by decide +kernel
theorem dX8_takeNumber_14 : decode cX8_takeNumber 14 = .ok (.aload_n 0, 1) := by decide +kernel
theorem dX8_takeNumber_15 : decode cX8_takeNumber 15 = .ok (.aload_n 0, 1) := by decide +kernel
theorem dX8_takeNumber_16 : decode cX8_takeNumber 16 = .ok (.getfield 80, 3) := by decide +kernel
theorem dX8_takeNumber_19 : decode cX8_takeNumber 19 = .ok (.putfield 90, 3) := by decide +kernel
theorem dX8_takeNumber_22 : decode cX8_takeNumber 22 = .ok (.aload_n 0, 1) := by decide +kernel
theorem dX8_takeNumber_23 : decode cX8_takeNumber 23 = .ok (.iload_n 1, 1) := by decide +kernel
theorem dX8_takeNumber_24 : decode cX8_takeNumber 24 = .ok (.i2l, 1) := by decide +kernel
theorem dX8_takeNumber_25 : decode cX8_takeNumber 25 = .ok (.ldc2_w 93, 3) := by decide +kernel
theorem dX8_takeNumber_28 : decode cX8_takeNumber 28 = .ok (.ldc2_w 95, 3) := by decide +kernel
theorem dX8_takeNumber_31 : decode cX8_takeNumber 31 = .ok (.invokestatic 71, 3) := by decide +kernel
theorem dX8_takeNumber_34 : decode cX8_takeNumber 34 = .ok (.iconst 1, 1) := by decide +kernel
theorem dX8_takeNumber_35 : decode cX8_takeNumber 35 = .ok (.aload_n 0, 1) := by decide +kernel
theorem dX8_takeNumber_36 : decode cX8_takeNumber 36 = .ok (.getfield 80, 3) := by decide +kernel
theorem dX8_takeNumber_39 : decode cX8_takeNumber 39 = .ok (.invokevirtual 97, 3) := by decide +kernel
theorem dX8_takeNumber_42 : decode cX8_takeNumber 42 = .ok (.ifCond .ne 5, 3) := by decide +kernel
theorem dX8_takeNumber_45 : decode cX8_takeNumber 45 = .ok (.iconst 0, 1) := by decide +kernel
theorem dX8_takeNumber_46 : decode cX8_takeNumber 46 = .ok (.ireturn, 1) := by decide +kernel
theorem dX8_takeNumber_47 : decode cX8_takeNumber 47 = .ok (.iconst 0, 1) := by decide +kernel
theorem dX8_takeNumber_48 : decode cX8_takeNumber 48 = .ok (.istore_n 2, 1) := by decide +kernel
theorem dX8_takeNumber_49 : decode cX8_takeNumber 49 = .ok (.aload_n 0, 1) := by decide +kernel
theorem dX8_takeNumber_50 : decode cX8_takeNumber 50 = .ok (.getfield 80, 3) := by decide +kernel
theorem dX8_takeNumber_53 : decode cX8_takeNumber 53 = .ok (.aload_n 0, 1) := by decide +kernel
theorem dX8_takeNumber_54 : decode cX8_takeNumber 54 = .ok (.getfield 76, 3) := by decide +kernel
theorem dX8_takeNumber_57 : decode cX8_takeNumber 57 = .ok (.if_icmp .ge 66, 3) := by decide +kernel
theorem dX8_takeNumber_60 : decode cX8_takeNumber 60 = .ok (.aload_n 0, 1) := by decide +kernel
theorem dX8_takeNumber_61 : decode cX8_takeNumber 61 = .ok (.getfield 41, 3) := by decide +kernel
theorem dX8_takeNumber_64 : decode cX8_takeNumber 64 = .ok (.aload_n 0, 1) := by decide +kernel
theorem dX8_takeNumber_65 : decode cX8_takeNumber 65 = .ok (.getfield 80, 3) := by decide +kernel
theorem dX8_takeNumber_68 : decode cX8_takeNumber 68 = .ok (.iaload, 1) := by decide +kernel
theorem dX8_takeNumber_69 : decode cX8_takeNumber 69 = .ok (.i2l, 1) := by decide +kernel
theorem dX8_takeNumber_70 : decode cX8_takeNumber 70 = .ok (.ldc2_w 93, 3) := by decide +kernel
theorem dX8_takeNumber_73 : decode cX8_takeNumber 73 = .ok (.ldc2_w 95, 3) := by decide +kernel
theorem dX8_takeNumber_76 : decode cX8_takeNumber 76 = .ok (.invokestatic 71, 3) := by decide +kernel
theorem dX8_takeNumber_79 : decode cX8_takeNumber 79 = .ok (.ifCond .eq 44, 3) := by decide +kernel
theorem dX8_takeNumber_82 : decode cX8_takeNumber 82 = .ok (.iload_n 2, 1) := by decide +kernel
theorem dX8_takeNumber_83 : decode cX8_takeNumber 83 = .ok (.ldc 101, 2) := by decide +kernel
theorem dX8_takeNumber_85 : decode cX8_takeNumber 85 = .ok (.if_icmp .le 7, 3) := by decide +kernel
theorem dX8_takeNumber_88 : decode cX8_takeNumber 88 = .ok (.iload_n 2, 1) := by decide +kernel
theorem dX8_takeNumber_89 : decode cX8_takeNumber 89 = .ok (.goto 20, 3) := by decide +kernel
theorem dX8_takeNumber_92 : decode cX8_takeNumber 92 = .ok (.bipush 10, 2) := by decide +kernel
theorem dX8_takeNumber_94 : decode cX8_takeNumber 94 = .ok (.iload_n 2, 1) := by decide +kernel
theorem dX8_takeNumber_95 : decode cX8_takeNumber 95 = .ok (.imul, 1) := by decide +kernel
theorem dX8_takeNumber_96 : decode cX8_takeNumber 96 = .ok (.aload_n 0, 1) := by decide +kernel
theorem dX8_takeNumber_97 : decode cX8_takeNumber 97 = .ok (.getfield 41, 3) := by decide +kernel
theorem dX8_takeNumber_100 : decode cX8_takeNumber 100 = .ok (.aload_n 0, 1) := by decide +kernel
theorem dX8_takeNumber_101 : decode cX8_takeNumber 101 = .ok (.getfield 80, 3) := by decide +kernel
theorem dX8_takeNumber_104 : decode cX8_takeNumber 104 = .ok (.iaload, 1) := by decide +kernel
theorem dX8_takeNumber_105 : decode cX8_takeNumber 105 = .ok (.iadd, 1) := by decide +kernel
theorem dX8_takeNumber_106 : decode cX8_takeNumber 106 = .ok (.bipush 48, 2) := by decide +kernel
theorem dX8_takeNumber_108 : decode cX8_takeNumber 108 = .ok (.isub, 1) := by decide +kernel
theorem dX8_takeNumber_109 : decode cX8_takeNumber 109 = .ok (.istore_n 2, 1) := by decide +kernel
theorem dX8_takeNumber_110 : decode cX8_takeNumber 110 = .ok (.aload_n 0, 1) := by decide +kernel
theorem dX8_takeNumber_111 : decode cX8_takeNumber 111 = .ok (.dup, 1) := by decide +kernel
theorem dX8_takeNumber_112 : decode cX8_takeNumber 112 = .ok (.getfield 80, 3) := by decide +kernel
theorem dX8_takeNumber_115 : decode cX8_takeNumber 115 = .ok (.iconst 1, 1) := by decide +kernel
theorem dX8_takeNumber_116 : decode cX8_takeNumber 116 = .ok (.iadd, 1) := by decide +kernel
theorem dX8_takeNumber_117 : decode cX8_takeNumber 117 = .ok (.putfield 80, 3) := by decide +kernel
theorem dX8_takeNumber_120 : decode cX8_takeNumber 120 = .ok (.goto (-71), 3) := by decide +kernel
theorem dX8_takeNumber_123 : decode cX8_takeNumber 123 = .ok (.aload_n 0, 1) := by decide +kernel
theorem dX8_takeNumber_124 : decode cX8_takeNumber 124 = .ok (.aload_n 0, 1) := by decide +kernel
theorem dX8_takeNumber_125 : decode cX8_takeNumber 125 = .ok (.getfield 80, 3) := by decide +kernel
theorem dX8_takeNumber_128 : decode cX8_takeNumber 128 = .ok (.aload_n 0, 1) := by decide +kernel
theorem dX8_takeNumber_129 : decode cX8_takeNumber 129 = .ok (.getfield 90, 3) := by decide +kernel
theorem dX8_takeNumber_132 : decode cX8_takeNumber 132 = .ok (.isub, 1) := by decide +kernel
theorem dX8_takeNumber_133 : decode cX8_takeNumber 133 = .ok (.iconst 4, 1) := by decide +kernel
theorem dX8_takeNumber_134 : decode cX8_takeNumber 134 = .ok (.if_icmp .ge 7, 3) := by decide +kernel
theorem dX8_takeNumber_137 : decode cX8_takeNumber 137 = .ok (.iconst 1, 1) := by decide +kernel
theorem dX8_takeNumber_138 : decode cX8_takeNumber 138 = .ok (.goto 4, 3) := by decide +kernel
theorem dX8_takeNumber_141 : decode cX8_takeNumber 141 = .ok (.iconst 0, 1) := by decide +kernel
theorem dX8_takeNumber_142 : decode cX8_takeNumber 142 = .ok (.iconst 2, 1) := by decide +kernel
theorem dX8_takeNumber_143 : decode cX8_takeNumber 143 = .ok (.aload_n 0, 1) := by decide +kernel
theorem dX8_takeNumber_144 : decode cX8_takeNumber 144 = .ok (.getfield 90, 3) := by decide +kernel
theorem dX8_takeNumber_147 : decode cX8_takeNumber 147 = .ok (.invokevirtual 97, 3) := by decide +kernel
theorem dX8_takeNumber_150 : decode cX8_takeNumber 150 = .ok (.istore_n 3, 1) := by decide +kernel
theorem dX8_takeNumber_151 : decode cX8_takeNumber 151 = .ok (.iload_n 2, 1) := by decide +kernel
theorem dX8_takeNumber_152 : decode cX8_takeNumber 152 = .ok (.ireturn, 1) := by decide +kernel
theorem dX8_takeIn_0 : decode cX8_takeIn 0 = .ok (.aload_n 0, 1) := by decide +kernel
theorem dX8_takeIn_1 : decode cX8_takeIn 1 = .ok (.invokevirtual 102, 3) := by decide +kernel
theorem dX8_takeIn_4 : decode cX8_takeIn 4 = .ok (.istore_n 3, 1) := by decide +kernel
theorem dX8_takeIn_5 : decode cX8_takeIn 5 = .ok (.aload_n 0, 1) := by decide +kernel
theorem dX8_takeIn_6 : decode cX8_takeIn 6 = .ok (.aload_n 0, 1) := by decide +kernel
theorem dX8_takeIn_7 : decode cX8_takeIn 7 = .ok (.getfield 83, 3) := by decide +kernel
theorem dX8_takeIn_10 : decode cX8_takeIn 10 = .ok (.ifCond .gt 15, 3) := by decide +kernel
theorem dX8_takeIn_13 : decode cX8_takeIn 13 = .ok (.iload_n 3, 1) := by decide +kernel
theorem dX8_takeIn_14 : decode cX8_takeIn 14 = .ok (.i2l, 1) := by decide +kernel
theorem dX8_takeIn_15 : decode cX8_takeIn 15 = .ok (.iload_n 1, 1) := by decide +kernel
theorem dX8_takeIn_16 : decode cX8_takeIn 16 = .ok (.i2l, 1) := by decide +kernel
theorem dX8_takeIn_17 : decode cX8_takeIn 17 = .ok (.iload_n 2, 1) := by decide +kernel
theorem dX8_takeIn_18 : decode cX8_takeIn 18 = .ok (.i2l, 1) := by decide +kernel
theorem dX8_takeIn_19 : decode cX8_takeIn 19 = .ok (.invokestatic 71, 3) := by decide +kernel
theorem dX8_takeIn_22 : decode cX8_takeIn 22 = .ok (.ifCond .eq 7, 3) := by decide +kernel
theorem dX8_takeIn_25 : decode cX8_takeIn 25 = .ok (.iconst 1, 1) := by decide +kernel
theorem dX8_takeIn_26 : decode cX8_takeIn 26 = .ok (.goto 4, 3) := by decide +kernel
theorem dX8_takeIn_29 : decode cX8_takeIn 29 = .ok (.iconst 0, 1) := by decide +kernel
theorem dX8_takeIn_30 : decode cX8_takeIn 30 = .ok (.iconst 2, 1) := by decide +kernel
theorem dX8_takeIn_31 : decode cX8_takeIn 31 = .ok (.aload_n 0, 1) := by decide +kernel
theorem dX8_takeIn_32 : decode cX8_takeIn 32 = .ok (.getfield 90, 3) := by decide +kernel
theorem dX8_takeIn_35 : decode cX8_takeIn 35 = .ok (.invokevirtual 97, 3) := by decide +kernel
theorem dX8_takeIn_38 : decode cX8_takeIn 38 = .ok (.istore 4, 2) := by decide +kernel
theorem dX8_takeIn_40 : decode cX8_takeIn 40 = .ok (.iload_n 3, 1) := by decide +kernel
theorem dX8_takeIn_41 : decode cX8_takeIn 41 = .ok (.ireturn, 1) := by decide +kernel
theorem dX8_takeValley_0 : decode cX8_takeValley 0 = .ok (.aload_n 0, 1) := by decide +kernel
theorem dX8_takeValley_1 : decode cX8_takeValley 1 = .ok (.aload_n 0, 1) := by decide +kernel
theorem dX8_takeValley_2 : decode cX8_takeValley 2 = .ok (.getfield 105, 3) := by decide +kernel
theorem dX8_takeValley_5 : decode cX8_takeValley 5 = .ok (.ifCond .ne 7, 3) := by decide +kernel
theorem dX8_takeValley_8 : decode cX8_takeValley 8 = .ok (.iconst 1, 1) := by decide +kernel
theorem dX8_takeValley_9 : decode cX8_takeValley 9 = .ok (.goto 4, 3) := by decide +kernel
theorem dX8_takeValley_12 : decode cX8_takeValley 12 = .ok (.iconst 0, 1) := by decide +kernel
theorem dX8_takeValley_13 : decode cX8_takeValley 13 = .ok (.iconst 3, 1) := by decide +kernel
theorem dX8_takeValley_14 : decode cX8_takeValley 14 = .ok (.iload_n 1, 1) := by decide +kernel
theorem dX8_takeValley_15 : decode cX8_takeValley 15 = .ok (.invokevirtual 97, 3) := by decide +kernel
theorem dX8_takeValley_18 : decode cX8_takeValley 18 = .ok (.ifCond .eq 47, 3) := by decide +kernel
theorem dX8_takeValley_21 : decode cX8_takeValley 21 = .ok (.aload_n 0, 1) := by decide +kernel
theorem dX8_takeValley_22 : decode cX8_takeValley 22 = .ok (.getfield 17, 3) := by decide +kernel
theorem dX8_takeValley_25 : decode cX8_takeValley 25 = .ok (.iconst 3, 1) := by decide +kernel
theorem dX8_takeValley_26 : decode cX8_takeValley 26 = .ok (.aload_n 0, 1) := by decide +kernel
theorem dX8_takeValley_27 : decode cX8_takeValley 27 = .ok (.iconst 0, 1) := by decide +kernel
theorem dX8_takeValley_28 : decode cX8_takeValley 28 = .ok (.bipush 7, 2) := by decide +kernel
theorem dX8_takeValley_30 : decode cX8_takeValley 30 = .ok (.invokevirtual 109, 3) := by decide +kernel
theorem dX8_takeValley_33 : decode cX8_takeValley 33 = .ok (.iastore, 1) := by decide +kernel
theorem dX8_takeValley_34 : decode cX8_takeValley 34 = .ok (.aload_n 0, 1) := by decide +kernel
theorem dX8_takeValley_35 : decode cX8_takeValley 35 = .ok (.getfield 17, 3) := by decide +kernel
theorem dX8_takeValley_38 : decode cX8_takeValley 38 = .ok (.iconst 4, 1) := by decide +kernel
theorem dX8_takeValley_39 : decode cX8_takeValley 39 = .ok (.aload_n 0, 1) := by decide +kernel
theorem dX8_takeValley_40 : decode cX8_takeValley 40 = .ok (.iconst 0, 1) := by decide +kernel
theorem dX8_takeValley_41 : decode cX8_takeValley 41 = .ok (.bipush 9, 2) := by decide +kernel
theorem dX8_takeValley_43 : decode cX8_takeValley 43 = .ok (.invokevirtual 109, 3) := by decide +kernel
theorem dX8_takeValley_46 : decode cX8_takeValley 46 = .ok (.iastore, 1) := by decide +kernel
theorem dX8_takeValley_47 : decode cX8_takeValley 47 = .ok (.aload_n 0, 1) := by decide +kernel
theorem dX8_takeValley_48 : decode cX8_takeValley 48 = .ok (.getfield 17, 3) := by decide +kernel
theorem dX8_takeValley_51 : decode cX8_takeValley 51 = .ok (.iconst 5, 1) := by decide +kernel
theorem dX8_takeValley_52 : decode cX8_takeValley 52 = .ok (.aload_n 0, 1) := by decide +kernel
theorem dX8_takeValley_53 : decode cX8_takeValley 53 = .ok (.iconst 0, 1) := by decide +kernel
theorem dX8_takeValley_54 : decode cX8_takeValley 54 = .ok (.bipush 12, 2) := by decide +kernel
theorem dX8_takeValley_56 : decode cX8_takeValley 56 = .ok (.invokevirtual 109, 3) := by decide +kernel
theorem dX8_takeValley_59 : decode cX8_takeValley 59 = .ok (.iastore, 1) := by decide +kernel
theorem dX8_takeValley_60 : decode cX8_takeValley 60 = .ok (.aload_n 0, 1) := by decide +kernel
theorem dX8_takeValley_61 : decode cX8_takeValley 61 = .ok (.iconst 1, 1) := by decide +kernel
theorem dX8_takeValley_62 : decode cX8_takeValley 62 = .ok (.putfield 105, 3) := by decide +kernel
theorem dX8_takeValley_65 : decode cX8_takeValley 65 = .ok (.return_, 1) := by decide +kernel
theorem dX8_takeRains_0 : decode cX8_takeRains 0 = .ok (.aload_n 0, 1) := by decide +kernel
theorem dX8_takeRains_1 : decode cX8_takeRains 1 = .ok (.aload_n 0, 1) := by decide +kernel
theorem dX8_takeRains_2 : decode cX8_takeRains 2 = .ok (.getfield 113, 3) := by decide +kernel
theorem dX8_takeRains_5 : decode cX8_takeRains 5 = .ok (.ifCond .ne 7, 3) := by decide +kernel
theorem dX8_takeRains_8 : decode cX8_takeRains 8 = .ok (.iconst 1, 1) := by decide +kernel
theorem dX8_takeRains_9 : decode cX8_takeRains 9 = .ok (.goto 4, 3) := by decide +kernel
theorem dX8_takeRains_12 : decode cX8_takeRains 12 = .ok (.iconst 0, 1) := by decide +kernel
theorem dX8_takeRains_13 : decode cX8_takeRains 13 = .ok (.iconst 3, 1) := by decide +kernel
theorem dX8_takeRains_14 : decode cX8_takeRains 14 = .ok (.iload_n 1, 1) := by decide +kernel
theorem dX8_takeRains_15 : decode cX8_takeRains 15 = .ok (.invokevirtual 97, 3) := by decide +kernel
theorem dX8_takeRains_18 : decode cX8_takeRains 18 = .ok (.istore_n 2, 1) := by decide +kernel
theorem dX8_takeRains_19 : decode cX8_takeRains 19 = .ok (.iload_n 2, 1) := by decide +kernel
theorem dX8_takeRains_20 : decode cX8_takeRains 20 = .ok (.ifCond .eq 114, 3) := by decide +kernel
theorem dX8_takeRains_23 : decode cX8_takeRains 23 = .ok (.aload_n 0, 1) := by decide +kernel
theorem dX8_takeRains_24 : decode cX8_takeRains 24 = .ok (.getfield 20, 3) := by decide +kernel
theorem dX8_takeRains_27 : decode cX8_takeRains 27 = .ok (.bipush 8, 2) := by decide +kernel
theorem dX8_takeRains_29 : decode cX8_takeRains 29 = .ok (.aload_n 0, 1) := by decide +kernel
theorem dX8_takeRains_30 : decode cX8_takeRains 30 = .ok (.getfield 113, 3) := by decide +kernel
theorem dX8_takeRains_33 : decode cX8_takeRains 33 = .ok (.iadd, 1) := by decide +kernel
theorem dX8_takeRains_34 : decode cX8_takeRains 34 = .ok (.aload_n 0, 1) := by decide +kernel
theorem dX8_takeRains_35 : decode cX8_takeRains 35 = .ok (.iconst 0, 1) := by decide +kernel
theorem dX8_takeRains_36 : decode cX8_takeRains 36 = .ok (.bipush 9, 2) := by decide +kernel
theorem dX8_takeRains_38 : decode cX8_takeRains 38 = .ok (.invokevirtual 109, 3) := by decide +kernel
theorem dX8_takeRains_41 : decode cX8_takeRains 41 = .ok (.iastore, 1) := by decide +kernel
theorem dX8_takeRains_42 : decode cX8_takeRains 42 = .ok (.aload_n 0, 1) := by decide +kernel
theorem dX8_takeRains_43 : decode cX8_takeRains 43 = .ok (.dup, 1) := by decide +kernel
theorem dX8_takeRains_44 : decode cX8_takeRains 44 = .ok (.getfield 113, 3) := by decide +kernel
theorem dX8_takeRains_47 : decode cX8_takeRains 47 = .ok (.iconst 1, 1) := by decide +kernel
theorem dX8_takeRains_48 : decode cX8_takeRains 48 = .ok (.iadd, 1) := by decide +kernel
theorem dX8_takeRains_49 : decode cX8_takeRains 49 = .ok (.putfield 113, 3) := by decide +kernel
theorem dX8_takeRains_52 : decode cX8_takeRains 52 = .ok (.aload_n 0, 1) := by decide +kernel
theorem dX8_takeRains_53 : decode cX8_takeRains 53 = .ok (.getfield 83, 3) := by decide +kernel
theorem dX8_takeRains_56 : decode cX8_takeRains 56 = .ok (.ifCond .ne 16, 3) := by decide +kernel
theorem dX8_takeRains_59 : decode cX8_takeRains 59 = .ok (.aload_n 0, 1) := by decide +kernel
theorem dX8_takeRains_60 : decode cX8_takeRains 60 = .ok (.invokevirtual 86, 3) := by decide +kernel
theorem dX8_takeRains_63 : decode cX8_takeRains 63 = .ok (.bipush 44, 2) := by decide +kernel
theorem dX8_takeRains_65 : decode cX8_takeRains 65 = .ok (.if_icmp .ne 7, 3) := by decide +kernel
theorem dX8_takeRains_68 : decode cX8_takeRains 68 = .ok (.iconst 1, 1) := by decide +kernel
theorem dX8_takeRains_69 : decode cX8_takeRains 69 = .ok (.goto 4, 3) := by decide +kernel
theorem dX8_takeRains_72 : decode cX8_takeRains 72 = .ok (.iconst 0, 1) := by decide +kernel
theorem dX8_takeRains_73 : decode cX8_takeRains 73 = .ok (.istore_n 2, 1) := by decide +kernel
theorem dX8_takeRains_74 : decode cX8_takeRains 74 = .ok (.iload_n 2, 1) := by decide +kernel
theorem dX8_takeRains_75 : decode cX8_takeRains 75 = .ok (.ifCond .eq 39, 3) := by decide +kernel
theorem dX8_takeRains_78 : decode cX8_takeRains 78 = .ok (.aload_n 0, 1) := by decide +kernel
theorem dX8_takeRains_79 : decode cX8_takeRains 79 = .ok (.aload_n 0, 1) := by decide +kernel
theorem dX8_takeRains_80 : decode cX8_takeRains 80 = .ok (.getfield 113, 3) := by decide +kernel
theorem dX8_takeRains_83 : decode cX8_takeRains 83 = .ok (.bipush 8, 2) := by decide +kernel
theorem dX8_takeRains_85 : decode cX8_takeRains 85 = .ok (.if_icmp .ge 7, 3) := by decide +kernel
theorem dX8_takeRains_88 : decode cX8_takeRains 88 = .ok (.iconst 1, 1) := by decide +kernel
theorem dX8_takeRains_89 : decode cX8_takeRains 89 = .ok (.goto 4, 3) := by decide +kernel
theorem dX8_takeRains_92 : decode cX8_takeRains 92 = .ok (.iconst 0, 1) := by decide +kernel
theorem dX8_takeRains_93 : decode cX8_takeRains 93 = .ok (.iconst 1, 1) := by decide +kernel
theorem dX8_takeRains_94 : decode cX8_takeRains 94 = .ok (.aload_n 0, 1) := by decide +kernel
theorem dX8_takeRains_95 : decode cX8_takeRains 95 = .ok (.getfield 80, 3) := by decide +kernel
theorem dX8_takeRains_98 : decode cX8_takeRains 98 = .ok (.invokevirtual 97, 3) := by decide +kernel
theorem dX8_takeRains_101 : decode cX8_takeRains 101 = .ok (.ifCond .eq 13, 3) := by decide +kernel
theorem dX8_takeRains_104 : decode cX8_takeRains 104 = .ok (.aload_n 0, 1) := by decide +kernel
theorem dX8_takeRains_105 : decode cX8_takeRains 105 = .ok (.dup, 1) := by decide +kernel
theorem dX8_takeRains_106 : decode cX8_takeRains 106 = .ok (.getfield 80, 3) := by decide +kernel
theorem dX8_takeRains_109 : decode cX8_takeRains 109 = .ok (.iconst 1, 1) := by decide +kernel
theorem dX8_takeRains_110 : decode cX8_takeRains 110 = .ok (.iadd, 1) := by decide +kernel
theorem dX8_takeRains_111 : decode cX8_takeRains 111 = .ok (.putfield 80, 3) := by decide +kernel
theorem dX8_takeRains_114 : decode cX8_takeRains 114 = .ok (.iload_n 2, 1) := by decide +kernel
theorem dX8_takeRains_115 : decode cX8_takeRains 115 = .ok (.ifCond .eq 14, 3) := by decide +kernel
theorem dX8_takeRains_118 : decode cX8_takeRains 118 = .ok (.aload_n 0, 1) := by decide +kernel
theorem dX8_takeRains_119 : decode cX8_takeRains 119 = .ok (.getfield 83, 3) := by decide +kernel
theorem dX8_takeRains_122 : decode cX8_takeRains 122 = .ok (.ifCond .ne 7, 3) := by decide +kernel
theorem dX8_takeRains_125 : decode cX8_takeRains 125 = .ok (.iconst 1, 1) := by decide +kernel
theorem dX8_takeRains_126 : decode cX8_takeRains 126 = .ok (.goto 4, 3) := by decide +kernel
theorem dX8_takeRains_129 : decode cX8_takeRains 129 = .ok (.iconst 0, 1) := by decide +kernel
theorem dX8_takeRains_130 : decode cX8_takeRains 130 = .ok (.istore_n 2, 1) := by decide +kernel
theorem dX8_takeRains_131 : decode cX8_takeRains 131 = .ok (.goto (-112), 3) := by decide +kernel
theorem dX8_takeRains_134 : decode cX8_takeRains 134 = .ok (.return_, 1) := by decide +kernel
theorem dX8_takeHand_0 : decode cX8_takeHand 0 = .ok (.aload_n 0, 1) := by decide +kernel
theorem dX8_takeHand_1 : decode cX8_takeHand 1 = .ok (.aload_n 0, 1) := by decide +kernel
theorem dX8_takeHand_2 : decode cX8_takeHand 2 = .ok (.getfield 116, 3) := by decide +kernel
theorem dX8_takeHand_5 : decode cX8_takeHand 5 = .ok (.iconst 4, 1) := by decide +kernel
theorem dX8_takeHand_6 : decode cX8_takeHand 6 = .ok (.if_icmp .ge 7, 3) := by decide +kernel
theorem dX8_takeHand_9 : decode cX8_takeHand 9 = .ok (.iconst 1, 1) := by decide +kernel
theorem dX8_takeHand_10 : decode cX8_takeHand 10 = .ok (.goto 4, 3) := by decide +kernel
theorem dX8_takeHand_13 : decode cX8_takeHand 13 = .ok (.iconst 0, 1) := by decide +kernel
theorem dX8_takeHand_14 : decode cX8_takeHand 14 = .ok (.iconst 3, 1) := by decide +kernel
theorem dX8_takeHand_15 : decode cX8_takeHand 15 = .ok (.iload_n 1, 1) := by decide +kernel
theorem dX8_takeHand_16 : decode cX8_takeHand 16 = .ok (.invokevirtual 97, 3) := by decide +kernel
theorem dX8_takeHand_19 : decode cX8_takeHand 19 = .ok (.ifCond .eq 67, 3) := by decide +kernel
theorem dX8_takeHand_22 : decode cX8_takeHand 22 = .ok (.aload_n 0, 1) := by decide +kernel
theorem dX8_takeHand_23 : decode cX8_takeHand 23 = .ok (.getfield 23, 3) := by decide +kernel
theorem dX8_takeHand_26 : decode cX8_takeHand 26 = .ok (.iconst 4, 1) := by decide +kernel
theorem dX8_takeHand_27 : decode cX8_takeHand 27 = .ok (.aload_n 0, 1) := by decide +kernel
theorem dX8_takeHand_28 : decode cX8_takeHand 28 = .ok (.getfield 116, 3) := by decide +kernel
theorem dX8_takeHand_31 : decode cX8_takeHand 31 = .ok (.iadd, 1) := by decide +kernel
theorem dX8_takeHand_32 : decode cX8_takeHand 32 = .ok (.aload_n 0, 1) := by decide +kernel
theorem dX8_takeHand_33 : decode cX8_takeHand 33 = .ok (.iconst 0, 1) := by decide +kernel
theorem dX8_takeHand_34 : decode cX8_takeHand 34 = .ok (.bipush 8, 2) := by decide +kernel
theorem dX8_takeHand_36 : decode cX8_takeHand 36 = .ok (.invokevirtual 109, 3) := by decide +kernel
theorem dX8_takeHand_39 : decode cX8_takeHand 39 = .ok (.iastore, 1) := by decide +kernel
theorem dX8_takeHand_40 : decode cX8_takeHand 40 = .ok (.aload_n 0, 1) := by decide +kernel
theorem dX8_takeHand_41 : decode cX8_takeHand 41 = .ok (.getfield 26, 3) := by decide +kernel
theorem dX8_takeHand_44 : decode cX8_takeHand 44 = .ok (.iconst 4, 1) := by decide +kernel
theorem dX8_takeHand_45 : decode cX8_takeHand 45 = .ok (.aload_n 0, 1) := by decide +kernel
theorem dX8_takeHand_46 : decode cX8_takeHand 46 = .ok (.getfield 116, 3) := by decide +kernel
theorem dX8_takeHand_49 : decode cX8_takeHand 49 = .ok (.iadd, 1) := by decide +kernel
theorem dX8_takeHand_50 : decode cX8_takeHand 50 = .ok (.aload_n 0, 1) := by decide +kernel
theorem dX8_takeHand_51 : decode cX8_takeHand 51 = .ok (.iconst 0, 1) := by decide +kernel
theorem dX8_takeHand_52 : decode cX8_takeHand 52 = .ok (.bipush 8, 2) := by decide +kernel
theorem dX8_takeHand_54 : decode cX8_takeHand 54 = .ok (.invokevirtual 109, 3) := by decide +kernel
theorem dX8_takeHand_57 : decode cX8_takeHand 57 = .ok (.iastore, 1) := by decide +kernel
theorem dX8_takeHand_58 : decode cX8_takeHand 58 = .ok (.aload_n 0, 1) := by decide +kernel
theorem dX8_takeHand_59 : decode cX8_takeHand 59 = .ok (.getfield 29, 3) := by decide +kernel
theorem dX8_takeHand_62 : decode cX8_takeHand 62 = .ok (.iconst 4, 1) := by decide +kernel
theorem dX8_takeHand_63 : decode cX8_takeHand 63 = .ok (.aload_n 0, 1) := by decide +kernel
theorem dX8_takeHand_64 : decode cX8_takeHand 64 = .ok (.getfield 116, 3) := by decide +kernel
theorem dX8_takeHand_67 : decode cX8_takeHand 67 = .ok (.iadd, 1) := by decide +kernel
theorem dX8_takeHand_68 : decode cX8_takeHand 68 = .ok (.aload_n 0, 1) := by decide +kernel
theorem dX8_takeHand_69 : decode cX8_takeHand 69 = .ok (.iconst 0, 1) := by decide +kernel
theorem dX8_takeHand_70 : decode cX8_takeHand 70 = .ok (.bipush 8, 2) := by decide +kernel
theorem dX8_takeHand_72 : decode cX8_takeHand 72 = .ok (.invokevirtual 109, 3) := by decide +kernel
theorem dX8_takeHand_75 : decode cX8_takeHand 75 = .ok (.iastore, 1) := by decide +kernel
theorem dX8_takeHand_76 : decode cX8_takeHand 76 = .ok (.aload_n 0, 1) := by decide +kernel
theorem dX8_takeHand_77 : decode cX8_takeHand 77 = .ok (.dup, 1) := by decide +kernel
theorem dX8_takeHand_78 : decode cX8_takeHand 78 = .ok (.getfield 116, 3) := by decide +kernel
theorem dX8_takeHand_81 : decode cX8_takeHand 81 = .ok (.iconst 1, 1) := by decide +kernel
theorem dX8_takeHand_82 : decode cX8_takeHand 82 = .ok (.iadd, 1) := by decide +kernel
theorem dX8_takeHand_83 : decode cX8_takeHand 83 = .ok (.putfield 116, 3) := by decide +kernel
theorem dX8_takeHand_86 : decode cX8_takeHand 86 = .ok (.return_, 1) := by decide +kernel
theorem dX8_takePaper_0 : decode cX8_takePaper 0 = .ok (.aload_n 0, 1) := by decide +kernel
theorem dX8_takePaper_1 : decode cX8_takePaper 1 = .ok (.aload_n 0, 1) := by decide +kernel
theorem dX8_takePaper_2 : decode cX8_takePaper 2 = .ok (.getfield 119, 3) := by decide +kernel
theorem dX8_takePaper_5 : decode cX8_takePaper 5 = .ok (.iconst 4, 1) := by decide +kernel
theorem dX8_takePaper_6 : decode cX8_takePaper 6 = .ok (.if_icmp .ge 7, 3) := by decide +kernel
theorem dX8_takePaper_9 : decode cX8_takePaper 9 = .ok (.iconst 1, 1) := by decide +kernel
theorem dX8_takePaper_10 : decode cX8_takePaper 10 = .ok (.goto 4, 3) := by decide +kernel
theorem dX8_takePaper_13 : decode cX8_takePaper 13 = .ok (.iconst 0, 1) := by decide +kernel
theorem dX8_takePaper_14 : decode cX8_takePaper 14 = .ok (.iconst 3, 1) := by decide +kernel
theorem dX8_takePaper_15 : decode cX8_takePaper 15 = .ok (.iload_n 1, 1) := by decide +kernel
theorem dX8_takePaper_16 : decode cX8_takePaper 16 = .ok (.invokevirtual 97, 3) := by decide +kernel
theorem dX8_takePaper_19 : decode cX8_takePaper 19 = .ok (.ifCond .eq 71, 3) := by decide +kernel
theorem dX8_takePaper_22 : decode cX8_takePaper 22 = .ok (.aload_n 0, 1) := by decide +kernel
theorem dX8_takePaper_23 : decode cX8_takePaper 23 = .ok (.getfield 32, 3) := by decide +kernel
theorem dX8_takePaper_26 : decode cX8_takePaper 26 = .ok (.iconst 4, 1) := by decide +kernel
theorem dX8_takePaper_27 : decode cX8_takePaper 27 = .ok (.aload_n 0, 1) := by decide +kernel
theorem dX8_takePaper_28 : decode cX8_takePaper 28 = .ok (.getfield 119, 3) := by decide +kernel
theorem dX8_takePaper_31 : decode cX8_takePaper 31 = .ok (.iadd, 1) := by decide +kernel
theorem dX8_takePaper_32 : decode cX8_takePaper 32 = .ok (.aload_n 0, 1) := by decide +kernel
theorem dX8_takePaper_33 : decode cX8_takePaper 33 = .ok (.iconst 0, 1) := by decide +kernel
theorem dX8_takePaper_34 : decode cX8_takePaper 34 = .ok (.aload_n 0, 1) := by decide +kernel
theorem dX8_takePaper_35 : decode cX8_takePaper 35 = .ok (.getfield 116, 3) := by decide +kernel
theorem dX8_takePaper_38 : decode cX8_takePaper 38 = .ok (.iconst 1, 1) := by decide +kernel
theorem dX8_takePaper_39 : decode cX8_takePaper 39 = .ok (.isub, 1) := by decide +kernel
theorem dX8_takePaper_40 : decode cX8_takePaper 40 = .ok (.invokevirtual 109, 3) := by decide +kernel
theorem dX8_takePaper_43 : decode cX8_takePaper 43 = .ok (.iastore, 1) := by decide +kernel
theorem dX8_takePaper_44 : decode cX8_takePaper 44 = .ok (.aload_n 0, 1) := by decide +kernel
theorem dX8_takePaper_45 : decode cX8_takePaper 45 = .ok (.getfield 35, 3) := by decide +kernel
theorem dX8_takePaper_48 : decode cX8_takePaper 48 = .ok (.iconst 4, 1) := by decide +kernel
theorem dX8_takePaper_49 : decode cX8_takePaper 49 = .ok (.aload_n 0, 1) := by decide +kernel
theorem dX8_takePaper_50 : decode cX8_takePaper 50 = .ok (.getfield 119, 3) := by decide +kernel
theorem dX8_takePaper_53 : decode cX8_takePaper 53 = .ok (.iadd, 1) := by decide +kernel
theorem dX8_takePaper_54 : decode cX8_takePaper 54 = .ok (.aload_n 0, 1) := by decide +kernel
theorem dX8_takePaper_55 : decode cX8_takePaper 55 = .ok (.iconst 0, 1) := by decide +kernel
theorem dX8_takePaper_56 : decode cX8_takePaper 56 = .ok (.bipush 95, 2) := by decide +kernel
theorem dX8_takePaper_58 : decode cX8_takePaper 58 = .ok (.invokevirtual 109, 3) := by decide +kernel
theorem dX8_takePaper_61 : decode cX8_takePaper 61 = .ok (.iastore, 1) := by decide +kernel
theorem dX8_takePaper_62 : decode cX8_takePaper 62 = .ok (.aload_n 0, 1) := by decide +kernel
theorem dX8_takePaper_63 : decode cX8_takePaper 63 = .ok (.getfield 38, 3) := by decide +kernel
theorem dX8_takePaper_66 : decode cX8_takePaper 66 = .ok (.iconst 4, 1) := by decide +kernel
theorem dX8_takePaper_67 : decode cX8_takePaper 67 = .ok (.aload_n 0, 1) := by decide +kernel
theorem dX8_takePaper_68 : decode cX8_takePaper 68 = .ok (.getfield 119, 3) := by decide +kernel
theorem dX8_takePaper_71 : decode cX8_takePaper 71 = .ok (.iadd, 1) := by decide +kernel
theorem dX8_takePaper_72 : decode cX8_takePaper 72 = .ok (.aload_n 0, 1) := by decide +kernel
theorem dX8_takePaper_73 : decode cX8_takePaper 73 = .ok (.iconst 1, 1) := by decide +kernel
theorem dX8_takePaper_74 : decode cX8_takePaper 74 = .ok (.bipush 12, 2) := by decide +kernel
theorem dX8_takePaper_76 : decode cX8_takePaper 76 = .ok (.invokevirtual 109, 3) := by decide +kernel
theorem dX8_takePaper_79 : decode cX8_takePaper 79 = .ok (.iastore, 1) := by decide +kernel
theorem dX8_takePaper_80 : decode cX8_takePaper 80 = .ok (.aload_n 0, 1) := by decide +kernel
theorem dX8_takePaper_81 : decode cX8_takePaper 81 = .ok (.dup, 1) := by decide +kernel
theorem dX8_takePaper_82 : decode cX8_takePaper 82 = .ok (.getfield 119, 3) := by decide +kernel
theorem dX8_takePaper_85 : decode cX8_takePaper 85 = .ok (.iconst 1, 1) := by decide +kernel
theorem dX8_takePaper_86 : decode cX8_takePaper 86 = .ok (.iadd, 1) := by decide +kernel
theorem dX8_takePaper_87 : decode cX8_takePaper 87 = .ok (.putfield 119, 3) := by decide +kernel
theorem dX8_takePaper_90 : decode cX8_takePaper 90 = .ok (.return_, 1) := by decide +kernel
theorem dX8_takeClause_0 : decode cX8_takeClause 0 = .ok (.aload_n 0, 1) := by decide +kernel
theorem dX8_takeClause_1 : decode cX8_takeClause 1 = .ok (.invokevirtual 86, 3) := by decide +kernel
theorem dX8_takeClause_4 : decode cX8_takeClause 4 = .ok (.istore_n 1, 1) := by decide +kernel
theorem dX8_takeClause_5 : decode cX8_takeClause 5 = .ok (.aload_n 0, 1) := by decide +kernel
theorem dX8_takeClause_6 : decode cX8_takeClause 6 = .ok (.getfield 80, 3) := by decide +kernel
theorem dX8_takeClause_9 : decode cX8_takeClause 9 = .ok (.istore_n 2, 1) := by decide +kernel
theorem dX8_takeClause_10 : decode cX8_takeClause 10 = .ok (.aload_n 0, 1) := by decide +kernel
theorem dX8_takeClause_11 : decode cX8_takeClause 11 = .ok (.dup, 1) := by decide +kernel
theorem dX8_takeClause_12 : decode cX8_takeClause 12 = .ok (.getfield 80, 3) := by decide +kernel
theorem dX8_takeClause_15 : decode cX8_takeClause 15 = .ok (.iconst 1, 1) := by decide +kernel
theorem dX8_takeClause_16 : decode cX8_takeClause 16 = .ok (.iadd, 1) := by decide +kernel
theorem dX8_takeClause_17 : decode cX8_takeClause 17 = .ok (.putfield 80, 3) := by decide +kernel
theorem dX8_takeClause_20 : decode cX8_takeClause 20 = .ok (.aload_n 0, 1) := by decide +kernel
theorem dX8_takeClause_21 : decode cX8_takeClause 21 = .ok (.iload_n 1, 1) := by decide +kernel
theorem dX8_takeClause_22 : decode cX8_takeClause 22 = .ok (.bipush 118, 2) := by decide +kernel
theorem dX8_takeClause_24 : decode cX8_takeClause 24 = .ok (.if_icmp .eq 10, 3) := by decide +kernel
theorem dX8_takeClause_27 : decode cX8_takeClause 27 = .ok (.aload_n 0, 1) := by decide +kernel
theorem dX8_takeClause_28 : decode cX8_takeClause 28 = .ok (.getfield 105, 3) := by decide +kernel
theorem dX8_takeClause_31 : decode cX8_takeClause 31 = .ok (.ifCond .eq 7, 3) := by decide +kernel
theorem dX8_takeClause_34 : decode cX8_takeClause 34 = .ok (.iconst 1, 1) := by decide +kernel
theorem dX8_takeClause_35 : decode cX8_takeClause 35 = .ok (.goto 4, 3) := by decide +kernel
theorem dX8_takeClause_38 : decode cX8_takeClause 38 = .ok (.iconst 0, 1) := by decide +kernel
theorem dX8_takeClause_39 : decode cX8_takeClause 39 = .ok (.iconst 1, 1) := by decide +kernel
theorem dX8_takeClause_40 : decode cX8_takeClause 40 = .ok (.iload_n 2, 1) := by decide +kernel
theorem dX8_takeClause_41 : decode cX8_takeClause 41 = .ok (.invokevirtual 97, 3) := by decide +kernel
theorem dX8_takeClause_44 : decode cX8_takeClause 44 = .ok (.ifCond .ne 4, 3) := by decide +kernel
theorem dX8_takeClause_47 : decode cX8_takeClause 47 = .ok (.return_, 1) := by decide +kernel
theorem dX8_takeClause_48 : decode cX8_takeClause 48 = .ok (.iload_n 1, 1) := by decide +kernel
theorem dX8_takeClause_49 : decode cX8_takeClause 49 = .ok (.bipush 118, 2) := by decide +kernel
theorem dX8_takeClause_51 : decode cX8_takeClause 51 = .ok (.if_icmp .ne 11, 3) := by decide +kernel
theorem dX8_takeClause_54 : decode cX8_takeClause 54 = .ok (.aload_n 0, 1) := by decide +kernel
theorem dX8_takeClause_55 : decode cX8_takeClause 55 = .ok (.iload_n 2, 1) := by decide +kernel
theorem dX8_takeClause_56 : decode cX8_takeClause 56 = .ok (.invokevirtual 122, 3) := by decide +kernel
theorem dX8_takeClause_59 : decode cX8_takeClause 59 = .ok (.goto 56, 3) := by decide +kernel
theorem dX8_takeClause_62 : decode cX8_takeClause 62 = .ok (.iload_n 1, 1) := by decide +kernel
theorem dX8_takeClause_63 : decode cX8_takeClause 63 = .ok (.bipush 100, 2) := by decide +kernel
theorem dX8_takeClause_65 : decode cX8_takeClause 65 = .ok (.if_icmp .ne 11, 3) := by decide +kernel
theorem dX8_takeClause_68 : decode cX8_takeClause 68 = .ok (.aload_n 0, 1) := by decide +kernel
theorem dX8_takeClause_69 : decode cX8_takeClause 69 = .ok (.iload_n 2, 1) := by decide +kernel
theorem dX8_takeClause_70 : decode cX8_takeClause 70 = .ok (.invokevirtual 126, 3) := by decide +kernel
theorem dX8_takeClause_73 : decode cX8_takeClause 73 = .ok (.goto 42, 3) := by decide +kernel
theorem dX8_takeClause_76 : decode cX8_takeClause 76 = .ok (.iload_n 1, 1) := by decide +kernel
theorem dX8_takeClause_77 : decode cX8_takeClause 77 = .ok (.bipush 104, 2) := by decide +kernel
theorem dX8_takeClause_79 : decode cX8_takeClause 79 = .ok (.if_icmp .ne 11, 3) := by decide +kernel
theorem dX8_takeClause_82 : decode cX8_takeClause 82 = .ok (.aload_n 0, 1) := by decide +kernel
theorem dX8_takeClause_83 : decode cX8_takeClause 83 = .ok (.iload_n 2, 1) := by decide +kernel
theorem dX8_takeClause_84 : decode cX8_takeClause 84 = .ok (.invokevirtual 129, 3) := by decide +kernel
theorem dX8_takeClause_87 : decode cX8_takeClause 87 = .ok (.goto 28, 3) := by decide +kernel
theorem dX8_takeClause_90 : decode cX8_takeClause 90 = .ok (.aload_n 0, 1) := by decide +kernel
theorem dX8_takeClause_91 : decode cX8_takeClause 91 = .ok (.iload_n 1, 1) := by decide +kernel
theorem dX8_takeClause_92 : decode cX8_takeClause 92 = .ok (.bipush 112, 2) := by decide +kernel
theorem dX8_takeClause_94 : decode cX8_takeClause 94 = .ok (.if_icmp .ne 7, 3) := by decide +kernel
theorem dX8_takeClause_97 : decode cX8_takeClause 97 = .ok (.iconst 1, 1) := by decide +kernel
theorem dX8_takeClause_98 : decode cX8_takeClause 98 = .ok (.goto 4, 3) := by decide +kernel
theorem dX8_takeClause_101 : decode cX8_takeClause 101 = .ok (.iconst 0, 1) := by decide +kernel
theorem dX8_takeClause_102 : decode cX8_takeClause 102 = .ok (.iconst 1, 1) := by decide +kernel
theorem dX8_takeClause_103 : decode cX8_takeClause 103 = .ok (.iload_n 2, 1) := by decide +kernel
theorem dX8_takeClause_104 : decode cX8_takeClause 104 = .ok (.invokevirtual 97, 3) := by decide +kernel
theorem dX8_takeClause_107 : decode cX8_takeClause 107 = .ok (.ifCond .eq 8, 3) := by decide +kernel
theorem dX8_takeClause_110 : decode cX8_takeClause 110 = .ok (.aload_n 0, 1) := by decide +kernel
theorem dX8_takeClause_111 : decode cX8_takeClause 111 = .ok (.iload_n 2, 1) := by decide +kernel
theorem dX8_takeClause_112 : decode cX8_takeClause 112 = .ok (.invokevirtual 132, 3) := by decide +kernel
theorem dX8_takeClause_115 : decode cX8_takeClause 115 = .ok (.return_, 1) := by decide +kernel
theorem dX8_valley_0 : decode cX8_valley 0 = .ok (.aload_n 0, 1) := by decide +kernel
theorem dX8_valley_1 : decode cX8_valley 1 = .ok (.iconst 0, 1) := by decide +kernel
theorem dX8_valley_2 : decode cX8_valley 2 = .ok (.putfield 80, 3) := by decide +kernel
theorem dX8_valley_5 : decode cX8_valley 5 = .ok (.aload_n 0, 1) := by decide +kernel
theorem dX8_valley_6 : decode cX8_valley 6 = .ok (.iconst 0, 1) := by decide +kernel
theorem dX8_valley_7 : decode cX8_valley 7 = .ok (.putfield 83, 3) := by decide +kernel
theorem dX8_valley_10 : decode cX8_valley 10 = .ok (.aload_n 0, 1) := by decide +kernel
theorem dX8_valley_11 : decode cX8_valley 11 = .ok (.iconst (-1), 1) := by decide +kernel
theorem dX8_valley_12 : decode cX8_valley 12 = .ok (.putfield 44, 3) := by decide +kernel
theorem dX8_valley_15 : decode cX8_valley 15 = .ok (.aload_n 0, 1) := by decide +kernel
theorem dX8_valley_16 : decode cX8_valley 16 = .ok (.iconst 0, 1) := by decide +kernel
theorem dX8_valley_17 : decode cX8_valley 17 = .ok (.putfield 105, 3) := by decide +kernel
theorem dX8_valley_20 : decode cX8_valley 20 = .ok (.aload_n 0, 1) := by decide +kernel
theorem dX8_valley_21 : decode cX8_valley 21 = .ok (.iconst 0, 1) := by decide +kernel
theorem dX8_valley_22 : decode cX8_valley 22 = .ok (.putfield 113, 3) := by decide +kernel
theorem dX8_valley_25 : decode cX8_valley 25 = .ok (.aload_n 0, 1) := by decide +kernel
theorem dX8_valley_26 : decode cX8_valley 26 = .ok (.iconst 0, 1) := by decide +kernel
theorem dX8_valley_27 : decode cX8_valley 27 = .ok (.putfield 116, 3) := by decide +kernel
theorem dX8_valley_30 : decode cX8_valley 30 = .ok (.aload_n 0, 1) := by decide +kernel
theorem dX8_valley_31 : decode cX8_valley 31 = .ok (.iconst 0, 1) := by decide +kernel
theorem dX8_valley_32 : decode cX8_valley 32 = .ok (.putfield 119, 3) := by decide +kernel
theorem dX8_valley_35 : decode cX8_valley 35 = .ok (.iconst 3, 1) := by decide +kernel
theorem dX8_valley_36 : decode cX8_valley 36 = .ok (.istore_n 1, 1) := by decide +kernel
theorem dX8_valley_37 : decode cX8_valley 37 = .ok (.iload_n 1, 1) := by decide +kernel
theorem dX8_valley_38 : decode cX8_valley 38 = .ok (.bipush 6, 2) := by decide +kernel
theorem dX8_valley_40 : decode cX8_valley 40 = .ok (.if_icmp .ge 16, 3) := by decide +kernel
theorem dX8_valley_43 : decode cX8_valley 43 = .ok (.aload_n 0, 1) := by decide +kernel
theorem dX8_valley_44 : decode cX8_valley 44 = .ok (.getfield 17, 3) := by decide +kernel
theorem dX8_valley_47 : decode cX8_valley 47 = .ok (.iload_n 1, 1) := by decide +kernel
theorem dX8_valley_48 : decode cX8_valley 48 = .ok (.iconst 0, 1) := by decide +kernel
theorem dX8_valley_49 : decode cX8_valley 49 = .ok (.iastore, 1) := by decide +kernel
theorem dX8_valley_50 : decode cX8_valley 50 = .ok (.iinc 1 1, 3) := by decide +kernel
theorem dX8_valley_53 : decode cX8_valley 53 = .ok (.goto (-16), 3) := by decide +kernel
theorem dX8_valley_56 : decode cX8_valley 56 = .ok (.aload_n 0, 1) := by decide +kernel
theorem dX8_valley_57 : decode cX8_valley 57 = .ok (.getfield 83, 3) := by decide +kernel
theorem dX8_valley_60 : decode cX8_valley 60 = .ok (.ifCond .ne 60, 3) := by decide +kernel
theorem dX8_valley_63 : decode cX8_valley 63 = .ok (.aload_n 0, 1) := by decide +kernel
theorem dX8_valley_64 : decode cX8_valley 64 = .ok (.invokevirtual 86, 3) := by decide +kernel
theorem dX8_valley_67 : decode cX8_valley 67 = .ok (.ifCond .lt 53, 3) := by decide +kernel
theorem dX8_valley_70 : decode cX8_valley 70 = .ok (.aload_n 0, 1) := by decide +kernel
theorem dX8_valley_71 : decode cX8_valley 71 = .ok (.invokevirtual 135, 3) := by decide +kernel
theorem dX8_valley_74 : decode cX8_valley 74 = .ok (.aload_n 0, 1) := by decide +kernel
theorem dX8_valley_75 : decode cX8_valley 75 = .ok (.getfield 83, 3) := by decide +kernel
theorem dX8_valley_78 : decode cX8_valley 78 = .ok (.ifCond .ne (-22), 3) := by decide +kernel
theorem dX8_valley_81 : decode cX8_valley 81 = .ok (.aload_n 0, 1) := by decide +kernel
theorem dX8_valley_82 : decode cX8_valley 82 = .ok (.aload_n 0, 1) := by decide +kernel
theorem dX8_valley_83 : decode cX8_valley 83 = .ok (.invokevirtual 86, 3) := by decide +kernel
theorem dX8_valley_86 : decode cX8_valley 86 = .ok (.bipush 59, 2) := by decide +kernel
theorem dX8_valley_88 : decode cX8_valley 88 = .ok (.if_icmp .ne 7, 3) := by decide +kernel
theorem dX8_valley_91 : decode cX8_valley 91 = .ok (.iconst 1, 1) := by decide +kernel
theorem dX8_valley_92 : decode cX8_valley 92 = .ok (.goto 4, 3) := by decide +kernel
theorem dX8_valley_95 : decode cX8_valley 95 = .ok (.iconst 0, 1) := by decide +kernel
theorem dX8_valley_96 : decode cX8_valley 96 = .ok (.iconst 1, 1) := by decide +kernel
theorem dX8_valley_97 : decode cX8_valley 97 = .ok (.aload_n 0, 1) := by decide +kernel
theorem dX8_valley_98 : decode cX8_valley 98 = .ok (.getfield 80, 3) := by decide +kernel
theorem dX8_valley_101 : decode cX8_valley 101 = .ok (.invokevirtual 97, 3) := by decide +kernel
theorem dX8_valley_104 : decode cX8_valley 104 = .ok (.ifCond .eq (-48), 3) := by decide +kernel
theorem dX8_valley_107 : decode cX8_valley 107 = .ok (.aload_n 0, 1) := by decide +kernel
theorem dX8_valley_108 : decode cX8_valley 108 = .ok (.dup, 1) := by decide +kernel
theorem dX8_valley_109 : decode cX8_valley 109 = .ok (.getfield 80, 3) := by decide +kernel
theorem dX8_valley_112 : decode cX8_valley 112 = .ok (.iconst 1, 1) := by decide +kernel
theorem dX8_valley_113 : decode cX8_valley 113 = .ok (.iadd, 1) := by decide +kernel
theorem dX8_valley_114 : decode cX8_valley 114 = .ok (.putfield 80, 3) := by decide +kernel
theorem dX8_valley_117 : decode cX8_valley 117 = .ok (.goto (-61), 3) := by decide +kernel
theorem dX8_valley_120 : decode cX8_valley 120 = .ok (.aload_n 0, 1) := by decide +kernel
theorem dX8_valley_121 : decode cX8_valley 121 = .ok (.iconst 0, 1) := by decide +kernel
theorem dX8_valley_122 : decode cX8_valley 122 = .ok (.putfield 76, 3) := by decide +kernel
theorem dX8_valley_125 : decode cX8_valley 125 = .ok (.aload_n 0, 1) := by decide +kernel
theorem dX8_valley_126 : decode cX8_valley 126 = .ok (.getfield 83, 3) := by decide +kernel
theorem dX8_valley_129 : decode cX8_valley 129 = .ok (.ifCond .le 11, 3) := by decide +kernel
theorem dX8_valley_132 : decode cX8_valley 132 = .ok (.bipush (-10), 2) := by decide +kernel
theorem dX8_valley_134 : decode cX8_valley 134 = .ok (.aload_n 0, 1) := by decide +kernel
theorem dX8_valley_135 : decode cX8_valley 135 = .ok (.getfield 83, 3) := by decide +kernel
theorem dX8_valley_138 : decode cX8_valley 138 = .ok (.isub, 1) := by decide +kernel
theorem dX8_valley_139 : decode cX8_valley 139 = .ok (.ireturn, 1) := by decide +kernel
theorem dX8_valley_140 : decode cX8_valley 140 = .ok (.aload_n 0, 1) := by decide +kernel
theorem dX8_valley_141 : decode cX8_valley 141 = .ok (.invokevirtual 138, 3) := by decide +kernel
theorem dX8_valley_144 : decode cX8_valley 144 = .ok (.aload_n 0, 1) := by decide +kernel
theorem dX8_valley_145 : decode cX8_valley 145 = .ok (.getfield 141, 3) := by decide +kernel
theorem dX8_valley_148 : decode cX8_valley 148 = .ok (.ireturn, 1) := by decide +kernel
theorem dX8_takeHands_0 : decode cX8_takeHands 0 = .ok (.iconst 0, 1) := by decide +kernel
theorem dX8_takeHands_1 : decode cX8_takeHands 1 = .ok (.istore_n 1, 1) := by decide +kernel
theorem dX8_takeHands_2 : decode cX8_takeHands 2 = .ok (.iload_n 1, 1) := by decide +kernel
theorem dX8_takeHands_3 : decode cX8_takeHands 3 = .ok (.iconst 4, 1) := by decide +kernel
theorem dX8_takeHands_4 : decode cX8_takeHands 4 = .ok (.if_icmp .ge 51, 3) := by decide +kernel
theorem dX8_takeHands_7 : decode cX8_takeHands 7 = .ok (.aload_n 0, 1) := by decide +kernel
theorem dX8_takeHands_8 : decode cX8_takeHands 8 = .ok (.getfield 23, 3) := by decide +kernel
theorem dX8_takeHands_11 : decode cX8_takeHands 11 = .ok (.iload_n 1, 1) := by decide +kernel
theorem dX8_takeHands_12 : decode cX8_takeHands 12 = .ok (.aload_n 0, 1) := by decide +kernel
theorem dX8_takeHands_13 : decode cX8_takeHands 13 = .ok (.getfield 23, 3) := by decide +kernel
theorem dX8_takeHands_16 : decode cX8_takeHands 16 = .ok (.iconst 4, 1) := by decide +kernel
theorem dX8_takeHands_17 : decode cX8_takeHands 17 = .ok (.iload_n 1, 1) := by decide +kernel
theorem dX8_takeHands_18 : decode cX8_takeHands 18 = .ok (.iadd, 1) := by decide +kernel
theorem dX8_takeHands_19 : decode cX8_takeHands 19 = .ok (.iaload, 1) := by decide +kernel
theorem dX8_takeHands_20 : decode cX8_takeHands 20 = .ok (.iastore, 1) := by decide +kernel
theorem dX8_takeHands_21 : decode cX8_takeHands 21 = .ok (.aload_n 0, 1) := by decide +kernel
theorem dX8_takeHands_22 : decode cX8_takeHands 22 = .ok (.getfield 26, 3) := by decide +kernel
theorem dX8_takeHands_25 : decode cX8_takeHands 25 = .ok (.iload_n 1, 1) := by decide +kernel
theorem dX8_takeHands_26 : decode cX8_takeHands 26 = .ok (.aload_n 0, 1) := by decide +kernel
theorem dX8_takeHands_27 : decode cX8_takeHands 27 = .ok (.getfield 26, 3) := by decide +kernel
theorem dX8_takeHands_30 : decode cX8_takeHands 30 = .ok (.iconst 4, 1) := by decide +kernel
theorem dX8_takeHands_31 : decode cX8_takeHands 31 = .ok (.iload_n 1, 1) := by decide +kernel
theorem dX8_takeHands_32 : decode cX8_takeHands 32 = .ok (.iadd, 1) := by decide +kernel
theorem dX8_takeHands_33 : decode cX8_takeHands 33 = .ok (.iaload, 1) := by decide +kernel
theorem dX8_takeHands_34 : decode cX8_takeHands 34 = .ok (.iastore, 1) := by decide +kernel
theorem dX8_takeHands_35 : decode cX8_takeHands 35 = .ok (.aload_n 0, 1) := by decide +kernel
theorem dX8_takeHands_36 : decode cX8_takeHands 36 = .ok (.getfield 29, 3) := by decide +kernel
theorem dX8_takeHands_39 : decode cX8_takeHands 39 = .ok (.iload_n 1, 1) := by decide +kernel
theorem dX8_takeHands_40 : decode cX8_takeHands 40 = .ok (.aload_n 0, 1) := by decide +kernel
theorem dX8_takeHands_41 : decode cX8_takeHands 41 = .ok (.getfield 29, 3) := by decide +kernel
theorem dX8_takeHands_44 : decode cX8_takeHands 44 = .ok (.iconst 4, 1) := by decide +kernel
theorem dX8_takeHands_45 : decode cX8_takeHands 45 = .ok (.iload_n 1, 1) := by decide +kernel
theorem dX8_takeHands_46 : decode cX8_takeHands 46 = .ok (.iadd, 1) := by decide +kernel
theorem dX8_takeHands_47 : decode cX8_takeHands 47 = .ok (.iaload, 1) := by decide +kernel
theorem dX8_takeHands_48 : decode cX8_takeHands 48 = .ok (.iastore, 1) := by decide +kernel
theorem dX8_takeHands_49 : decode cX8_takeHands 49 = .ok (.iinc 1 1, 3) := by decide +kernel
theorem dX8_takeHands_52 : decode cX8_takeHands 52 = .ok (.goto (-50), 3) := by decide +kernel
theorem dX8_takeHands_55 : decode cX8_takeHands 55 = .ok (.iconst 0, 1) := by decide +kernel
theorem dX8_takeHands_56 : decode cX8_takeHands 56 = .ok (.istore_n 1, 1) := by decide +kernel
theorem dX8_takeHands_57 : decode cX8_takeHands 57 = .ok (.iload_n 1, 1) := by decide +kernel
theorem dX8_takeHands_58 : decode cX8_takeHands 58 = .ok (.bipush 8, 2) := by decide +kernel
theorem dX8_takeHands_60 : decode cX8_takeHands 60 = .ok (.if_icmp .ge 24, 3) := by decide +kernel
theorem dX8_takeHands_63 : decode cX8_takeHands 63 = .ok (.aload_n 0, 1) := by decide +kernel
theorem dX8_takeHands_64 : decode cX8_takeHands 64 = .ok (.getfield 20, 3) := by decide +kernel
theorem dX8_takeHands_67 : decode cX8_takeHands 67 = .ok (.iload_n 1, 1) := by decide +kernel
theorem dX8_takeHands_68 : decode cX8_takeHands 68 = .ok (.aload_n 0, 1) := by decide +kernel
theorem dX8_takeHands_69 : decode cX8_takeHands 69 = .ok (.getfield 20, 3) := by decide +kernel
theorem dX8_takeHands_72 : decode cX8_takeHands 72 = .ok (.bipush 8, 2) := by decide +kernel
theorem dX8_takeHands_74 : decode cX8_takeHands 74 = .ok (.iload_n 1, 1) := by decide +kernel
theorem dX8_takeHands_75 : decode cX8_takeHands 75 = .ok (.iadd, 1) := by decide +kernel
theorem dX8_takeHands_76 : decode cX8_takeHands 76 = .ok (.iaload, 1) := by decide +kernel
theorem dX8_takeHands_77 : decode cX8_takeHands 77 = .ok (.iastore, 1) := by decide +kernel
theorem dX8_takeHands_78 : decode cX8_takeHands 78 = .ok (.iinc 1 1, 3) := by decide +kernel
theorem dX8_takeHands_81 : decode cX8_takeHands 81 = .ok (.goto (-24), 3) := by decide +kernel
theorem dX8_takeHands_84 : decode cX8_takeHands 84 = .ok (.return_, 1) := by decide +kernel
theorem dX8_take_0 : decode cX8_take 0 = .ok (.aload_n 0, 1) := by decide +kernel
theorem dX8_take_1 : decode cX8_take 1 = .ok (.aload_n 0, 1) := by decide +kernel
theorem dX8_take_2 : decode cX8_take 2 = .ok (.getfield 105, 3) := by decide +kernel
theorem dX8_take_5 : decode cX8_take 5 = .ok (.putfield 144, 3) := by decide +kernel
theorem dX8_take_8 : decode cX8_take 8 = .ok (.iconst 0, 1) := by decide +kernel
theorem dX8_take_9 : decode cX8_take 9 = .ok (.istore_n 1, 1) := by decide +kernel
theorem dX8_take_10 : decode cX8_take 10 = .ok (.iload_n 1, 1) := by decide +kernel
theorem dX8_take_11 : decode cX8_take 11 = .ok (.iconst 3, 1) := by decide +kernel
theorem dX8_take_12 : decode cX8_take 12 = .ok (.if_icmp .ge 23, 3) := by decide +kernel
theorem dX8_take_15 : decode cX8_take 15 = .ok (.aload_n 0, 1) := by decide +kernel
theorem dX8_take_16 : decode cX8_take 16 = .ok (.getfield 17, 3) := by decide +kernel
theorem dX8_take_19 : decode cX8_take 19 = .ok (.iload_n 1, 1) := by decide +kernel
theorem dX8_take_20 : decode cX8_take 20 = .ok (.aload_n 0, 1) := by decide +kernel
theorem dX8_take_21 : decode cX8_take 21 = .ok (.getfield 17, 3) := by decide +kernel
theorem dX8_take_24 : decode cX8_take 24 = .ok (.iconst 3, 1) := by decide +kernel
theorem dX8_take_25 : decode cX8_take 25 = .ok (.iload_n 1, 1) := by decide +kernel
theorem dX8_take_26 : decode cX8_take 26 = .ok (.iadd, 1) := by decide +kernel
theorem dX8_take_27 : decode cX8_take 27 = .ok (.iaload, 1) := by decide +kernel
theorem dX8_take_28 : decode cX8_take 28 = .ok (.iastore, 1) := by decide +kernel
theorem dX8_take_29 : decode cX8_take 29 = .ok (.iinc 1 1, 3) := by decide +kernel
theorem dX8_take_32 : decode cX8_take 32 = .ok (.goto (-22), 3) := by decide +kernel
theorem dX8_take_35 : decode cX8_take 35 = .ok (.aload_n 0, 1) := by decide +kernel
theorem dX8_take_36 : decode cX8_take 36 = .ok (.aload_n 0, 1) := by decide +kernel
theorem dX8_take_37 : decode cX8_take 37 = .ok (.getfield 113, 3) := by decide +kernel
theorem dX8_take_40 : decode cX8_take 40 = .ok (.putfield 147, 3) := by decide +kernel
theorem dX8_take_43 : decode cX8_take 43 = .ok (.aload_n 0, 1) := by decide +kernel
theorem dX8_take_44 : decode cX8_take 44 = .ok (.aload_n 0, 1) := by decide +kernel
theorem dX8_take_45 : decode cX8_take 45 = .ok (.getfield 116, 3) := by decide +kernel
theorem dX8_take_48 : decode cX8_take 48 = .ok (.putfield 150, 3) := by decide +kernel
theorem dX8_take_51 : decode cX8_take 51 = .ok (.aload_n 0, 1) := by decide +kernel
theorem dX8_take_52 : decode cX8_take 52 = .ok (.aload_n 0, 1) := by decide +kernel
theorem dX8_take_53 : decode cX8_take 53 = .ok (.getfield 119, 3) := by decide +kernel
theorem dX8_take_56 : decode cX8_take 56 = .ok (.putfield 141, 3) := by decide +kernel
theorem dX8_take_59 : decode cX8_take 59 = .ok (.aload_n 0, 1) := by decide +kernel
theorem dX8_take_60 : decode cX8_take 60 = .ok (.invokevirtual 153, 3) := by decide +kernel
theorem dX8_take_63 : decode cX8_take 63 = .ok (.iconst 0, 1) := by decide +kernel
theorem dX8_take_64 : decode cX8_take 64 = .ok (.istore_n 1, 1) := by decide +kernel
theorem dX8_take_65 : decode cX8_take 65 = .ok (.iload_n 1, 1) := by decide +kernel
theorem dX8_take_66 : decode cX8_take 66 = .ok (.iconst 4, 1) := by decide +kernel
theorem dX8_take_67 : decode cX8_take 67 = .ok (.if_icmp .ge 127, 3) := by decide +kernel
theorem dX8_take_70 : decode cX8_take 70 = .ok (.aload_n 0, 1) := by decide +kernel
theorem dX8_take_71 : decode cX8_take 71 = .ok (.getfield 32, 3) := by decide +kernel
theorem dX8_take_74 : decode cX8_take 74 = .ok (.iload_n 1, 1) := by decide +kernel
theorem dX8_take_75 : decode cX8_take 75 = .ok (.aload_n 0, 1) := by decide +kernel
theorem dX8_take_76 : decode cX8_take 76 = .ok (.getfield 32, 3) := by decide +kernel
theorem dX8_take_79 : decode cX8_take 79 = .ok (.iconst 4, 1) := by decide +kernel
theorem dX8_take_80 : decode cX8_take 80 = .ok (.iload_n 1, 1) := by decide +kernel
theorem dX8_take_81 : decode cX8_take 81 = .ok (.iadd, 1) := by decide +kernel
theorem dX8_take_82 : decode cX8_take 82 = .ok (.iaload, 1) := by decide +kernel
theorem dX8_take_83 : decode cX8_take 83 = .ok (.iastore, 1) := by decide +kernel
theorem dX8_take_84 : decode cX8_take 84 = .ok (.aload_n 0, 1) := by decide +kernel
theorem dX8_take_85 : decode cX8_take 85 = .ok (.getfield 35, 3) := by decide +kernel
theorem dX8_take_88 : decode cX8_take 88 = .ok (.iload_n 1, 1) := by decide +kernel
theorem dX8_take_89 : decode cX8_take 89 = .ok (.aload_n 0, 1) := by decide +kernel
theorem dX8_take_90 : decode cX8_take 90 = .ok (.getfield 35, 3) := by decide +kernel
theorem dX8_take_93 : decode cX8_take 93 = .ok (.iconst 4, 1) := by decide +kernel
theorem dX8_take_94 : decode cX8_take 94 = .ok (.iload_n 1, 1) := by decide +kernel
theorem dX8_take_95 : decode cX8_take 95 = .ok (.iadd, 1) := by decide +kernel
theorem dX8_take_96 : decode cX8_take 96 = .ok (.iaload, 1) := by decide +kernel
theorem dX8_take_97 : decode cX8_take 97 = .ok (.iastore, 1) := by decide +kernel
theorem dX8_take_98 : decode cX8_take 98 = .ok (.aload_n 0, 1) := by decide +kernel
theorem dX8_take_99 : decode cX8_take 99 = .ok (.getfield 38, 3) := by decide +kernel
theorem dX8_take_102 : decode cX8_take 102 = .ok (.iload_n 1, 1) := by decide +kernel
theorem dX8_take_103 : decode cX8_take 103 = .ok (.aload_n 0, 1) := by decide +kernel
theorem dX8_take_104 : decode cX8_take 104 = .ok (.getfield 38, 3) := by decide +kernel
theorem dX8_take_107 : decode cX8_take 107 = .ok (.iconst 4, 1) := by decide +kernel
theorem dX8_take_108 : decode cX8_take 108 = .ok (.iload_n 1, 1) := by decide +kernel
theorem dX8_take_109 : decode cX8_take 109 = .ok (.iadd, 1) := by decide +kernel
theorem dX8_take_110 : decode cX8_take 110 = .ok (.iaload, 1) := by decide +kernel
theorem dX8_take_111 : decode cX8_take 111 = .ok (.iastore, 1) := by decide +kernel
theorem dX8_take_112 : decode cX8_take 112 = .ok (.aload_n 0, 1) := by decide +kernel
theorem dX8_take_113 : decode cX8_take 113 = .ok (.getfield 7, 3) := by decide +kernel
theorem dX8_take_116 : decode cX8_take 116 = .ok (.bipush 48, 2) := by decide +kernel
theorem dX8_take_118 : decode cX8_take 118 = .ok (.iload_n 1, 1) := by decide +kernel
theorem dX8_take_119 : decode cX8_take 119 = .ok (.iadd, 1) := by decide +kernel
theorem dX8_take_120 : decode cX8_take 120 = .ok (.iconst 0, 1) := by decide +kernel
theorem dX8_take_121 : decode cX8_take 121 = .ok (.iastore, 1) := by decide +kernel
theorem dX8_take_122 : decode cX8_take 122 = .ok (.iconst 0, 1) := by decide +kernel
theorem dX8_take_123 : decode cX8_take 123 = .ok (.istore_n 2, 1) := by decide +kernel
theorem dX8_take_124 : decode cX8_take 124 = .ok (.iload_n 1, 1) := by decide +kernel
theorem dX8_take_125 : decode cX8_take 125 = .ok (.aload_n 0, 1) := by decide +kernel
theorem dX8_take_126 : decode cX8_take 126 = .ok (.getfield 141, 3) := by decide +kernel
theorem dX8_take_129 : decode cX8_take 129 = .ok (.if_icmp .ge 52, 3) := by decide +kernel
theorem dX8_take_132 : decode cX8_take 132 = .ok (.iload_n 2, 1) := by decide +kernel
theorem dX8_take_133 : decode cX8_take 133 = .ok (.aload_n 0, 1) := by decide +kernel
theorem dX8_take_134 : decode cX8_take 134 = .ok (.getfield 38, 3) := by decide +kernel
theorem dX8_take_137 : decode cX8_take 137 = .ok (.iload_n 1, 1) := by decide +kernel
theorem dX8_take_138 : decode cX8_take 138 = .ok (.iaload, 1) := by decide +kernel
theorem dX8_take_139 : decode cX8_take 139 = .ok (.if_icmp .ge 42, 3) := by decide +kernel
theorem dX8_take_142 : decode cX8_take 142 = .ok (.aload_n 0, 1) := by decide +kernel
theorem dX8_take_143 : decode cX8_take 143 = .ok (.getfield 35, 3) := by decide +kernel
theorem dX8_take_146 : decode cX8_take 146 = .ok (.iload_n 1, 1) := by decide +kernel
theorem dX8_take_147 : decode cX8_take 147 = .ok (.iaload, 1) := by decide +kernel
theorem dX8_take_148 : decode cX8_take 148 = .ok (.iload_n 2, 1) := by decide +kernel
theorem dX8_take_149 : decode cX8_take 149 = .ok (.iadd, 1) := by decide +kernel
theorem dX8_take_150 : decode cX8_take 150 = .ok (.bipush 96, 2) := by decide +kernel
theorem dX8_take_152 : decode cX8_take 152 = .ok (.if_icmp .ge 29, 3) := by decide +kernel
theorem dX8_take_155 : decode cX8_take 155 = .ok (.aload_n 0, 1) := by decide +kernel
theorem dX8_take_156 : decode cX8_take 156 = .ok (.iload_n 1, 1) := by decide +kernel
theorem dX8_take_157 : decode cX8_take 157 = .ok (.aload_n 0, 1) := by decide +kernel
theorem dX8_take_158 : decode cX8_take 158 = .ok (.getfield 35, 3) := by decide +kernel
theorem dX8_take_161 : decode cX8_take 161 = .ok (.iload_n 1, 1) := by decide +kernel
theorem dX8_take_162 : decode cX8_take 162 = .ok (.iaload, 1) := by decide +kernel
theorem dX8_take_163 : decode cX8_take 163 = .ok (.iload_n 2, 1) := by decide +kernel
theorem dX8_take_164 : decode cX8_take 164 = .ok (.iadd, 1) := by decide +kernel
theorem dX8_take_165 : decode cX8_take 165 = .ok (.aload_n 0, 1) := by decide +kernel
theorem dX8_take_166 : decode cX8_take 166 = .ok (.getfield 32, 3) := by decide +kernel
theorem dX8_take_169 : decode cX8_take 169 = .ok (.iload_n 1, 1) := by decide +kernel
theorem dX8_take_170 : decode cX8_take 170 = .ok (.iaload, 1) := by decide +kernel
theorem dX8_take_171 : decode cX8_take 171 = .ok (.iconst (-1), 1) := by decide +kernel
theorem dX8_take_172 : decode cX8_take 172 = .ok (.invokevirtual 156, 3) := by decide +kernel
theorem dX8_take_175 : decode cX8_take 175 = .ok (.iinc 2 1, 3) := by decide +kernel
theorem dX8_take_178 : decode cX8_take 178 = .ok (.goto (-54), 3) := by decide +kernel
theorem dX8_take_181 : decode cX8_take 181 = .ok (.aload_n 0, 1) := by decide +kernel
theorem dX8_take_182 : decode cX8_take 182 = .ok (.getfield 48, 3) := by decide +kernel
theorem dX8_take_185 : decode cX8_take 185 = .ok (.iload_n 1, 1) := by decide +kernel
theorem dX8_take_186 : decode cX8_take 186 = .ok (.iconst 0, 1) := by decide +kernel
theorem dX8_take_187 : decode cX8_take 187 = .ok (.iastore, 1) := by decide +kernel
theorem dX8_take_188 : decode cX8_take 188 = .ok (.iinc 1 1, 3) := by decide +kernel
theorem dX8_take_191 : decode cX8_take 191 = .ok (.goto (-126), 3) := by decide +kernel
theorem dX8_take_194 : decode cX8_take 194 = .ok (.aload_n 0, 1) := by decide +kernel
theorem dX8_take_195 : decode cX8_take 195 = .ok (.getfield 7, 3) := by decide +kernel
theorem dX8_take_198 : decode cX8_take 198 = .ok (.bipush 52, 2) := by decide +kernel
theorem dX8_take_200 : decode cX8_take 200 = .ok (.iconst (-1), 1) := by decide +kernel
theorem dX8_take_201 : decode cX8_take 201 = .ok (.iastore, 1) := by decide +kernel
theorem dX8_take_202 : decode cX8_take 202 = .ok (.aload_n 0, 1) := by decide +kernel
theorem dX8_take_203 : decode cX8_take 203 = .ok (.iconst 0, 1) := by decide +kernel
theorem dX8_take_204 : decode cX8_take 204 = .ok (.putfield 160, 3) := by decide +kernel
theorem dX8_take_207 : decode cX8_take 207 = .ok (.aload_n 0, 1) := by decide +kernel
theorem dX8_take_208 : decode cX8_take 208 = .ok (.iconst 0, 1) := by decide +kernel
theorem dX8_take_209 : decode cX8_take 209 = .ok (.putfield 163, 3) := by decide +kernel
theorem dX8_take_212 : decode cX8_take 212 = .ok (.aload_n 0, 1) := by decide +kernel
theorem dX8_take_213 : decode cX8_take 213 = .ok (.getfield 13, 3) := by decide +kernel
theorem dX8_take_216 : decode cX8_take 216 = .ok (.iconst 0, 1) := by decide +kernel
theorem dX8_take_217 : decode cX8_take 217 = .ok (.iconst 0, 1) := by decide +kernel
theorem dX8_take_218 : decode cX8_take 218 = .ok (.bastore, 1) := by decide +kernel
theorem dX8_take_219 : decode cX8_take 219 = .ok (.aload_n 0, 1) := by decide +kernel
theorem dX8_take_220 : decode cX8_take 220 = .ok (.getfield 13, 3) := by decide +kernel
theorem dX8_take_223 : decode cX8_take 223 = .ok (.iconst 1, 1) := by decide +kernel
theorem dX8_take_224 : decode cX8_take 224 = .ok (.iconst 0, 1) := by decide +kernel
theorem dX8_take_225 : decode cX8_take 225 = .ok (.bastore, 1) := by decide +kernel
theorem dX8_take_226 : decode cX8_take 226 = .ok (.return_, 1) := by decide +kernel
theorem dX8_put_0 : decode cX8_put 0 = .ok (.aload_n 0, 1) := by decide +kernel
theorem dX8_put_1 : decode cX8_put 1 = .ok (.getfield 7, 3) := by decide +kernel
theorem dX8_put_4 : decode cX8_put 4 = .ok (.bipush 12, 2) := by decide +kernel
theorem dX8_put_6 : decode cX8_put 6 = .ok (.iload_n 1, 1) := by decide +kernel
theorem dX8_put_7 : decode cX8_put 7 = .ok (.imul, 1) := by decide +kernel
theorem dX8_put_8 : decode cX8_put 8 = .ok (.aload_n 0, 1) := by decide +kernel
theorem dX8_put_9 : decode cX8_put 9 = .ok (.getfield 7, 3) := by decide +kernel
theorem dX8_put_12 : decode cX8_put 12 = .ok (.bipush 48, 2) := by decide +kernel
theorem dX8_put_14 : decode cX8_put 14 = .ok (.iload_n 1, 1) := by decide +kernel
theorem dX8_put_15 : decode cX8_put 15 = .ok (.iadd, 1) := by decide +kernel
theorem dX8_put_16 : decode cX8_put 16 = .ok (.iaload, 1) := by decide +kernel
theorem dX8_put_17 : decode cX8_put 17 = .ok (.iadd, 1) := by decide +kernel
theorem dX8_put_18 : decode cX8_put 18 = .ok (.iload_n 2, 1) := by decide +kernel
theorem dX8_put_19 : decode cX8_put 19 = .ok (.bipush 96, 2) := by decide +kernel
theorem dX8_put_21 : decode cX8_put 21 = .ok (.iload_n 3, 1) := by decide +kernel
theorem dX8_put_22 : decode cX8_put 22 = .ok (.imul, 1) := by decide +kernel
theorem dX8_put_23 : decode cX8_put 23 = .ok (.iadd, 1) := by decide +kernel
theorem dX8_put_24 : decode cX8_put 24 = .ok (.sipush 384, 3) := by decide +kernel
theorem dX8_put_27 : decode cX8_put 27 = .ok (.iload 4, 2) := by decide +kernel
theorem dX8_put_29 : decode cX8_put 29 = .ok (.iconst 1, 1) := by decide +kernel
theorem dX8_put_30 : decode cX8_put 30 = .ok (.iadd, 1) := by decide +kernel
theorem dX8_put_31 : decode cX8_put 31 = .ok (.imul, 1) := by decide +kernel
theorem dX8_put_32 : decode cX8_put 32 = .ok (.iadd, 1) := by decide +kernel
theorem dX8_put_33 : decode cX8_put 33 = .ok (.iastore, 1) := by decide +kernel
theorem dX8_put_34 : decode cX8_put 34 = .ok (.aload_n 0, 1) := by decide +kernel
theorem dX8_put_35 : decode cX8_put 35 = .ok (.getfield 7, 3) := by decide +kernel
theorem dX8_put_38 : decode cX8_put 38 = .ok (.bipush 48, 2) := by decide +kernel
theorem dX8_put_40 : decode cX8_put 40 = .ok (.iload_n 1, 1) := by decide +kernel
theorem dX8_put_41 : decode cX8_put 41 = .ok (.iadd, 1) := by decide +kernel
theorem dX8_put_42 : decode cX8_put 42 = .ok (.dup2, 1) := by decide +kernel
theorem dX8_put_43 : decode cX8_put 43 = .ok (.iaload, 1) := by decide +kernel
theorem dX8_put_44 : decode cX8_put 44 = .ok (.iconst 1, 1) := by decide +kernel
theorem dX8_put_45 : decode cX8_put 45 = .ok (.iadd, 1) := by decide +kernel
theorem dX8_put_46 : decode cX8_put 46 = .ok (.iastore, 1) := by decide +kernel
theorem dX8_put_47 : decode cX8_put 47 = .ok (.return_, 1) := by decide +kernel
theorem dX8_fault_0 : decode cX8_fault 0 = .ok (.aload_n 0, 1) := by decide +kernel
theorem dX8_fault_1 : decode cX8_fault 1 = .ok (.getfield 44, 3) := by decide +kernel
theorem dX8_fault_4 : decode cX8_fault 4 = .ok (.ireturn, 1) := by decide +kernel
theorem dX8_isHand_0 : decode cX8_isHand 0 = .ok (.iload_n 1, 1) := by decide +kernel
theorem dX8_isHand_1 : decode cX8_isHand 1 = .ok (.i2l, 1) := by decide +kernel
theorem dX8_isHand_2 : decode cX8_isHand 2 = .ok (.lconst 0, 1) := by decide +kernel
theorem dX8_isHand_3 : decode cX8_isHand 3 = .ok (.aload_n 0, 1) := by decide +kernel
theorem dX8_isHand_4 : decode cX8_isHand 4 = .ok (.getfield 150, 3) := by decide +kernel
theorem dX8_isHand_7 : decode cX8_isHand 7 = .ok (.iconst 1, 1) := by decide +kernel
theorem dX8_isHand_8 : decode cX8_isHand 8 = .ok (.isub, 1) := by decide +kernel
theorem dX8_isHand_9 : decode cX8_isHand 9 = .ok (.i2l, 1) := by decide +kernel
theorem dX8_isHand_10 : decode cX8_isHand 10 = .ok (.invokestatic 71, 3) := by decide +kernel
theorem dX8_isHand_13 : decode cX8_isHand 13 = .ok (.ireturn, 1) := by decide +kernel
theorem dX8_isPaper_0 : decode cX8_isPaper 0 = .ok (.iload_n 1, 1) := by decide +kernel
theorem dX8_isPaper_1 : decode cX8_isPaper 1 = .ok (.i2l, 1) := by decide +kernel
theorem dX8_isPaper_2 : decode cX8_isPaper 2 = .ok (.lconst 0, 1) := by decide +kernel
theorem dX8_isPaper_3 : decode cX8_isPaper 3 = .ok (.aload_n 0, 1) := by decide +kernel
theorem dX8_isPaper_4 : decode cX8_isPaper 4 = .ok (.getfield 141, 3) := by decide +kernel
theorem dX8_isPaper_7 : decode cX8_isPaper 7 = .ok (.iconst 1, 1) := by decide +kernel
theorem dX8_isPaper_8 : decode cX8_isPaper 8 = .ok (.isub, 1) := by decide +kernel
theorem dX8_isPaper_9 : decode cX8_isPaper 9 = .ok (.i2l, 1) := by decide +kernel
theorem dX8_isPaper_10 : decode cX8_isPaper 10 = .ok (.invokestatic 71, 3) := by decide +kernel
theorem dX8_isPaper_13 : decode cX8_isPaper 13 = .ok (.ireturn, 1) := by decide +kernel
theorem dX8_isLetter_0 : decode cX8_isLetter 0 = .ok (.aload_n 0, 1) := by decide +kernel
theorem dX8_isLetter_1 : decode cX8_isLetter 1 = .ok (.iload_n 1, 1) := by decide +kernel
theorem dX8_isLetter_2 : decode cX8_isLetter 2 = .ok (.invokevirtual 166, 3) := by decide +kernel
theorem dX8_isLetter_5 : decode cX8_isLetter 5 = .ok (.ifCond .eq 28, 3) := by decide +kernel
theorem dX8_isLetter_8 : decode cX8_isLetter 8 = .ok (.iload_n 2, 1) := by decide +kernel
theorem dX8_isLetter_9 : decode cX8_isLetter 9 = .ok (.i2l, 1) := by decide +kernel
theorem dX8_isLetter_10 : decode cX8_isLetter 10 = .ok (.lconst 0, 1) := by decide +kernel
theorem dX8_isLetter_11 : decode cX8_isLetter 11 = .ok (.aload_n 0, 1) := by decide +kernel
theorem dX8_isLetter_12 : decode cX8_isLetter 12 = .ok (.getfield 7, 3) := by decide +kernel
theorem dX8_isLetter_15 : decode cX8_isLetter 15 = .ok (.bipush 48, 2) := by decide +kernel
theorem dX8_isLetter_17 : decode cX8_isLetter 17 = .ok (.iload_n 1, 1) := by decide +kernel
theorem dX8_isLetter_18 : decode cX8_isLetter 18 = .ok (.iadd, 1) := by decide +kernel
theorem dX8_isLetter_19 : decode cX8_isLetter 19 = .ok (.iaload, 1) := by decide +kernel
theorem dX8_isLetter_20 : decode cX8_isLetter 20 = .ok (.iconst 1, 1) := by decide +kernel
theorem dX8_isLetter_21 : decode cX8_isLetter 21 = .ok (.isub, 1) := by decide +kernel
theorem dX8_isLetter_22 : decode cX8_isLetter 22 = .ok (.i2l, 1) := by decide +kernel
theorem dX8_isLetter_23 : decode cX8_isLetter 23 = .ok (.invokestatic 71, 3) := by decide +kernel
theorem dX8_isLetter_26 : decode cX8_isLetter 26 = .ok (.ifCond .eq 7, 3) := by decide +kernel
theorem dX8_isLetter_29 : decode cX8_isLetter 29 = .ok (.iconst 1, 1) := by decide +kernel
theorem dX8_isLetter_30 : decode cX8_isLetter 30 = .ok (.goto 4, 3) := by decide +kernel
theorem dX8_isLetter_33 : decode cX8_isLetter 33 = .ok (.iconst 0, 1) := by decide +kernel
theorem dX8_isLetter_34 : decode cX8_isLetter 34 = .ok (.ireturn, 1) := by decide +kernel
theorem dX8_isHour_0 : decode cX8_isHour 0 = .ok (.iload_n 0, 1) := by decide +kernel
theorem dX8_isHour_1 : decode cX8_isHour 1 = .ok (.i2l, 1) := by decide +kernel
theorem dX8_isHour_2 : decode cX8_isHour 2 = .ok (.lconst 0, 1) := by decide +kernel
theorem dX8_isHour_3 : decode cX8_isHour 3 = .ok (.ldc2_w 170, 3) := by decide +kernel
theorem dX8_isHour_6 : decode cX8_isHour 6 = .ok (.invokestatic 71, 3) := by decide +kernel
theorem dX8_isHour_9 : decode cX8_isHour 9 = .ok (.ireturn, 1) := by decide +kernel
theorem dX8_allLetters_0 : decode cX8_allLetters 0 = .ok (.iconst 0, 1) := by decide +kernel
theorem dX8_allLetters_1 : decode cX8_allLetters 1 = .ok (.istore_n 1, 1) := by decide +kernel
theorem dX8_allLetters_2 : decode cX8_allLetters 2 = .ok (.iconst 0, 1) := by decide +kernel
theorem dX8_allLetters_3 : decode cX8_allLetters 3 = .ok (.istore_n 2, 1) := by decide +kernel
theorem dX8_allLetters_4 : decode cX8_allLetters 4 = .ok (.iload_n 2, 1) := by decide +kernel
theorem dX8_allLetters_5 : decode cX8_allLetters 5 = .ok (.aload_n 0, 1) := by decide +kernel
theorem dX8_allLetters_6 : decode cX8_allLetters 6 = .ok (.getfield 141, 3) := by decide +kernel
theorem dX8_allLetters_9 : decode cX8_allLetters 9 = .ok (.if_icmp .ge 21, 3) := by decide +kernel
theorem dX8_allLetters_12 : decode cX8_allLetters 12 = .ok (.iload_n 1, 1) := by decide +kernel
theorem dX8_allLetters_13 : decode cX8_allLetters 13 = .ok (.aload_n 0, 1) := by decide +kernel
theorem dX8_allLetters_14 : decode cX8_allLetters 14 = .ok (.getfield 7, 3) := by decide +kernel
theorem dX8_allLetters_17 : decode cX8_allLetters 17 = .ok (.bipush 48, 2) := by decide +kernel
theorem dX8_allLetters_19 : decode cX8_allLetters 19 = .ok (.iload_n 2, 1) := by decide +kernel
theorem dX8_allLetters_20 : decode cX8_allLetters 20 = .ok (.iadd, 1) := by decide +kernel
theorem dX8_allLetters_21 : decode cX8_allLetters 21 = .ok (.iaload, 1) := by decide +kernel
theorem dX8_allLetters_22 : decode cX8_allLetters 22 = .ok (.iadd, 1) := by decide +kernel
theorem dX8_allLetters_23 : decode cX8_allLetters 23 = .ok (.istore_n 1, 1) := by decide +kernel
theorem dX8_allLetters_24 : decode cX8_allLetters 24 = .ok (.iinc 2 1, 3) := by decide +kernel
theorem dX8_allLetters_27 : decode cX8_allLetters 27 = .ok (.goto (-23), 3) := by decide +kernel
theorem dX8_allLetters_30 : decode cX8_allLetters 30 = .ok (.iload_n 1, 1) := by decide +kernel
theorem dX8_allLetters_31 : decode cX8_allLetters 31 = .ok (.ireturn, 1) := by decide +kernel
theorem dX8_told_0 : decode cX8_told 0 = .ok (.iload_n 1, 1) := by decide +kernel
theorem dX8_told_1 : decode cX8_told 1 = .ok (.tableswitch 126 0 10 #[59, 67, 74, 81, 88, 93, 98, 103, 111, 116, 121], 59) := by decide +kernel
theorem dX8_told_60 : decode cX8_told 60 = .ok (.aload_n 0, 1) := by decide +kernel
theorem dX8_told_61 : decode cX8_told 61 = .ok (.getfield 144, 3) := by decide +kernel
theorem dX8_told_64 : decode cX8_told 64 = .ok (.invokestatic 172, 3) := by decide +kernel
theorem dX8_told_67 : decode cX8_told 67 = .ok (.ireturn, 1) := by decide +kernel
theorem dX8_told_68 : decode cX8_told 68 = .ok (.aload_n 0, 1) := by decide +kernel
theorem dX8_told_69 : decode cX8_told 69 = .ok (.getfield 17, 3) := by decide +kernel
theorem dX8_told_72 : decode cX8_told 72 = .ok (.iconst 0, 1) := by decide +kernel
theorem dX8_told_73 : decode cX8_told 73 = .ok (.iaload, 1) := by decide +kernel
theorem dX8_told_74 : decode cX8_told 74 = .ok (.ireturn, 1) := by decide +kernel
theorem dX8_told_75 : decode cX8_told 75 = .ok (.aload_n 0, 1) := by decide +kernel
theorem dX8_told_76 : decode cX8_told 76 = .ok (.getfield 17, 3) := by decide +kernel
theorem dX8_told_79 : decode cX8_told 79 = .ok (.iconst 1, 1) := by decide +kernel
theorem dX8_told_80 : decode cX8_told 80 = .ok (.iaload, 1) := by decide +kernel
theorem dX8_told_81 : decode cX8_told 81 = .ok (.ireturn, 1) := by decide +kernel
theorem dX8_told_82 : decode cX8_told 82 = .ok (.aload_n 0, 1) := by decide +kernel
theorem dX8_told_83 : decode cX8_told 83 = .ok (.getfield 17, 3) := by decide +kernel
theorem dX8_told_86 : decode cX8_told 86 = .ok (.iconst 2, 1) := by decide +kernel
theorem dX8_told_87 : decode cX8_told 87 = .ok (.iaload, 1) := by decide +kernel
theorem dX8_told_88 : decode cX8_told 88 = .ok (.ireturn, 1) := by decide +kernel
theorem dX8_told_89 : decode cX8_told 89 = .ok (.aload_n 0, 1) := by decide +kernel
theorem dX8_told_90 : decode cX8_told 90 = .ok (.getfield 150, 3) := by decide +kernel
theorem dX8_told_93 : decode cX8_told 93 = .ok (.ireturn, 1) := by decide +kernel
theorem dX8_told_94 : decode cX8_told 94 = .ok (.aload_n 0, 1) := by decide +kernel
theorem dX8_told_95 : decode cX8_told 95 = .ok (.getfield 141, 3) := by decide +kernel
theorem dX8_told_98 : decode cX8_told 98 = .ok (.ireturn, 1) := by decide +kernel
theorem dX8_told_99 : decode cX8_told 99 = .ok (.aload_n 0, 1) := by decide +kernel
theorem dX8_told_100 : decode cX8_told 100 = .ok (.getfield 76, 3) := by decide +kernel
theorem dX8_told_103 : decode cX8_told 103 = .ok (.ireturn, 1) := by decide +kernel
theorem dX8_told_104 : decode cX8_told 104 = .ok (.aload_n 0, 1) := by decide +kernel
theorem dX8_told_105 : decode cX8_told 105 = .ok (.getfield 7, 3) := by decide +kernel
theorem dX8_told_108 : decode cX8_told 108 = .ok (.bipush 52, 2) := by decide +kernel
theorem dX8_told_110 : decode cX8_told 110 = .ok (.iaload, 1) := by decide +kernel
theorem dX8_told_111 : decode cX8_told 111 = .ok (.ireturn, 1) := by decide +kernel
theorem dX8_told_112 : decode cX8_told 112 = .ok (.aload_n 0, 1) := by decide +kernel
theorem dX8_told_113 : decode cX8_told 113 = .ok (.invokevirtual 176, 3) := by decide +kernel
theorem dX8_told_116 : decode cX8_told 116 = .ok (.ireturn, 1) := by decide +kernel
theorem dX8_told_117 : decode cX8_told 117 = .ok (.aload_n 0, 1) := by decide +kernel
theorem dX8_told_118 : decode cX8_told 118 = .ok (.getfield 160, 3) := by decide +kernel
theorem dX8_told_121 : decode cX8_told 121 = .ok (.ireturn, 1) := by decide +kernel
theorem dX8_told_122 : decode cX8_told 122 = .ok (.aload_n 0, 1) := by decide +kernel
theorem dX8_told_123 : decode cX8_told 123 = .ok (.getfield 163, 3) := by decide +kernel
theorem dX8_told_126 : decode cX8_told 126 = .ok (.ireturn, 1) := by decide +kernel
theorem dX8_told_127 : decode cX8_told 127 = .ok (.ldc 75, 2) := by decide +kernel
theorem dX8_told_129 : decode cX8_told 129 = .ok (.ireturn, 1) := by decide +kernel
theorem dX8_rainOf_0 : decode cX8_rainOf 0 = .ok (.aload_n 0, 1) := by decide +kernel
theorem dX8_rainOf_1 : decode cX8_rainOf 1 = .ok (.getfield 147, 3) := by decide +kernel
theorem dX8_rainOf_4 : decode cX8_rainOf 4 = .ok (.ifCond .ne 7, 3) := by decide +kernel
theorem dX8_rainOf_7 : decode cX8_rainOf 7 = .ok (.iconst 0, 1) := by decide +kernel
theorem dX8_rainOf_8 : decode cX8_rainOf 8 = .ok (.goto 14, 3) := by decide +kernel
theorem dX8_rainOf_11 : decode cX8_rainOf 11 = .ok (.aload_n 0, 1) := by decide +kernel
theorem dX8_rainOf_12 : decode cX8_rainOf 12 = .ok (.getfield 20, 3) := by decide +kernel
theorem dX8_rainOf_15 : decode cX8_rainOf 15 = .ok (.iload_n 1, 1) := by decide +kernel
theorem dX8_rainOf_16 : decode cX8_rainOf 16 = .ok (.aload_n 0, 1) := by decide +kernel
theorem dX8_rainOf_17 : decode cX8_rainOf 17 = .ok (.getfield 147, 3) := by decide +kernel
theorem dX8_rainOf_20 : decode cX8_rainOf 20 = .ok (.irem, 1) := by decide +kernel
theorem dX8_rainOf_21 : decode cX8_rainOf 21 = .ok (.iaload, 1) := by decide +kernel
theorem dX8_rainOf_22 : decode cX8_rainOf 22 = .ok (.ireturn, 1) := by decide +kernel
theorem dX8_dampBy_0 : decode cX8_dampBy 0 = .ok (.iload_n 1, 1) := by decide +kernel
theorem dX8_dampBy_1 : decode cX8_dampBy 1 = .ok (.bipush 12, 2) := by decide +kernel
theorem dX8_dampBy_3 : decode cX8_dampBy 3 = .ok (.irem, 1) := by decide +kernel
theorem dX8_dampBy_4 : decode cX8_dampBy 4 = .ok (.aload_n 0, 1) := by decide +kernel
theorem dX8_dampBy_5 : decode cX8_dampBy 5 = .ok (.getfield 17, 3) := by decide +kernel
theorem dX8_dampBy_8 : decode cX8_dampBy 8 = .ok (.iconst 2, 1) := by decide +kernel
theorem dX8_dampBy_9 : decode cX8_dampBy 9 = .ok (.iaload, 1) := by decide +kernel
theorem dX8_dampBy_10 : decode cX8_dampBy 10 = .ok (.isub, 1) := by decide +kernel
theorem dX8_dampBy_11 : decode cX8_dampBy 11 = .ok (.iconst 1, 1) := by decide +kernel
theorem dX8_dampBy_12 : decode cX8_dampBy 12 = .ok (.iadd, 1) := by decide +kernel
theorem dX8_dampBy_13 : decode cX8_dampBy 13 = .ok (.istore_n 3, 1) := by decide +kernel
theorem dX8_dampBy_14 : decode cX8_dampBy 14 = .ok (.aload_n 0, 1) := by decide +kernel
theorem dX8_dampBy_15 : decode cX8_dampBy 15 = .ok (.getfield 17, 3) := by decide +kernel
theorem dX8_dampBy_18 : decode cX8_dampBy 18 = .ok (.iconst 1, 1) := by decide +kernel
theorem dX8_dampBy_19 : decode cX8_dampBy 19 = .ok (.iaload, 1) := by decide +kernel
theorem dX8_dampBy_20 : decode cX8_dampBy 20 = .ok (.iload_n 2, 1) := by decide +kernel
theorem dX8_dampBy_21 : decode cX8_dampBy 21 = .ok (.iadd, 1) := by decide +kernel
theorem dX8_dampBy_22 : decode cX8_dampBy 22 = .ok (.iload_n 3, 1) := by decide +kernel
theorem dX8_dampBy_23 : decode cX8_dampBy 23 = .ok (.ifCond .le 7, 3) := by decide +kernel
theorem dX8_dampBy_26 : decode cX8_dampBy 26 = .ok (.iload_n 3, 1) := by decide +kernel
theorem dX8_dampBy_27 : decode cX8_dampBy 27 = .ok (.goto 4, 3) := by decide +kernel
theorem dX8_dampBy_30 : decode cX8_dampBy 30 = .ok (.iconst 0, 1) := by decide +kernel
theorem dX8_dampBy_31 : decode cX8_dampBy 31 = .ok (.iadd, 1) := by decide +kernel
theorem dX8_dampBy_32 : decode cX8_dampBy 32 = .ok (.istore 4, 2) := by decide +kernel
theorem dX8_dampBy_34 : decode cX8_dampBy 34 = .ok (.iload 4, 2) := by decide +kernel
theorem dX8_dampBy_36 : decode cX8_dampBy 36 = .ok (.bipush 19, 2) := by decide +kernel
theorem dX8_dampBy_38 : decode cX8_dampBy 38 = .ok (.if_icmp .le 8, 3) := by decide +kernel
theorem dX8_dampBy_41 : decode cX8_dampBy 41 = .ok (.bipush 19, 2) := by decide +kernel
theorem dX8_dampBy_43 : decode cX8_dampBy 43 = .ok (.goto 5, 3) := by decide +kernel
theorem dX8_dampBy_46 : decode cX8_dampBy 46 = .ok (.iload 4, 2) := by decide +kernel
theorem dX8_dampBy_48 : decode cX8_dampBy 48 = .ok (.ireturn, 1) := by decide +kernel
theorem dX8_lightAt_0 : decode cX8_lightAt 0 = .ok (.iload_n 1, 1) := by decide +kernel
theorem dX8_lightAt_1 : decode cX8_lightAt 1 = .ok (.bipush 12, 2) := by decide +kernel
theorem dX8_lightAt_3 : decode cX8_lightAt 3 = .ok (.irem, 1) := by decide +kernel
theorem dX8_lightAt_4 : decode cX8_lightAt 4 = .ok (.aload_n 0, 1) := by decide +kernel
theorem dX8_lightAt_5 : decode cX8_lightAt 5 = .ok (.getfield 17, 3) := by decide +kernel
theorem dX8_lightAt_8 : decode cX8_lightAt 8 = .ok (.iconst 2, 1) := by decide +kernel
theorem dX8_lightAt_9 : decode cX8_lightAt 9 = .ok (.iaload, 1) := by decide +kernel
theorem dX8_lightAt_10 : decode cX8_lightAt 10 = .ok (.if_icmp .ge 7, 3) := by decide +kernel
theorem dX8_lightAt_13 : decode cX8_lightAt 13 = .ok (.iconst 1, 1) := by decide +kernel
theorem dX8_lightAt_14 : decode cX8_lightAt 14 = .ok (.goto 4, 3) := by decide +kernel
theorem dX8_lightAt_17 : decode cX8_lightAt 17 = .ok (.iconst 0, 1) := by decide +kernel
theorem dX8_lightAt_18 : decode cX8_lightAt 18 = .ok (.invokestatic 172, 3) := by decide +kernel
theorem dX8_lightAt_21 : decode cX8_lightAt 21 = .ok (.ireturn, 1) := by decide +kernel
theorem dX8_weather_0 : decode cX8_weather 0 = .ok (.iload_n 1, 1) := by decide +kernel
theorem dX8_weather_1 : decode cX8_weather 1 = .ok (.invokestatic 179, 3) := by decide +kernel
theorem dX8_weather_4 : decode cX8_weather 4 = .ok (.ifCond .eq 15, 3) := by decide +kernel
theorem dX8_weather_7 : decode cX8_weather 7 = .ok (.iload_n 2, 1) := by decide +kernel
theorem dX8_weather_8 : decode cX8_weather 8 = .ok (.i2l, 1) := by decide +kernel
theorem dX8_weather_9 : decode cX8_weather 9 = .ok (.lconst 0, 1) := by decide +kernel
theorem dX8_weather_10 : decode cX8_weather 10 = .ok (.ldc2_w 182, 3) := by decide +kernel
theorem dX8_weather_13 : decode cX8_weather 13 = .ok (.invokestatic 71, 3) := by decide +kernel
theorem dX8_weather_16 : decode cX8_weather 16 = .ok (.ifCond .ne 6, 3) := by decide +kernel
theorem dX8_weather_19 : decode cX8_weather 19 = .ok (.ldc 75, 2) := by decide +kernel
theorem dX8_weather_21 : decode cX8_weather 21 = .ok (.ireturn, 1) := by decide +kernel
theorem dX8_weather_22 : decode cX8_weather 22 = .ok (.aload_n 0, 1) := by decide +kernel
theorem dX8_weather_23 : decode cX8_weather 23 = .ok (.getfield 144, 3) := by decide +kernel
theorem dX8_weather_26 : decode cX8_weather 26 = .ok (.ifCond .ne 6, 3) := by decide +kernel
theorem dX8_weather_29 : decode cX8_weather 29 = .ok (.ldc 184, 2) := by decide +kernel
theorem dX8_weather_31 : decode cX8_weather 31 = .ok (.ireturn, 1) := by decide +kernel
theorem dX8_weather_32 : decode cX8_weather 32 = .ok (.iload_n 2, 1) := by decide +kernel
theorem dX8_weather_33 : decode cX8_weather 33 = .ok (.ifCond .ne 17, 3) := by decide +kernel
theorem dX8_weather_36 : decode cX8_weather 36 = .ok (.aload_n 0, 1) := by decide +kernel
theorem dX8_weather_37 : decode cX8_weather 37 = .ok (.getfield 17, 3) := by decide +kernel
theorem dX8_weather_40 : decode cX8_weather 40 = .ok (.iconst 0, 1) := by decide +kernel
theorem dX8_weather_41 : decode cX8_weather 41 = .ok (.iaload, 1) := by decide +kernel
theorem dX8_weather_42 : decode cX8_weather 42 = .ok (.iload_n 1, 1) := by decide +kernel
theorem dX8_weather_43 : decode cX8_weather 43 = .ok (.imul, 1) := by decide +kernel
theorem dX8_weather_44 : decode cX8_weather 44 = .ok (.bipush 8, 2) := by decide +kernel
theorem dX8_weather_46 : decode cX8_weather 46 = .ok (.irem, 1) := by decide +kernel
theorem dX8_weather_47 : decode cX8_weather 47 = .ok (.goto 29, 3) := by decide +kernel
theorem dX8_weather_50 : decode cX8_weather 50 = .ok (.iload_n 2, 1) := by decide +kernel
theorem dX8_weather_51 : decode cX8_weather 51 = .ok (.iconst 1, 1) := by decide +kernel
theorem dX8_weather_52 : decode cX8_weather 52 = .ok (.if_icmp .ne 19, 3) := by decide +kernel
theorem dX8_weather_55 : decode cX8_weather 55 = .ok (.aload_n 0, 1) := by decide +kernel
theorem dX8_weather_56 : decode cX8_weather 56 = .ok (.iload_n 1, 1) := by decide +kernel
theorem dX8_weather_57 : decode cX8_weather 57 = .ok (.aload_n 0, 1) := by decide +kernel
theorem dX8_weather_58 : decode cX8_weather 58 = .ok (.iload_n 1, 1) := by decide +kernel
theorem dX8_weather_59 : decode cX8_weather 59 = .ok (.bipush 12, 2) := by decide +kernel
theorem dX8_weather_61 : decode cX8_weather 61 = .ok (.idiv, 1) := by decide +kernel
theorem dX8_weather_62 : decode cX8_weather 62 = .ok (.invokevirtual 185, 3) := by decide +kernel
theorem dX8_weather_65 : decode cX8_weather 65 = .ok (.invokevirtual 189, 3) := by decide +kernel
theorem dX8_weather_68 : decode cX8_weather 68 = .ok (.goto 8, 3) := by decide +kernel
theorem dX8_weather_71 : decode cX8_weather 71 = .ok (.aload_n 0, 1) := by decide +kernel
theorem dX8_weather_72 : decode cX8_weather 72 = .ok (.iload_n 1, 1) := by decide +kernel
theorem dX8_weather_73 : decode cX8_weather 73 = .ok (.invokevirtual 192, 3) := by decide +kernel
theorem dX8_weather_76 : decode cX8_weather 76 = .ok (.ireturn, 1) := by decide +kernel
theorem dX8_hand_0 : decode cX8_hand 0 = .ok (.aload_n 0, 1) := by decide +kernel
theorem dX8_hand_1 : decode cX8_hand 1 = .ok (.iload_n 1, 1) := by decide +kernel
theorem dX8_hand_2 : decode cX8_hand 2 = .ok (.invokevirtual 195, 3) := by decide +kernel
theorem dX8_hand_5 : decode cX8_hand 5 = .ok (.ifCond .ne 6, 3) := by decide +kernel
theorem dX8_hand_8 : decode cX8_hand 8 = .ok (.ldc 198, 2) := by decide +kernel
theorem dX8_hand_10 : decode cX8_hand 10 = .ok (.ireturn, 1) := by decide +kernel
theorem dX8_hand_11 : decode cX8_hand 11 = .ok (.iload_n 2, 1) := by decide +kernel
theorem dX8_hand_12 : decode cX8_hand 12 = .ok (.ifCond .ne 12, 3) := by decide +kernel
theorem dX8_hand_15 : decode cX8_hand 15 = .ok (.aload_n 0, 1) := by decide +kernel
theorem dX8_hand_16 : decode cX8_hand 16 = .ok (.getfield 23, 3) := by decide +kernel
theorem dX8_hand_19 : decode cX8_hand 19 = .ok (.iload_n 1, 1) := by decide +kernel
theorem dX8_hand_20 : decode cX8_hand 20 = .ok (.iaload, 1) := by decide +kernel
theorem dX8_hand_21 : decode cX8_hand 21 = .ok (.goto 33, 3) := by decide +kernel
theorem dX8_hand_24 : decode cX8_hand 24 = .ok (.iload_n 2, 1) := by decide +kernel
theorem dX8_hand_25 : decode cX8_hand 25 = .ok (.iconst 1, 1) := by decide +kernel
theorem dX8_hand_26 : decode cX8_hand 26 = .ok (.if_icmp .ne 12, 3) := by decide +kernel
theorem dX8_hand_29 : decode cX8_hand 29 = .ok (.aload_n 0, 1) := by decide +kernel
theorem dX8_hand_30 : decode cX8_hand 30 = .ok (.getfield 26, 3) := by decide +kernel
theorem dX8_hand_33 : decode cX8_hand 33 = .ok (.iload_n 1, 1) := by decide +kernel
theorem dX8_hand_34 : decode cX8_hand 34 = .ok (.iaload, 1) := by decide +kernel
theorem dX8_hand_35 : decode cX8_hand 35 = .ok (.goto 19, 3) := by decide +kernel
theorem dX8_hand_38 : decode cX8_hand 38 = .ok (.iload_n 2, 1) := by decide +kernel
theorem dX8_hand_39 : decode cX8_hand 39 = .ok (.iconst 2, 1) := by decide +kernel
theorem dX8_hand_40 : decode cX8_hand 40 = .ok (.if_icmp .ne 12, 3) := by decide +kernel
theorem dX8_hand_43 : decode cX8_hand 43 = .ok (.aload_n 0, 1) := by decide +kernel
theorem dX8_hand_44 : decode cX8_hand 44 = .ok (.getfield 29, 3) := by decide +kernel
theorem dX8_hand_47 : decode cX8_hand 47 = .ok (.iload_n 1, 1) := by decide +kernel
theorem dX8_hand_48 : decode cX8_hand 48 = .ok (.iaload, 1) := by decide +kernel
theorem dX8_hand_49 : decode cX8_hand 49 = .ok (.goto 5, 3) := by decide +kernel
theorem dX8_hand_52 : decode cX8_hand 52 = .ok (.ldc 75, 2) := by decide +kernel
theorem dX8_hand_54 : decode cX8_hand 54 = .ok (.ireturn, 1) := by decide +kernel
theorem dX8_lookBy_0 : decode cX8_lookBy 0 = .ok (.aload_n 0, 1) := by decide +kernel
theorem dX8_lookBy_1 : decode cX8_lookBy 1 = .ok (.getfield 23, 3) := by decide +kernel
theorem dX8_lookBy_4 : decode cX8_lookBy 4 = .ok (.iload_n 1, 1) := by decide +kernel
theorem dX8_lookBy_5 : decode cX8_lookBy 5 = .ok (.iaload, 1) := by decide +kernel
theorem dX8_lookBy_6 : decode cX8_lookBy 6 = .ok (.aload_n 0, 1) := by decide +kernel
theorem dX8_lookBy_7 : decode cX8_lookBy 7 = .ok (.getfield 17, 3) := by decide +kernel
theorem dX8_lookBy_10 : decode cX8_lookBy 10 = .ok (.iconst 0, 1) := by decide +kernel
theorem dX8_lookBy_11 : decode cX8_lookBy 11 = .ok (.iaload, 1) := by decide +kernel
theorem dX8_lookBy_12 : decode cX8_lookBy 12 = .ok (.iload_n 2, 1) := by decide +kernel
theorem dX8_lookBy_13 : decode cX8_lookBy 13 = .ok (.imul, 1) := by decide +kernel
theorem dX8_lookBy_14 : decode cX8_lookBy 14 = .ok (.bipush 8, 2) := by decide +kernel
theorem dX8_lookBy_16 : decode cX8_lookBy 16 = .ok (.irem, 1) := by decide +kernel
theorem dX8_lookBy_17 : decode cX8_lookBy 17 = .ok (.iadd, 1) := by decide +kernel
theorem dX8_lookBy_18 : decode cX8_lookBy 18 = .ok (.bipush 9, 2) := by decide +kernel
theorem dX8_lookBy_20 : decode cX8_lookBy 20 = .ok (.irem, 1) := by decide +kernel
theorem dX8_lookBy_21 : decode cX8_lookBy 21 = .ok (.istore 4, 2) := by decide +kernel
theorem dX8_lookBy_23 : decode cX8_lookBy 23 = .ok (.aload_n 0, 1) := by decide +kernel
theorem dX8_lookBy_24 : decode cX8_lookBy 24 = .ok (.getfield 26, 3) := by decide +kernel
theorem dX8_lookBy_27 : decode cX8_lookBy 27 = .ok (.iload_n 1, 1) := by decide +kernel
theorem dX8_lookBy_28 : decode cX8_lookBy 28 = .ok (.iaload, 1) := by decide +kernel
theorem dX8_lookBy_29 : decode cX8_lookBy 29 = .ok (.aload_n 0, 1) := by decide +kernel
theorem dX8_lookBy_30 : decode cX8_lookBy 30 = .ok (.iload_n 2, 1) := by decide +kernel
theorem dX8_lookBy_31 : decode cX8_lookBy 31 = .ok (.iload_n 3, 1) := by decide +kernel
theorem dX8_lookBy_32 : decode cX8_lookBy 32 = .ok (.invokevirtual 189, 3) := by decide +kernel
theorem dX8_lookBy_35 : decode cX8_lookBy 35 = .ok (.iconst 2, 1) := by decide +kernel
theorem dX8_lookBy_36 : decode cX8_lookBy 36 = .ok (.idiv, 1) := by decide +kernel
theorem dX8_lookBy_37 : decode cX8_lookBy 37 = .ok (.iadd, 1) := by decide +kernel
theorem dX8_lookBy_38 : decode cX8_lookBy 38 = .ok (.istore 5, 2) := by decide +kernel
theorem dX8_lookBy_40 : decode cX8_lookBy 40 = .ok (.aload_n 0, 1) := by decide +kernel
theorem dX8_lookBy_41 : decode cX8_lookBy 41 = .ok (.getfield 29, 3) := by decide +kernel
theorem dX8_lookBy_44 : decode cX8_lookBy 44 = .ok (.iload_n 1, 1) := by decide +kernel
theorem dX8_lookBy_45 : decode cX8_lookBy 45 = .ok (.iaload, 1) := by decide +kernel
theorem dX8_lookBy_46 : decode cX8_lookBy 46 = .ok (.aload_n 0, 1) := by decide +kernel
theorem dX8_lookBy_47 : decode cX8_lookBy 47 = .ok (.iload_n 2, 1) := by decide +kernel
theorem dX8_lookBy_48 : decode cX8_lookBy 48 = .ok (.invokevirtual 192, 3) := by decide +kernel
theorem dX8_lookBy_51 : decode cX8_lookBy 51 = .ok (.iconst 1, 1) := by decide +kernel
theorem dX8_lookBy_52 : decode cX8_lookBy 52 = .ok (.if_icmp .ne 7, 3) := by decide +kernel
theorem dX8_lookBy_55 : decode cX8_lookBy 55 = .ok (.iconst 0, 1) := by decide +kernel
theorem dX8_lookBy_56 : decode cX8_lookBy 56 = .ok (.goto 4, 3) := by decide +kernel
theorem dX8_lookBy_59 : decode cX8_lookBy 59 = .ok (.iconst 2, 1) := by decide +kernel
theorem dX8_lookBy_60 : decode cX8_lookBy 60 = .ok (.iadd, 1) := by decide +kernel
theorem dX8_lookBy_61 : decode cX8_lookBy 61 = .ok (.istore 6, 2) := by decide +kernel
theorem dX8_lookBy_63 : decode cX8_lookBy 63 = .ok (.sipush 1000, 3) := by decide +kernel
theorem dX8_lookBy_66 : decode cX8_lookBy 66 = .ok (.iload 4, 2) := by decide +kernel
theorem dX8_lookBy_68 : decode cX8_lookBy 68 = .ok (.imul, 1) := by decide +kernel
theorem dX8_lookBy_69 : decode cX8_lookBy 69 = .ok (.bipush 10, 2) := by decide +kernel
theorem dX8_lookBy_71 : decode cX8_lookBy 71 = .ok (.iload 5, 2) := by decide +kernel
theorem dX8_lookBy_73 : decode cX8_lookBy 73 = .ok (.bipush 15, 2) := by decide +kernel
theorem dX8_lookBy_75 : decode cX8_lookBy 75 = .ok (.if_icmp .le 8, 3) := by decide +kernel
theorem dX8_lookBy_78 : decode cX8_lookBy 78 = .ok (.bipush 15, 2) := by decide +kernel
theorem dX8_lookBy_80 : decode cX8_lookBy 80 = .ok (.goto 5, 3) := by decide +kernel
theorem dX8_lookBy_83 : decode cX8_lookBy 83 = .ok (.iload 5, 2) := by decide +kernel
theorem dX8_lookBy_85 : decode cX8_lookBy 85 = .ok (.imul, 1) := by decide +kernel
theorem dX8_lookBy_86 : decode cX8_lookBy 86 = .ok (.iadd, 1) := by decide +kernel
theorem dX8_lookBy_87 : decode cX8_lookBy 87 = .ok (.iload 6, 2) := by decide +kernel
theorem dX8_lookBy_89 : decode cX8_lookBy 89 = .ok (.bipush 9, 2) := by decide +kernel
theorem dX8_lookBy_91 : decode cX8_lookBy 91 = .ok (.if_icmp .le 8, 3) := by decide +kernel
theorem dX8_lookBy_94 : decode cX8_lookBy 94 = .ok (.bipush 9, 2) := by decide +kernel
theorem dX8_lookBy_96 : decode cX8_lookBy 96 = .ok (.goto 5, 3) := by decide +kernel
theorem dX8_lookBy_99 : decode cX8_lookBy 99 = .ok (.iload 6, 2) := by decide +kernel
theorem dX8_lookBy_101 : decode cX8_lookBy 101 = .ok (.iadd, 1) := by decide +kernel
theorem dX8_lookBy_102 : decode cX8_lookBy 102 = .ok (.ireturn, 1) := by decide +kernel
theorem dX8_lookAt_0 : decode cX8_lookAt 0 = .ok (.aload_n 0, 1) := by decide +kernel
theorem dX8_lookAt_1 : decode cX8_lookAt 1 = .ok (.iload_n 1, 1) := by decide +kernel
theorem dX8_lookAt_2 : decode cX8_lookAt 2 = .ok (.iload_n 2, 1) := by decide +kernel
theorem dX8_lookAt_3 : decode cX8_lookAt 3 = .ok (.aload_n 0, 1) := by decide +kernel
theorem dX8_lookAt_4 : decode cX8_lookAt 4 = .ok (.iload_n 2, 1) := by decide +kernel
theorem dX8_lookAt_5 : decode cX8_lookAt 5 = .ok (.bipush 12, 2) := by decide +kernel
theorem dX8_lookAt_7 : decode cX8_lookAt 7 = .ok (.idiv, 1) := by decide +kernel
theorem dX8_lookAt_8 : decode cX8_lookAt 8 = .ok (.invokevirtual 185, 3) := by decide +kernel
theorem dX8_lookAt_11 : decode cX8_lookAt 11 = .ok (.invokevirtual 199, 3) := by decide +kernel
theorem dX8_lookAt_14 : decode cX8_lookAt 14 = .ok (.ireturn, 1) := by decide +kernel
theorem dX8_hourOf_0 : decode cX8_hourOf 0 = .ok (.aload_n 0, 1) := by decide +kernel
theorem dX8_hourOf_1 : decode cX8_hourOf 1 = .ok (.getfield 7, 3) := by decide +kernel
theorem dX8_hourOf_4 : decode cX8_hourOf 4 = .ok (.bipush 12, 2) := by decide +kernel
theorem dX8_hourOf_6 : decode cX8_hourOf 6 = .ok (.iload_n 1, 1) := by decide +kernel
theorem dX8_hourOf_7 : decode cX8_hourOf 7 = .ok (.imul, 1) := by decide +kernel
theorem dX8_hourOf_8 : decode cX8_hourOf 8 = .ok (.iload_n 2, 1) := by decide +kernel
theorem dX8_hourOf_9 : decode cX8_hourOf 9 = .ok (.iadd, 1) := by decide +kernel
theorem dX8_hourOf_10 : decode cX8_hourOf 10 = .ok (.iaload, 1) := by decide +kernel
theorem dX8_hourOf_11 : decode cX8_hourOf 11 = .ok (.bipush 96, 2) := by decide +kernel
theorem dX8_hourOf_13 : decode cX8_hourOf 13 = .ok (.irem, 1) := by decide +kernel
theorem dX8_hourOf_14 : decode cX8_hourOf 14 = .ok (.ireturn, 1) := by decide +kernel
theorem dX8_handOf_0 : decode cX8_handOf 0 = .ok (.aload_n 0, 1) := by decide +kernel
theorem dX8_handOf_1 : decode cX8_handOf 1 = .ok (.getfield 7, 3) := by decide +kernel
theorem dX8_handOf_4 : decode cX8_handOf 4 = .ok (.bipush 12, 2) := by decide +kernel
theorem dX8_handOf_6 : decode cX8_handOf 6 = .ok (.iload_n 1, 1) := by decide +kernel
theorem dX8_handOf_7 : decode cX8_handOf 7 = .ok (.imul, 1) := by decide +kernel
theorem dX8_handOf_8 : decode cX8_handOf 8 = .ok (.iload_n 2, 1) := by decide +kernel
theorem dX8_handOf_9 : decode cX8_handOf 9 = .ok (.iadd, 1) := by decide +kernel
theorem dX8_handOf_10 : decode cX8_handOf 10 = .ok (.iaload, 1) := by decide +kernel
theorem dX8_handOf_11 : decode cX8_handOf 11 = .ok (.bipush 96, 2) := by decide +kernel
theorem dX8_handOf_13 : decode cX8_handOf 13 = .ok (.idiv, 1) := by decide +kernel
theorem dX8_handOf_14 : decode cX8_handOf 14 = .ok (.iconst 4, 1) := by decide +kernel
theorem dX8_handOf_15 : decode cX8_handOf 15 = .ok (.irem, 1) := by decide +kernel
theorem dX8_handOf_16 : decode cX8_handOf 16 = .ok (.ireturn, 1) := by decide +kernel
theorem dX8_airOf_0 : decode cX8_airOf 0 = .ok (.aload_n 0, 1) := by decide +kernel
theorem dX8_airOf_1 : decode cX8_airOf 1 = .ok (.getfield 7, 3) := by decide +kernel
theorem dX8_airOf_4 : decode cX8_airOf 4 = .ok (.bipush 12, 2) := by decide +kernel
theorem dX8_airOf_6 : decode cX8_airOf 6 = .ok (.iload_n 1, 1) := by decide +kernel
theorem dX8_airOf_7 : decode cX8_airOf 7 = .ok (.imul, 1) := by decide +kernel
theorem dX8_airOf_8 : decode cX8_airOf 8 = .ok (.iload_n 2, 1) := by decide +kernel
theorem dX8_airOf_9 : decode cX8_airOf 9 = .ok (.iadd, 1) := by decide +kernel
theorem dX8_airOf_10 : decode cX8_airOf 10 = .ok (.iaload, 1) := by decide +kernel
theorem dX8_airOf_11 : decode cX8_airOf 11 = .ok (.sipush 384, 3) := by decide +kernel
theorem dX8_airOf_14 : decode cX8_airOf 14 = .ok (.idiv, 1) := by decide +kernel
theorem dX8_airOf_15 : decode cX8_airOf 15 = .ok (.iconst 1, 1) := by decide +kernel
theorem dX8_airOf_16 : decode cX8_airOf 16 = .ok (.isub, 1) := by decide +kernel
theorem dX8_airOf_17 : decode cX8_airOf 17 = .ok (.ireturn, 1) := by decide +kernel
theorem dX8_lookOf_0 : decode cX8_lookOf 0 = .ok (.aload_n 0, 1) := by decide +kernel
theorem dX8_lookOf_1 : decode cX8_lookOf 1 = .ok (.iload_n 1, 1) := by decide +kernel
theorem dX8_lookOf_2 : decode cX8_lookOf 2 = .ok (.iload_n 2, 1) := by decide +kernel
theorem dX8_lookOf_3 : decode cX8_lookOf 3 = .ok (.invokevirtual 203, 3) := by decide +kernel
theorem dX8_lookOf_6 : decode cX8_lookOf 6 = .ok (.istore_n 3, 1) := by decide +kernel
theorem dX8_lookOf_7 : decode cX8_lookOf 7 = .ok (.aload_n 0, 1) := by decide +kernel
theorem dX8_lookOf_8 : decode cX8_lookOf 8 = .ok (.aload_n 0, 1) := by decide +kernel
theorem dX8_lookOf_9 : decode cX8_lookOf 9 = .ok (.iload_n 1, 1) := by decide +kernel
theorem dX8_lookOf_10 : decode cX8_lookOf 10 = .ok (.iload_n 2, 1) := by decide +kernel
theorem dX8_lookOf_11 : decode cX8_lookOf 11 = .ok (.invokevirtual 206, 3) := by decide +kernel
theorem dX8_lookOf_14 : decode cX8_lookOf 14 = .ok (.iload_n 3, 1) := by decide +kernel
theorem dX8_lookOf_15 : decode cX8_lookOf 15 = .ok (.ifCond .ge 12, 3) := by decide +kernel
theorem dX8_lookOf_18 : decode cX8_lookOf 18 = .ok (.aload_n 0, 1) := by decide +kernel
theorem dX8_lookOf_19 : decode cX8_lookOf 19 = .ok (.iload_n 1, 1) := by decide +kernel
theorem dX8_lookOf_20 : decode cX8_lookOf 20 = .ok (.iload_n 2, 1) := by decide +kernel
theorem dX8_lookOf_21 : decode cX8_lookOf 21 = .ok (.invokevirtual 209, 3) := by decide +kernel
theorem dX8_lookOf_24 : decode cX8_lookOf 24 = .ok (.goto 4, 3) := by decide +kernel
theorem dX8_lookOf_27 : decode cX8_lookOf 27 = .ok (.iload_n 3, 1) := by decide +kernel
theorem dX8_lookOf_28 : decode cX8_lookOf 28 = .ok (.invokevirtual 212, 3) := by decide +kernel
theorem dX8_lookOf_31 : decode cX8_lookOf 31 = .ok (.ireturn, 1) := by decide +kernel
theorem dX8_forgedIn_0 : decode cX8_forgedIn 0 = .ok (.iconst 0, 1) := by decide +kernel
theorem dX8_forgedIn_1 : decode cX8_forgedIn 1 = .ok (.istore_n 2, 1) := by decide +kernel
theorem dX8_forgedIn_2 : decode cX8_forgedIn 2 = .ok (.iconst 0, 1) := by decide +kernel
theorem dX8_forgedIn_3 : decode cX8_forgedIn 3 = .ok (.istore_n 3, 1) := by decide +kernel
theorem dX8_forgedIn_4 : decode cX8_forgedIn 4 = .ok (.iload_n 3, 1) := by decide +kernel
theorem dX8_forgedIn_5 : decode cX8_forgedIn 5 = .ok (.aload_n 0, 1) := by decide +kernel
theorem dX8_forgedIn_6 : decode cX8_forgedIn 6 = .ok (.getfield 7, 3) := by decide +kernel
theorem dX8_forgedIn_9 : decode cX8_forgedIn 9 = .ok (.bipush 48, 2) := by decide +kernel
theorem dX8_forgedIn_11 : decode cX8_forgedIn 11 = .ok (.iload_n 1, 1) := by decide +kernel
theorem dX8_forgedIn_12 : decode cX8_forgedIn 12 = .ok (.iadd, 1) := by decide +kernel
theorem dX8_forgedIn_13 : decode cX8_forgedIn 13 = .ok (.iaload, 1) := by decide +kernel
theorem dX8_forgedIn_14 : decode cX8_forgedIn 14 = .ok (.if_icmp .ge 29, 3) := by decide +kernel
theorem dX8_forgedIn_17 : decode cX8_forgedIn 17 = .ok (.iload_n 2, 1) := by decide +kernel
theorem dX8_forgedIn_18 : decode cX8_forgedIn 18 = .ok (.aload_n 0, 1) := by decide +kernel
theorem dX8_forgedIn_19 : decode cX8_forgedIn 19 = .ok (.iload_n 1, 1) := by decide +kernel
theorem dX8_forgedIn_20 : decode cX8_forgedIn 20 = .ok (.iload_n 3, 1) := by decide +kernel
theorem dX8_forgedIn_21 : decode cX8_forgedIn 21 = .ok (.invokevirtual 203, 3) := by decide +kernel
theorem dX8_forgedIn_24 : decode cX8_forgedIn 24 = .ok (.ifCond .lt 7, 3) := by decide +kernel
theorem dX8_forgedIn_27 : decode cX8_forgedIn 27 = .ok (.iconst 1, 1) := by decide +kernel
theorem dX8_forgedIn_28 : decode cX8_forgedIn 28 = .ok (.goto 4, 3) := by decide +kernel
theorem dX8_forgedIn_31 : decode cX8_forgedIn 31 = .ok (.iconst 0, 1) := by decide +kernel
theorem dX8_forgedIn_32 : decode cX8_forgedIn 32 = .ok (.invokestatic 172, 3) := by decide +kernel
theorem dX8_forgedIn_35 : decode cX8_forgedIn 35 = .ok (.iadd, 1) := by decide +kernel
theorem dX8_forgedIn_36 : decode cX8_forgedIn 36 = .ok (.istore_n 2, 1) := by decide +kernel
theorem dX8_forgedIn_37 : decode cX8_forgedIn 37 = .ok (.iinc 3 1, 3) := by decide +kernel
theorem dX8_forgedIn_40 : decode cX8_forgedIn 40 = .ok (.goto (-36), 3) := by decide +kernel
theorem dX8_forgedIn_43 : decode cX8_forgedIn 43 = .ok (.iload_n 2, 1) := by decide +kernel
theorem dX8_forgedIn_44 : decode cX8_forgedIn 44 = .ok (.ireturn, 1) := by decide +kernel
theorem dX8_letter_0 : decode cX8_letter 0 = .ok (.aload_n 0, 1) := by decide +kernel
theorem dX8_letter_1 : decode cX8_letter 1 = .ok (.iload_n 1, 1) := by decide +kernel
theorem dX8_letter_2 : decode cX8_letter 2 = .ok (.invokevirtual 166, 3) := by decide +kernel
theorem dX8_letter_5 : decode cX8_letter 5 = .ok (.ifCond .eq 17, 3) := by decide +kernel
theorem dX8_letter_8 : decode cX8_letter 8 = .ok (.iload_n 2, 1) := by decide +kernel
theorem dX8_letter_9 : decode cX8_letter 9 = .ok (.iconst (-1), 1) := by decide +kernel
theorem dX8_letter_10 : decode cX8_letter 10 = .ok (.if_icmp .eq 15, 3) := by decide +kernel
theorem dX8_letter_13 : decode cX8_letter 13 = .ok (.aload_n 0, 1) := by decide +kernel
theorem dX8_letter_14 : decode cX8_letter 14 = .ok (.iload_n 1, 1) := by decide +kernel
theorem dX8_letter_15 : decode cX8_letter 15 = .ok (.iload_n 2, 1) := by decide +kernel
theorem dX8_letter_16 : decode cX8_letter 16 = .ok (.invokevirtual 215, 3) := by decide +kernel
theorem dX8_letter_19 : decode cX8_letter 19 = .ok (.ifCond .ne 6, 3) := by decide +kernel
theorem dX8_letter_22 : decode cX8_letter 22 = .ok (.ldc 198, 2) := by decide +kernel
theorem dX8_letter_24 : decode cX8_letter 24 = .ok (.ireturn, 1) := by decide +kernel
theorem dX8_letter_25 : decode cX8_letter 25 = .ok (.iload_n 2, 1) := by decide +kernel
theorem dX8_letter_26 : decode cX8_letter 26 = .ok (.iconst (-1), 1) := by decide +kernel
theorem dX8_letter_27 : decode cX8_letter 27 = .ok (.if_icmp .ne 35, 3) := by decide +kernel
theorem dX8_letter_30 : decode cX8_letter 30 = .ok (.iload_n 3, 1) := by decide +kernel
theorem dX8_letter_31 : decode cX8_letter 31 = .ok (.ifCond .ne 15, 3) := by decide +kernel
theorem dX8_letter_34 : decode cX8_letter 34 = .ok (.aload_n 0, 1) := by decide +kernel
theorem dX8_letter_35 : decode cX8_letter 35 = .ok (.getfield 7, 3) := by decide +kernel
theorem dX8_letter_38 : decode cX8_letter 38 = .ok (.bipush 48, 2) := by decide +kernel
theorem dX8_letter_40 : decode cX8_letter 40 = .ok (.iload_n 1, 1) := by decide +kernel
theorem dX8_letter_41 : decode cX8_letter 41 = .ok (.iadd, 1) := by decide +kernel
theorem dX8_letter_42 : decode cX8_letter 42 = .ok (.iaload, 1) := by decide +kernel
theorem dX8_letter_43 : decode cX8_letter 43 = .ok (.goto 18, 3) := by decide +kernel
theorem dX8_letter_46 : decode cX8_letter 46 = .ok (.iload_n 3, 1) := by decide +kernel
theorem dX8_letter_47 : decode cX8_letter 47 = .ok (.iconst 1, 1) := by decide +kernel
theorem dX8_letter_48 : decode cX8_letter 48 = .ok (.if_icmp .ne 11, 3) := by decide +kernel
theorem dX8_letter_51 : decode cX8_letter 51 = .ok (.aload_n 0, 1) := by decide +kernel
theorem dX8_letter_52 : decode cX8_letter 52 = .ok (.iload_n 1, 1) := by decide +kernel
theorem dX8_letter_53 : decode cX8_letter 53 = .ok (.invokevirtual 219, 3) := by decide +kernel
theorem dX8_letter_56 : decode cX8_letter 56 = .ok (.goto 5, 3) := by decide +kernel
theorem dX8_letter_59 : decode cX8_letter 59 = .ok (.ldc 75, 2) := by decide +kernel
theorem dX8_letter_61 : decode cX8_letter 61 = .ok (.ireturn, 1) := by decide +kernel
theorem dX8_letter_62 : decode cX8_letter 62 = .ok (.iload_n 3, 1) := by decide +kernel
theorem dX8_letter_63 : decode cX8_letter 63 = .ok (.tableswitch 83 0 4 #[33, 40, 47, 54, 65], 33) := by decide +kernel
theorem dX8_letter_96 : decode cX8_letter 96 = .ok (.aload_n 0, 1) := by decide +kernel
theorem dX8_letter_97 : decode cX8_letter 97 = .ok (.iload_n 1, 1) := by decide +kernel
theorem dX8_letter_98 : decode cX8_letter 98 = .ok (.iload_n 2, 1) := by decide +kernel
theorem dX8_letter_99 : decode cX8_letter 99 = .ok (.invokevirtual 222, 3) := by decide +kernel
theorem dX8_letter_102 : decode cX8_letter 102 = .ok (.ireturn, 1) := by decide +kernel
theorem dX8_letter_103 : decode cX8_letter 103 = .ok (.aload_n 0, 1) := by decide +kernel
theorem dX8_letter_104 : decode cX8_letter 104 = .ok (.iload_n 1, 1) := by decide +kernel
theorem dX8_letter_105 : decode cX8_letter 105 = .ok (.iload_n 2, 1) := by decide +kernel
theorem dX8_letter_106 : decode cX8_letter 106 = .ok (.invokevirtual 209, 3) := by decide +kernel
theorem dX8_letter_109 : decode cX8_letter 109 = .ok (.ireturn, 1) := by decide +kernel
theorem dX8_letter_110 : decode cX8_letter 110 = .ok (.aload_n 0, 1) := by decide +kernel
theorem dX8_letter_111 : decode cX8_letter 111 = .ok (.iload_n 1, 1) := by decide +kernel
theorem dX8_letter_112 : decode cX8_letter 112 = .ok (.iload_n 2, 1) := by decide +kernel
theorem dX8_letter_113 : decode cX8_letter 113 = .ok (.invokevirtual 206, 3) := by decide +kernel
theorem dX8_letter_116 : decode cX8_letter 116 = .ok (.ireturn, 1) := by decide +kernel
theorem dX8_letter_117 : decode cX8_letter 117 = .ok (.aload_n 0, 1) := by decide +kernel
theorem dX8_letter_118 : decode cX8_letter 118 = .ok (.getfield 48, 3) := by decide +kernel
theorem dX8_letter_121 : decode cX8_letter 121 = .ok (.iload_n 1, 1) := by decide +kernel
theorem dX8_letter_122 : decode cX8_letter 122 = .ok (.iaload, 1) := by decide +kernel
theorem dX8_letter_123 : decode cX8_letter 123 = .ok (.iload_n 2, 1) := by decide +kernel
theorem dX8_letter_124 : decode cX8_letter 124 = .ok (.ishr, 1) := by decide +kernel
theorem dX8_letter_125 : decode cX8_letter 125 = .ok (.iconst 1, 1) := by decide +kernel
theorem dX8_letter_126 : decode cX8_letter 126 = .ok (.iand, 1) := by decide +kernel
theorem dX8_letter_127 : decode cX8_letter 127 = .ok (.ireturn, 1) := by decide +kernel
theorem dX8_letter_128 : decode cX8_letter 128 = .ok (.aload_n 0, 1) := by decide +kernel
theorem dX8_letter_129 : decode cX8_letter 129 = .ok (.iload_n 1, 1) := by decide +kernel
theorem dX8_letter_130 : decode cX8_letter 130 = .ok (.iload_n 2, 1) := by decide +kernel
theorem dX8_letter_131 : decode cX8_letter 131 = .ok (.invokevirtual 203, 3) := by decide +kernel
theorem dX8_letter_134 : decode cX8_letter 134 = .ok (.ifCond .lt 7, 3) := by decide +kernel
theorem dX8_letter_137 : decode cX8_letter 137 = .ok (.iconst 1, 1) := by decide +kernel
theorem dX8_letter_138 : decode cX8_letter 138 = .ok (.goto 4, 3) := by decide +kernel
theorem dX8_letter_141 : decode cX8_letter 141 = .ok (.iconst 0, 1) := by decide +kernel
theorem dX8_letter_142 : decode cX8_letter 142 = .ok (.invokestatic 172, 3) := by decide +kernel
theorem dX8_letter_145 : decode cX8_letter 145 = .ok (.ireturn, 1) := by decide +kernel
theorem dX8_letter_146 : decode cX8_letter 146 = .ok (.ldc 75, 2) := by decide +kernel
theorem dX8_letter_148 : decode cX8_letter 148 = .ok (.ireturn, 1) := by decide +kernel
theorem dX8_copy_0 : decode cX8_copy 0 = .ok (.iconst 0, 1) := by decide +kernel
theorem dX8_copy_1 : decode cX8_copy 1 = .ok (.istore_n 3, 1) := by decide +kernel
theorem dX8_copy_2 : decode cX8_copy 2 = .ok (.iload_n 3, 1) := by decide +kernel
theorem dX8_copy_3 : decode cX8_copy 3 = .ok (.bipush 54, 2) := by decide +kernel
theorem dX8_copy_5 : decode cX8_copy 5 = .ok (.if_icmp .ge 25, 3) := by decide +kernel
theorem dX8_copy_8 : decode cX8_copy 8 = .ok (.aload_n 0, 1) := by decide +kernel
theorem dX8_copy_9 : decode cX8_copy 9 = .ok (.getfield 7, 3) := by decide +kernel
theorem dX8_copy_12 : decode cX8_copy 12 = .ok (.iload_n 2, 1) := by decide +kernel
theorem dX8_copy_13 : decode cX8_copy 13 = .ok (.iload_n 3, 1) := by decide +kernel
theorem dX8_copy_14 : decode cX8_copy 14 = .ok (.iadd, 1) := by decide +kernel
theorem dX8_copy_15 : decode cX8_copy 15 = .ok (.aload_n 0, 1) := by decide +kernel
theorem dX8_copy_16 : decode cX8_copy 16 = .ok (.getfield 7, 3) := by decide +kernel
theorem dX8_copy_19 : decode cX8_copy 19 = .ok (.iload_n 1, 1) := by decide +kernel
theorem dX8_copy_20 : decode cX8_copy 20 = .ok (.iload_n 3, 1) := by decide +kernel
theorem dX8_copy_21 : decode cX8_copy 21 = .ok (.iadd, 1) := by decide +kernel
theorem dX8_copy_22 : decode cX8_copy 22 = .ok (.iaload, 1) := by decide +kernel
theorem dX8_copy_23 : decode cX8_copy 23 = .ok (.iastore, 1) := by decide +kernel
theorem dX8_copy_24 : decode cX8_copy 24 = .ok (.iinc 3 1, 3) := by decide +kernel
theorem dX8_copy_27 : decode cX8_copy 27 = .ok (.goto (-25), 3) := by decide +kernel
theorem dX8_copy_30 : decode cX8_copy 30 = .ok (.return_, 1) := by decide +kernel
theorem dX8_remember_0 : decode cX8_remember 0 = .ok (.aload_n 0, 1) := by decide +kernel
theorem dX8_remember_1 : decode cX8_remember 1 = .ok (.getfield 163, 3) := by decide +kernel
theorem dX8_remember_4 : decode cX8_remember 4 = .ok (.bipush 30, 2) := by decide +kernel
theorem dX8_remember_6 : decode cX8_remember 6 = .ok (.if_icmp .ne 49, 3) := by decide +kernel
theorem dX8_remember_9 : decode cX8_remember 9 = .ok (.iconst 1, 1) := by decide +kernel
theorem dX8_remember_10 : decode cX8_remember 10 = .ok (.istore_n 1, 1) := by decide +kernel
theorem dX8_remember_11 : decode cX8_remember 11 = .ok (.iload_n 1, 1) := by decide +kernel
theorem dX8_remember_12 : decode cX8_remember 12 = .ok (.bipush 30, 2) := by decide +kernel
theorem dX8_remember_14 : decode cX8_remember 14 = .ok (.if_icmp .ge 31, 3) := by decide +kernel
theorem dX8_remember_17 : decode cX8_remember 17 = .ok (.aload_n 0, 1) := by decide +kernel
theorem dX8_remember_18 : decode cX8_remember 18 = .ok (.sipush 162, 3) := by decide +kernel
theorem dX8_remember_21 : decode cX8_remember 21 = .ok (.bipush 54, 2) := by decide +kernel
theorem dX8_remember_23 : decode cX8_remember 23 = .ok (.iload_n 1, 1) := by decide +kernel
theorem dX8_remember_24 : decode cX8_remember 24 = .ok (.imul, 1) := by decide +kernel
theorem dX8_remember_25 : decode cX8_remember 25 = .ok (.iadd, 1) := by decide +kernel
theorem dX8_remember_26 : decode cX8_remember 26 = .ok (.sipush 162, 3) := by decide +kernel
theorem dX8_remember_29 : decode cX8_remember 29 = .ok (.bipush 54, 2) := by decide +kernel
theorem dX8_remember_31 : decode cX8_remember 31 = .ok (.iload_n 1, 1) := by decide +kernel
theorem dX8_remember_32 : decode cX8_remember 32 = .ok (.iconst 1, 1) := by decide +kernel
theorem dX8_remember_33 : decode cX8_remember 33 = .ok (.isub, 1) := by decide +kernel
theorem dX8_remember_34 : decode cX8_remember 34 = .ok (.imul, 1) := by decide +kernel
theorem dX8_remember_35 : decode cX8_remember 35 = .ok (.iadd, 1) := by decide +kernel
theorem dX8_remember_36 : decode cX8_remember 36 = .ok (.invokevirtual 225, 3) := by decide +kernel
theorem dX8_remember_39 : decode cX8_remember 39 = .ok (.iinc 1 1, 3) := by decide +kernel
theorem dX8_remember_42 : decode cX8_remember 42 = .ok (.goto (-31), 3) := by decide +kernel
theorem dX8_remember_45 : decode cX8_remember 45 = .ok (.aload_n 0, 1) := by decide +kernel
theorem dX8_remember_46 : decode cX8_remember 46 = .ok (.dup, 1) := by decide +kernel
theorem dX8_remember_47 : decode cX8_remember 47 = .ok (.getfield 163, 3) := by decide +kernel
theorem dX8_remember_50 : decode cX8_remember 50 = .ok (.iconst 1, 1) := by decide +kernel
theorem dX8_remember_51 : decode cX8_remember 51 = .ok (.isub, 1) := by decide +kernel
theorem dX8_remember_52 : decode cX8_remember 52 = .ok (.putfield 163, 3) := by decide +kernel
theorem dX8_remember_55 : decode cX8_remember 55 = .ok (.aload_n 0, 1) := by decide +kernel
theorem dX8_remember_56 : decode cX8_remember 56 = .ok (.iconst 0, 1) := by decide +kernel
theorem dX8_remember_57 : decode cX8_remember 57 = .ok (.sipush 162, 3) := by decide +kernel
theorem dX8_remember_60 : decode cX8_remember 60 = .ok (.bipush 54, 2) := by decide +kernel
theorem dX8_remember_62 : decode cX8_remember 62 = .ok (.aload_n 0, 1) := by decide +kernel
theorem dX8_remember_63 : decode cX8_remember 63 = .ok (.getfield 163, 3) := by decide +kernel
theorem dX8_remember_66 : decode cX8_remember 66 = .ok (.imul, 1) := by decide +kernel
theorem dX8_remember_67 : decode cX8_remember 67 = .ok (.iadd, 1) := by decide +kernel
theorem dX8_remember_68 : decode cX8_remember 68 = .ok (.invokevirtual 225, 3) := by decide +kernel
theorem dX8_remember_71 : decode cX8_remember 71 = .ok (.aload_n 0, 1) := by decide +kernel
theorem dX8_remember_72 : decode cX8_remember 72 = .ok (.dup, 1) := by decide +kernel
theorem dX8_remember_73 : decode cX8_remember 73 = .ok (.getfield 163, 3) := by decide +kernel
theorem dX8_remember_76 : decode cX8_remember 76 = .ok (.iconst 1, 1) := by decide +kernel
theorem dX8_remember_77 : decode cX8_remember 77 = .ok (.iadd, 1) := by decide +kernel
theorem dX8_remember_78 : decode cX8_remember 78 = .ok (.putfield 163, 3) := by decide +kernel
theorem dX8_remember_81 : decode cX8_remember 81 = .ok (.return_, 1) := by decide +kernel
theorem dX8_add_0 : decode cX8_add 0 = .ok (.aload_n 0, 1) := by decide +kernel
theorem dX8_add_1 : decode cX8_add 1 = .ok (.iload_n 1, 1) := by decide +kernel
theorem dX8_add_2 : decode cX8_add 2 = .ok (.invokevirtual 166, 3) := by decide +kernel
theorem dX8_add_5 : decode cX8_add 5 = .ok (.ifCond .eq 11, 3) := by decide +kernel
theorem dX8_add_8 : decode cX8_add 8 = .ok (.aload_n 0, 1) := by decide +kernel
theorem dX8_add_9 : decode cX8_add 9 = .ok (.iload_n 2, 1) := by decide +kernel
theorem dX8_add_10 : decode cX8_add 10 = .ok (.invokevirtual 195, 3) := by decide +kernel
theorem dX8_add_13 : decode cX8_add 13 = .ok (.ifCond .ne 6, 3) := by decide +kernel
theorem dX8_add_16 : decode cX8_add 16 = .ok (.ldc 198, 2) := by decide +kernel
theorem dX8_add_18 : decode cX8_add 18 = .ok (.ireturn, 1) := by decide +kernel
theorem dX8_add_19 : decode cX8_add 19 = .ok (.iload_n 3, 1) := by decide +kernel
theorem dX8_add_20 : decode cX8_add 20 = .ok (.invokestatic 179, 3) := by decide +kernel
theorem dX8_add_23 : decode cX8_add 23 = .ok (.ifCond .ne 6, 3) := by decide +kernel
theorem dX8_add_26 : decode cX8_add 26 = .ok (.ldc 75, 2) := by decide +kernel
theorem dX8_add_28 : decode cX8_add 28 = .ok (.ireturn, 1) := by decide +kernel
theorem dX8_add_29 : decode cX8_add 29 = .ok (.iload 4, 2) := by decide +kernel
theorem dX8_add_31 : decode cX8_add 31 = .ok (.ifCond .eq 16, 3) := by decide +kernel
theorem dX8_add_34 : decode cX8_add 34 = .ok (.aload_n 0, 1) := by decide +kernel
theorem dX8_add_35 : decode cX8_add 35 = .ok (.getfield 7, 3) := by decide +kernel
theorem dX8_add_38 : decode cX8_add 38 = .ok (.bipush 52, 2) := by decide +kernel
theorem dX8_add_40 : decode cX8_add 40 = .ok (.iaload, 1) := by decide +kernel
theorem dX8_add_41 : decode cX8_add 41 = .ok (.ifCond .ge 6, 3) := by decide +kernel
theorem dX8_add_44 : decode cX8_add 44 = .ok (.ldc 184, 2) := by decide +kernel
theorem dX8_add_46 : decode cX8_add 46 = .ok (.ireturn, 1) := by decide +kernel
theorem dX8_add_47 : decode cX8_add 47 = .ok (.aload_n 0, 1) := by decide +kernel
theorem dX8_add_48 : decode cX8_add 48 = .ok (.getfield 7, 3) := by decide +kernel
theorem dX8_add_51 : decode cX8_add 51 = .ok (.bipush 48, 2) := by decide +kernel
theorem dX8_add_53 : decode cX8_add 53 = .ok (.iload_n 1, 1) := by decide +kernel
theorem dX8_add_54 : decode cX8_add 54 = .ok (.iadd, 1) := by decide +kernel
theorem dX8_add_55 : decode cX8_add 55 = .ok (.iaload, 1) := by decide +kernel
theorem dX8_add_56 : decode cX8_add 56 = .ok (.bipush 12, 2) := by decide +kernel
theorem dX8_add_58 : decode cX8_add 58 = .ok (.if_icmp .ne 6, 3) := by decide +kernel
theorem dX8_add_61 : decode cX8_add 61 = .ok (.ldc 79, 2) := by decide +kernel
theorem dX8_add_63 : decode cX8_add 63 = .ok (.ireturn, 1) := by decide +kernel
theorem dX8_add_64 : decode cX8_add 64 = .ok (.aload_n 0, 1) := by decide +kernel
theorem dX8_add_65 : decode cX8_add 65 = .ok (.invokevirtual 229, 3) := by decide +kernel
theorem dX8_add_68 : decode cX8_add 68 = .ok (.aload_n 0, 1) := by decide +kernel
theorem dX8_add_69 : decode cX8_add 69 = .ok (.iload_n 1, 1) := by decide +kernel
theorem dX8_add_70 : decode cX8_add 70 = .ok (.iload_n 3, 1) := by decide +kernel
theorem dX8_add_71 : decode cX8_add 71 = .ok (.iload_n 2, 1) := by decide +kernel
theorem dX8_add_72 : decode cX8_add 72 = .ok (.iload 4, 2) := by decide +kernel
theorem dX8_add_74 : decode cX8_add 74 = .ok (.ifCond .eq 13, 3) := by decide +kernel
theorem dX8_add_77 : decode cX8_add 77 = .ok (.aload_n 0, 1) := by decide +kernel
theorem dX8_add_78 : decode cX8_add 78 = .ok (.getfield 7, 3) := by decide +kernel
theorem dX8_add_81 : decode cX8_add 81 = .ok (.bipush 52, 2) := by decide +kernel
theorem dX8_add_83 : decode cX8_add 83 = .ok (.iaload, 1) := by decide +kernel
theorem dX8_add_84 : decode cX8_add 84 = .ok (.goto 4, 3) := by decide +kernel
theorem dX8_add_87 : decode cX8_add 87 = .ok (.iconst (-1), 1) := by decide +kernel
theorem dX8_add_88 : decode cX8_add 88 = .ok (.invokevirtual 156, 3) := by decide +kernel
theorem dX8_add_91 : decode cX8_add 91 = .ok (.aload_n 0, 1) := by decide +kernel
theorem dX8_add_92 : decode cX8_add 92 = .ok (.getfield 7, 3) := by decide +kernel
theorem dX8_add_95 : decode cX8_add 95 = .ok (.bipush 48, 2) := by decide +kernel
theorem dX8_add_97 : decode cX8_add 97 = .ok (.iload_n 1, 1) := by decide +kernel
theorem dX8_add_98 : decode cX8_add 98 = .ok (.iadd, 1) := by decide +kernel
theorem dX8_add_99 : decode cX8_add 99 = .ok (.iaload, 1) := by decide +kernel
theorem dX8_add_100 : decode cX8_add 100 = .ok (.ireturn, 1) := by decide +kernel
theorem dX8_blot_0 : decode cX8_blot 0 = .ok (.aload_n 0, 1) := by decide +kernel
theorem dX8_blot_1 : decode cX8_blot 1 = .ok (.iload_n 1, 1) := by decide +kernel
theorem dX8_blot_2 : decode cX8_blot 2 = .ok (.invokevirtual 166, 3) := by decide +kernel
theorem dX8_blot_5 : decode cX8_blot 5 = .ok (.ifCond .ne 6, 3) := by decide +kernel
theorem dX8_blot_8 : decode cX8_blot 8 = .ok (.ldc 198, 2) := by decide +kernel
theorem dX8_blot_10 : decode cX8_blot 10 = .ok (.ireturn, 1) := by decide +kernel
theorem dX8_blot_11 : decode cX8_blot 11 = .ok (.aload_n 0, 1) := by decide +kernel
theorem dX8_blot_12 : decode cX8_blot 12 = .ok (.getfield 7, 3) := by decide +kernel
theorem dX8_blot_15 : decode cX8_blot 15 = .ok (.bipush 48, 2) := by decide +kernel
theorem dX8_blot_17 : decode cX8_blot 17 = .ok (.iload_n 1, 1) := by decide +kernel
theorem dX8_blot_18 : decode cX8_blot 18 = .ok (.iadd, 1) := by decide +kernel
theorem dX8_blot_19 : decode cX8_blot 19 = .ok (.iaload, 1) := by decide +kernel
theorem dX8_blot_20 : decode cX8_blot 20 = .ok (.ifCond .ne 6, 3) := by decide +kernel
theorem dX8_blot_23 : decode cX8_blot 23 = .ok (.ldc 184, 2) := by decide +kernel
theorem dX8_blot_25 : decode cX8_blot 25 = .ok (.ireturn, 1) := by decide +kernel
theorem dX8_blot_26 : decode cX8_blot 26 = .ok (.aload_n 0, 1) := by decide +kernel
theorem dX8_blot_27 : decode cX8_blot 27 = .ok (.invokevirtual 229, 3) := by decide +kernel
theorem dX8_blot_30 : decode cX8_blot 30 = .ok (.aload_n 0, 1) := by decide +kernel
theorem dX8_blot_31 : decode cX8_blot 31 = .ok (.getfield 7, 3) := by decide +kernel
theorem dX8_blot_34 : decode cX8_blot 34 = .ok (.bipush 48, 2) := by decide +kernel
theorem dX8_blot_36 : decode cX8_blot 36 = .ok (.iload_n 1, 1) := by decide +kernel
theorem dX8_blot_37 : decode cX8_blot 37 = .ok (.iadd, 1) := by decide +kernel
theorem dX8_blot_38 : decode cX8_blot 38 = .ok (.dup2, 1) := by decide +kernel
theorem dX8_blot_39 : decode cX8_blot 39 = .ok (.iaload, 1) := by decide +kernel
theorem dX8_blot_40 : decode cX8_blot 40 = .ok (.iconst 1, 1) := by decide +kernel
theorem dX8_blot_41 : decode cX8_blot 41 = .ok (.isub, 1) := by decide +kernel
theorem dX8_blot_42 : decode cX8_blot 42 = .ok (.iastore, 1) := by decide +kernel
theorem dX8_blot_43 : decode cX8_blot 43 = .ok (.aload_n 0, 1) := by decide +kernel
theorem dX8_blot_44 : decode cX8_blot 44 = .ok (.iload_n 1, 1) := by decide +kernel
theorem dX8_blot_45 : decode cX8_blot 45 = .ok (.aload_n 0, 1) := by decide +kernel
theorem dX8_blot_46 : decode cX8_blot 46 = .ok (.getfield 7, 3) := by decide +kernel
theorem dX8_blot_49 : decode cX8_blot 49 = .ok (.bipush 48, 2) := by decide +kernel
theorem dX8_blot_51 : decode cX8_blot 51 = .ok (.iload_n 1, 1) := by decide +kernel
theorem dX8_blot_52 : decode cX8_blot 52 = .ok (.iadd, 1) := by decide +kernel
theorem dX8_blot_53 : decode cX8_blot 53 = .ok (.iaload, 1) := by decide +kernel
theorem dX8_blot_54 : decode cX8_blot 54 = .ok (.invokevirtual 222, 3) := by decide +kernel
theorem dX8_blot_57 : decode cX8_blot 57 = .ok (.ireturn, 1) := by decide +kernel
theorem dX8_bottle_0 : decode cX8_bottle 0 = .ok (.iload_n 1, 1) := by decide +kernel
theorem dX8_bottle_1 : decode cX8_bottle 1 = .ok (.iconst (-1), 1) := by decide +kernel
theorem dX8_bottle_2 : decode cX8_bottle 2 = .ok (.if_icmp .eq 13, 3) := by decide +kernel
theorem dX8_bottle_5 : decode cX8_bottle 5 = .ok (.iload_n 1, 1) := by decide +kernel
theorem dX8_bottle_6 : decode cX8_bottle 6 = .ok (.invokestatic 179, 3) := by decide +kernel
theorem dX8_bottle_9 : decode cX8_bottle 9 = .ok (.ifCond .ne 6, 3) := by decide +kernel
theorem dX8_bottle_12 : decode cX8_bottle 12 = .ok (.ldc 75, 2) := by decide +kernel
theorem dX8_bottle_14 : decode cX8_bottle 14 = .ok (.ireturn, 1) := by decide +kernel
theorem dX8_bottle_15 : decode cX8_bottle 15 = .ok (.aload_n 0, 1) := by decide +kernel
theorem dX8_bottle_16 : decode cX8_bottle 16 = .ok (.getfield 144, 3) := by decide +kernel
theorem dX8_bottle_19 : decode cX8_bottle 19 = .ok (.ifCond .ne 6, 3) := by decide +kernel
theorem dX8_bottle_22 : decode cX8_bottle 22 = .ok (.ldc 184, 2) := by decide +kernel
theorem dX8_bottle_24 : decode cX8_bottle 24 = .ok (.ireturn, 1) := by decide +kernel
theorem dX8_bottle_25 : decode cX8_bottle 25 = .ok (.aload_n 0, 1) := by decide +kernel
theorem dX8_bottle_26 : decode cX8_bottle 26 = .ok (.invokevirtual 229, 3) := by decide +kernel
theorem dX8_bottle_29 : decode cX8_bottle 29 = .ok (.aload_n 0, 1) := by decide +kernel
theorem dX8_bottle_30 : decode cX8_bottle 30 = .ok (.getfield 7, 3) := by decide +kernel
theorem dX8_bottle_33 : decode cX8_bottle 33 = .ok (.bipush 52, 2) := by decide +kernel
theorem dX8_bottle_35 : decode cX8_bottle 35 = .ok (.iaload, 1) := by decide +kernel
theorem dX8_bottle_36 : decode cX8_bottle 36 = .ok (.istore_n 2, 1) := by decide +kernel
theorem dX8_bottle_37 : decode cX8_bottle 37 = .ok (.aload_n 0, 1) := by decide +kernel
theorem dX8_bottle_38 : decode cX8_bottle 38 = .ok (.getfield 7, 3) := by decide +kernel
theorem dX8_bottle_41 : decode cX8_bottle 41 = .ok (.bipush 52, 2) := by decide +kernel
theorem dX8_bottle_43 : decode cX8_bottle 43 = .ok (.iload_n 1, 1) := by decide +kernel
theorem dX8_bottle_44 : decode cX8_bottle 44 = .ok (.iastore, 1) := by decide +kernel
theorem dX8_bottle_45 : decode cX8_bottle 45 = .ok (.iload_n 2, 1) := by decide +kernel
theorem dX8_bottle_46 : decode cX8_bottle 46 = .ok (.ireturn, 1) := by decide +kernel
theorem dX8_draw_0 : decode cX8_draw 0 = .ok (.aload_n 0, 1) := by decide +kernel
theorem dX8_draw_1 : decode cX8_draw 1 = .ok (.getfield 7, 3) := by decide +kernel
theorem dX8_draw_4 : decode cX8_draw 4 = .ok (.bipush 53, 2) := by decide +kernel
theorem dX8_draw_6 : decode cX8_draw 6 = .ok (.aload_n 0, 1) := by decide +kernel
theorem dX8_draw_7 : decode cX8_draw 7 = .ok (.getfield 7, 3) := by decide +kernel
theorem dX8_draw_10 : decode cX8_draw 10 = .ok (.bipush 53, 2) := by decide +kernel
theorem dX8_draw_12 : decode cX8_draw 12 = .ok (.iaload, 1) := by decide +kernel
theorem dX8_draw_13 : decode cX8_draw 13 = .ok (.i2l, 1) := by decide +kernel
theorem dX8_draw_14 : decode cX8_draw 14 = .ok (.ldc2_w 232, 3) := by decide +kernel
theorem dX8_draw_17 : decode cX8_draw 17 = .ok (.lmul, 1) := by decide +kernel
theorem dX8_draw_18 : decode cX8_draw 18 = .ok (.ldc2_w 234, 3) := by decide +kernel
theorem dX8_draw_21 : decode cX8_draw 21 = .ok (.ladd, 1) := by decide +kernel
theorem dX8_draw_22 : decode cX8_draw 22 = .ok (.ldc2_w 236, 3) := by decide +kernel
theorem dX8_draw_25 : decode cX8_draw 25 = .ok (.lrem, 1) := by decide +kernel
theorem dX8_draw_26 : decode cX8_draw 26 = .ok (.l2i, 1) := by decide +kernel
theorem dX8_draw_27 : decode cX8_draw 27 = .ok (.iastore, 1) := by decide +kernel
theorem dX8_draw_28 : decode cX8_draw 28 = .ok (.aload_n 0, 1) := by decide +kernel
theorem dX8_draw_29 : decode cX8_draw 29 = .ok (.getfield 7, 3) := by decide +kernel
theorem dX8_draw_32 : decode cX8_draw 32 = .ok (.bipush 53, 2) := by decide +kernel
theorem dX8_draw_34 : decode cX8_draw 34 = .ok (.iaload, 1) := by decide +kernel
theorem dX8_draw_35 : decode cX8_draw 35 = .ok (.ldc 238, 2) := by decide +kernel
theorem dX8_draw_37 : decode cX8_draw 37 = .ok (.idiv, 1) := by decide +kernel
theorem dX8_draw_38 : decode cX8_draw 38 = .ok (.iload_n 1, 1) := by decide +kernel
theorem dX8_draw_39 : decode cX8_draw 39 = .ok (.irem, 1) := by decide +kernel
theorem dX8_draw_40 : decode cX8_draw 40 = .ok (.ireturn, 1) := by decide +kernel
theorem dX8_drift_0 : decode cX8_drift 0 = .ok (.iload_n 1, 1) := by decide +kernel
theorem dX8_drift_1 : decode cX8_drift 1 = .ok (.i2l, 1) := by decide +kernel
theorem dX8_drift_2 : decode cX8_drift 2 = .ok (.lconst 1, 1) := by decide +kernel
theorem dX8_drift_3 : decode cX8_drift 3 = .ok (.ldc2_w 239, 3) := by decide +kernel
theorem dX8_drift_6 : decode cX8_drift 6 = .ok (.invokestatic 71, 3) := by decide +kernel
theorem dX8_drift_9 : decode cX8_drift 9 = .ok (.ifCond .ne 6, 3) := by decide +kernel
theorem dX8_drift_12 : decode cX8_drift 12 = .ok (.ldc 75, 2) := by decide +kernel
theorem dX8_drift_14 : decode cX8_drift 14 = .ok (.ireturn, 1) := by decide +kernel
theorem dX8_drift_15 : decode cX8_drift 15 = .ok (.aload_n 0, 1) := by decide +kernel
theorem dX8_drift_16 : decode cX8_drift 16 = .ok (.getfield 150, 3) := by decide +kernel
theorem dX8_drift_19 : decode cX8_drift 19 = .ok (.ifCond .eq 10, 3) := by decide +kernel
theorem dX8_drift_22 : decode cX8_drift 22 = .ok (.aload_n 0, 1) := by decide +kernel
theorem dX8_drift_23 : decode cX8_drift 23 = .ok (.getfield 141, 3) := by decide +kernel
theorem dX8_drift_26 : decode cX8_drift 26 = .ok (.ifCond .ne 6, 3) := by decide +kernel
theorem dX8_drift_29 : decode cX8_drift 29 = .ok (.ldc 184, 2) := by decide +kernel
theorem dX8_drift_31 : decode cX8_drift 31 = .ok (.ireturn, 1) := by decide +kernel
theorem dX8_drift_32 : decode cX8_drift 32 = .ok (.iconst 0, 1) := by decide +kernel
theorem dX8_drift_33 : decode cX8_drift 33 = .ok (.istore_n 2, 1) := by decide +kernel
theorem dX8_drift_34 : decode cX8_drift 34 = .ok (.iload_n 2, 1) := by decide +kernel
theorem dX8_drift_35 : decode cX8_drift 35 = .ok (.iload_n 1, 1) := by decide +kernel
theorem dX8_drift_36 : decode cX8_drift 36 = .ok (.if_icmp .ge 75, 3) := by decide +kernel
theorem dX8_drift_39 : decode cX8_drift 39 = .ok (.aload_n 0, 1) := by decide +kernel
theorem dX8_drift_40 : decode cX8_drift 40 = .ok (.getfield 7, 3) := by decide +kernel
theorem dX8_drift_43 : decode cX8_drift 43 = .ok (.bipush 53, 2) := by decide +kernel
theorem dX8_drift_45 : decode cX8_drift 45 = .ok (.iaload, 1) := by decide +kernel
theorem dX8_drift_46 : decode cX8_drift 46 = .ok (.istore_n 3, 1) := by decide +kernel
theorem dX8_drift_47 : decode cX8_drift 47 = .ok (.aload_n 0, 1) := by decide +kernel
theorem dX8_drift_48 : decode cX8_drift 48 = .ok (.aload_n 0, 1) := by decide +kernel
theorem dX8_drift_49 : decode cX8_drift 49 = .ok (.getfield 141, 3) := by decide +kernel
theorem dX8_drift_52 : decode cX8_drift 52 = .ok (.invokevirtual 241, 3) := by decide +kernel
theorem dX8_drift_55 : decode cX8_drift 55 = .ok (.istore 4, 2) := by decide +kernel
theorem dX8_drift_57 : decode cX8_drift 57 = .ok (.aload_n 0, 1) := by decide +kernel
theorem dX8_drift_58 : decode cX8_drift 58 = .ok (.aload_n 0, 1) := by decide +kernel
theorem dX8_drift_59 : decode cX8_drift 59 = .ok (.getfield 150, 3) := by decide +kernel
theorem dX8_drift_62 : decode cX8_drift 62 = .ok (.invokevirtual 241, 3) := by decide +kernel
theorem dX8_drift_65 : decode cX8_drift 65 = .ok (.istore 5, 2) := by decide +kernel
theorem dX8_drift_67 : decode cX8_drift 67 = .ok (.aload_n 0, 1) := by decide +kernel
theorem dX8_drift_68 : decode cX8_drift 68 = .ok (.bipush 96, 2) := by decide +kernel
theorem dX8_drift_70 : decode cX8_drift 70 = .ok (.invokevirtual 241, 3) := by decide +kernel
theorem dX8_drift_73 : decode cX8_drift 73 = .ok (.istore 6, 2) := by decide +kernel
theorem dX8_drift_75 : decode cX8_drift 75 = .ok (.aload_n 0, 1) := by decide +kernel
theorem dX8_drift_76 : decode cX8_drift 76 = .ok (.getfield 7, 3) := by decide +kernel
theorem dX8_drift_79 : decode cX8_drift 79 = .ok (.bipush 48, 2) := by decide +kernel
theorem dX8_drift_81 : decode cX8_drift 81 = .ok (.iload 4, 2) := by decide +kernel
theorem dX8_drift_83 : decode cX8_drift 83 = .ok (.iadd, 1) := by decide +kernel
theorem dX8_drift_84 : decode cX8_drift 84 = .ok (.iaload, 1) := by decide +kernel
theorem dX8_drift_85 : decode cX8_drift 85 = .ok (.bipush 12, 2) := by decide +kernel
theorem dX8_drift_87 : decode cX8_drift 87 = .ok (.if_icmp .ge 18, 3) := by decide +kernel
theorem dX8_drift_90 : decode cX8_drift 90 = .ok (.aload_n 0, 1) := by decide +kernel
theorem dX8_drift_91 : decode cX8_drift 91 = .ok (.invokevirtual 229, 3) := by decide +kernel
theorem dX8_drift_94 : decode cX8_drift 94 = .ok (.aload_n 0, 1) := by decide +kernel
theorem dX8_drift_95 : decode cX8_drift 95 = .ok (.iload 4, 2) := by decide +kernel
theorem dX8_drift_97 : decode cX8_drift 97 = .ok (.iload 6, 2) := by decide +kernel
theorem dX8_drift_99 : decode cX8_drift 99 = .ok (.iload 5, 2) := by decide +kernel
theorem dX8_drift_101 : decode cX8_drift 101 = .ok (.iconst (-1), 1) := by decide +kernel
theorem dX8_drift_102 : decode cX8_drift 102 = .ok (.invokevirtual 156, 3) := by decide +kernel
theorem dX8_drift_105 : decode cX8_drift 105 = .ok (.iinc 2 1, 3) := by decide +kernel
theorem dX8_drift_108 : decode cX8_drift 108 = .ok (.goto (-74), 3) := by decide +kernel
theorem dX8_drift_111 : decode cX8_drift 111 = .ok (.aload_n 0, 1) := by decide +kernel
theorem dX8_drift_112 : decode cX8_drift 112 = .ok (.invokevirtual 176, 3) := by decide +kernel
theorem dX8_drift_115 : decode cX8_drift 115 = .ok (.ireturn, 1) := by decide +kernel
theorem dX8_undo_0 : decode cX8_undo 0 = .ok (.iload_n 1, 1) := by decide +kernel
theorem dX8_undo_1 : decode cX8_undo 1 = .ok (.i2l, 1) := by decide +kernel
theorem dX8_undo_2 : decode cX8_undo 2 = .ok (.lconst 1, 1) := by decide +kernel
theorem dX8_undo_3 : decode cX8_undo 3 = .ok (.ldc2_w 239, 3) := by decide +kernel
theorem dX8_undo_6 : decode cX8_undo 6 = .ok (.invokestatic 71, 3) := by decide +kernel
theorem dX8_undo_9 : decode cX8_undo 9 = .ok (.ifCond .ne 6, 3) := by decide +kernel
theorem dX8_undo_12 : decode cX8_undo 12 = .ok (.ldc 75, 2) := by decide +kernel
theorem dX8_undo_14 : decode cX8_undo 14 = .ok (.ireturn, 1) := by decide +kernel
theorem dX8_undo_15 : decode cX8_undo 15 = .ok (.iload_n 1, 1) := by decide +kernel
theorem dX8_undo_16 : decode cX8_undo 16 = .ok (.aload_n 0, 1) := by decide +kernel
theorem dX8_undo_17 : decode cX8_undo 17 = .ok (.getfield 163, 3) := by decide +kernel
theorem dX8_undo_20 : decode cX8_undo 20 = .ok (.if_icmp .le 6, 3) := by decide +kernel
theorem dX8_undo_23 : decode cX8_undo 23 = .ok (.ldc 184, 2) := by decide +kernel
theorem dX8_undo_25 : decode cX8_undo 25 = .ok (.ireturn, 1) := by decide +kernel
theorem dX8_undo_26 : decode cX8_undo 26 = .ok (.aload_n 0, 1) := by decide +kernel
theorem dX8_undo_27 : decode cX8_undo 27 = .ok (.dup, 1) := by decide +kernel
theorem dX8_undo_28 : decode cX8_undo 28 = .ok (.getfield 163, 3) := by decide +kernel
theorem dX8_undo_31 : decode cX8_undo 31 = .ok (.iload_n 1, 1) := by decide +kernel
theorem dX8_undo_32 : decode cX8_undo 32 = .ok (.isub, 1) := by decide +kernel
theorem dX8_undo_33 : decode cX8_undo 33 = .ok (.putfield 163, 3) := by decide +kernel
theorem dX8_undo_36 : decode cX8_undo 36 = .ok (.aload_n 0, 1) := by decide +kernel
theorem dX8_undo_37 : decode cX8_undo 37 = .ok (.getfield 7, 3) := by decide +kernel
theorem dX8_undo_40 : decode cX8_undo 40 = .ok (.bipush 53, 2) := by decide +kernel
theorem dX8_undo_42 : decode cX8_undo 42 = .ok (.iaload, 1) := by decide +kernel
theorem dX8_undo_43 : decode cX8_undo 43 = .ok (.istore_n 2, 1) := by decide +kernel
theorem dX8_undo_44 : decode cX8_undo 44 = .ok (.aload_n 0, 1) := by decide +kernel
theorem dX8_undo_45 : decode cX8_undo 45 = .ok (.sipush 162, 3) := by decide +kernel
theorem dX8_undo_48 : decode cX8_undo 48 = .ok (.bipush 54, 2) := by decide +kernel
theorem dX8_undo_50 : decode cX8_undo 50 = .ok (.aload_n 0, 1) := by decide +kernel
theorem dX8_undo_51 : decode cX8_undo 51 = .ok (.getfield 163, 3) := by decide +kernel
theorem dX8_undo_54 : decode cX8_undo 54 = .ok (.imul, 1) := by decide +kernel
theorem dX8_undo_55 : decode cX8_undo 55 = .ok (.iadd, 1) := by decide +kernel
theorem dX8_undo_56 : decode cX8_undo 56 = .ok (.iconst 0, 1) := by decide +kernel
theorem dX8_undo_57 : decode cX8_undo 57 = .ok (.invokevirtual 225, 3) := by decide +kernel
theorem dX8_undo_60 : decode cX8_undo 60 = .ok (.aload_n 0, 1) := by decide +kernel
theorem dX8_undo_61 : decode cX8_undo 61 = .ok (.getfield 7, 3) := by decide +kernel
theorem dX8_undo_64 : decode cX8_undo 64 = .ok (.bipush 53, 2) := by decide +kernel
theorem dX8_undo_66 : decode cX8_undo 66 = .ok (.iload_n 2, 1) := by decide +kernel
theorem dX8_undo_67 : decode cX8_undo 67 = .ok (.iastore, 1) := by decide +kernel
theorem dX8_undo_68 : decode cX8_undo 68 = .ok (.aload_n 0, 1) := by decide +kernel
theorem dX8_undo_69 : decode cX8_undo 69 = .ok (.invokevirtual 176, 3) := by decide +kernel
theorem dX8_undo_72 : decode cX8_undo 72 = .ok (.ireturn, 1) := by decide +kernel
theorem dX8_look_0 : decode cX8_look 0 = .ok (.aload_n 0, 1) := by decide +kernel
theorem dX8_look_1 : decode cX8_look 1 = .ok (.iload_n 1, 1) := by decide +kernel
theorem dX8_look_2 : decode cX8_look 2 = .ok (.invokevirtual 195, 3) := by decide +kernel
theorem dX8_look_5 : decode cX8_look 5 = .ok (.ifCond .ne 6, 3) := by decide +kernel
theorem dX8_look_8 : decode cX8_look 8 = .ok (.ldc 198, 2) := by decide +kernel
theorem dX8_look_10 : decode cX8_look 10 = .ok (.ireturn, 1) := by decide +kernel
theorem dX8_look_11 : decode cX8_look 11 = .ok (.iload_n 2, 1) := by decide +kernel
theorem dX8_look_12 : decode cX8_look 12 = .ok (.invokestatic 179, 3) := by decide +kernel
theorem dX8_look_15 : decode cX8_look 15 = .ok (.ifCond .eq 12, 3) := by decide +kernel
theorem dX8_look_18 : decode cX8_look 18 = .ok (.aload_n 0, 1) := by decide +kernel
theorem dX8_look_19 : decode cX8_look 19 = .ok (.iload_n 1, 1) := by decide +kernel
theorem dX8_look_20 : decode cX8_look 20 = .ok (.iload_n 2, 1) := by decide +kernel
theorem dX8_look_21 : decode cX8_look 21 = .ok (.invokevirtual 212, 3) := by decide +kernel
theorem dX8_look_24 : decode cX8_look 24 = .ok (.goto 5, 3) := by decide +kernel
theorem dX8_look_27 : decode cX8_look 27 = .ok (.ldc 75, 2) := by decide +kernel
theorem dX8_look_29 : decode cX8_look 29 = .ok (.ireturn, 1) := by decide +kernel
theorem dX8_hoursOf_0 : decode cX8_hoursOf 0 = .ok (.iconst 0, 1) := by decide +kernel
theorem dX8_hoursOf_1 : decode cX8_hoursOf 1 = .ok (.istore 4, 2) := by decide +kernel
theorem dX8_hoursOf_3 : decode cX8_hoursOf 3 = .ok (.iconst (-1), 1) := by decide +kernel
theorem dX8_hoursOf_4 : decode cX8_hoursOf 4 = .ok (.istore 5, 2) := by decide +kernel
theorem dX8_hoursOf_6 : decode cX8_hoursOf 6 = .ok (.iconst 0, 1) := by decide +kernel
theorem dX8_hoursOf_7 : decode cX8_hoursOf 7 = .ok (.istore 6, 2) := by decide +kernel
theorem dX8_hoursOf_9 : decode cX8_hoursOf 9 = .ok (.iload 6, 2) := by decide +kernel
theorem dX8_hoursOf_11 : decode cX8_hoursOf 11 = .ok (.bipush 96, 2) := by decide +kernel
theorem dX8_hoursOf_13 : decode cX8_hoursOf 13 = .ok (.if_icmp .ge 38, 3) := by decide +kernel
theorem dX8_hoursOf_16 : decode cX8_hoursOf 16 = .ok (.aload_n 0, 1) := by decide +kernel
theorem dX8_hoursOf_17 : decode cX8_hoursOf 17 = .ok (.iload_n 1, 1) := by decide +kernel
theorem dX8_hoursOf_18 : decode cX8_hoursOf 18 = .ok (.iload 6, 2) := by decide +kernel
theorem dX8_hoursOf_20 : decode cX8_hoursOf 20 = .ok (.invokevirtual 212, 3) := by decide +kernel
theorem dX8_hoursOf_23 : decode cX8_hoursOf 23 = .ok (.iload_n 2, 1) := by decide +kernel
theorem dX8_hoursOf_24 : decode cX8_hoursOf 24 = .ok (.if_icmp .ne 21, 3) := by decide +kernel
theorem dX8_hoursOf_27 : decode cX8_hoursOf 27 = .ok (.iload 4, 2) := by decide +kernel
theorem dX8_hoursOf_29 : decode cX8_hoursOf 29 = .ok (.iload_n 3, 1) := by decide +kernel
theorem dX8_hoursOf_30 : decode cX8_hoursOf 30 = .ok (.if_icmp .ne 8, 3) := by decide +kernel
theorem dX8_hoursOf_33 : decode cX8_hoursOf 33 = .ok (.iload 6, 2) := by decide +kernel
theorem dX8_hoursOf_35 : decode cX8_hoursOf 35 = .ok (.goto 5, 3) := by decide +kernel
theorem dX8_hoursOf_38 : decode cX8_hoursOf 38 = .ok (.iload 5, 2) := by decide +kernel
theorem dX8_hoursOf_40 : decode cX8_hoursOf 40 = .ok (.istore 5, 2) := by decide +kernel
theorem dX8_hoursOf_42 : decode cX8_hoursOf 42 = .ok (.iinc 4 1, 3) := by decide +kernel
theorem dX8_hoursOf_45 : decode cX8_hoursOf 45 = .ok (.iinc 6 1, 3) := by decide +kernel
theorem dX8_hoursOf_48 : decode cX8_hoursOf 48 = .ok (.goto (-39), 3) := by decide +kernel
theorem dX8_hoursOf_51 : decode cX8_hoursOf 51 = .ok (.iload_n 3, 1) := by decide +kernel
theorem dX8_hoursOf_52 : decode cX8_hoursOf 52 = .ok (.iconst (-1), 1) := by decide +kernel
theorem dX8_hoursOf_53 : decode cX8_hoursOf 53 = .ok (.if_icmp .ne 8, 3) := by decide +kernel
theorem dX8_hoursOf_56 : decode cX8_hoursOf 56 = .ok (.iload 4, 2) := by decide +kernel
theorem dX8_hoursOf_58 : decode cX8_hoursOf 58 = .ok (.goto 5, 3) := by decide +kernel
theorem dX8_hoursOf_61 : decode cX8_hoursOf 61 = .ok (.iload 5, 2) := by decide +kernel
theorem dX8_hoursOf_63 : decode cX8_hoursOf 63 = .ok (.ireturn, 1) := by decide +kernel
theorem dX8_written_0 : decode cX8_written 0 = .ok (.aload_n 0, 1) := by decide +kernel
theorem dX8_written_1 : decode cX8_written 1 = .ok (.iload_n 1, 1) := by decide +kernel
theorem dX8_written_2 : decode cX8_written 2 = .ok (.iload_n 2, 1) := by decide +kernel
theorem dX8_written_3 : decode cX8_written 3 = .ok (.invokevirtual 215, 3) := by decide +kernel
theorem dX8_written_6 : decode cX8_written 6 = .ok (.ifCond .eq 11, 3) := by decide +kernel
theorem dX8_written_9 : decode cX8_written 9 = .ok (.aload_n 0, 1) := by decide +kernel
theorem dX8_written_10 : decode cX8_written 10 = .ok (.iload_n 3, 1) := by decide +kernel
theorem dX8_written_11 : decode cX8_written 11 = .ok (.invokevirtual 195, 3) := by decide +kernel
theorem dX8_written_14 : decode cX8_written 14 = .ok (.ifCond .ne 6, 3) := by decide +kernel
theorem dX8_written_17 : decode cX8_written 17 = .ok (.ldc 198, 2) := by decide +kernel
theorem dX8_written_19 : decode cX8_written 19 = .ok (.ireturn, 1) := by decide +kernel
theorem dX8_written_20 : decode cX8_written 20 = .ok (.aload_n 0, 1) := by decide +kernel
theorem dX8_written_21 : decode cX8_written 21 = .ok (.iload_n 3, 1) := by decide +kernel
theorem dX8_written_22 : decode cX8_written 22 = .ok (.aload_n 0, 1) := by decide +kernel
theorem dX8_written_23 : decode cX8_written 23 = .ok (.iload_n 1, 1) := by decide +kernel
theorem dX8_written_24 : decode cX8_written 24 = .ok (.iload_n 2, 1) := by decide +kernel
theorem dX8_written_25 : decode cX8_written 25 = .ok (.invokevirtual 222, 3) := by decide +kernel
theorem dX8_written_28 : decode cX8_written 28 = .ok (.iload 4, 2) := by decide +kernel
theorem dX8_written_30 : decode cX8_written 30 = .ok (.invokevirtual 244, 3) := by decide +kernel
theorem dX8_written_33 : decode cX8_written 33 = .ok (.ireturn, 1) := by decide +kernel
theorem dX8_who_0 : decode cX8_who 0 = .ok (.aload_n 0, 1) := by decide +kernel
theorem dX8_who_1 : decode cX8_who 1 = .ok (.iload_n 1, 1) := by decide +kernel
theorem dX8_who_2 : decode cX8_who 2 = .ok (.iload_n 2, 1) := by decide +kernel
theorem dX8_who_3 : decode cX8_who 3 = .ok (.invokevirtual 215, 3) := by decide +kernel
theorem dX8_who_6 : decode cX8_who 6 = .ok (.ifCond .ne 6, 3) := by decide +kernel
theorem dX8_who_9 : decode cX8_who 9 = .ok (.ldc 198, 2) := by decide +kernel
theorem dX8_who_11 : decode cX8_who 11 = .ok (.ireturn, 1) := by decide +kernel
theorem dX8_who_12 : decode cX8_who 12 = .ok (.iconst 0, 1) := by decide +kernel
theorem dX8_who_13 : decode cX8_who 13 = .ok (.istore_n 3, 1) := by decide +kernel
theorem dX8_who_14 : decode cX8_who 14 = .ok (.iconst 0, 1) := by decide +kernel
theorem dX8_who_15 : decode cX8_who 15 = .ok (.istore 4, 2) := by decide +kernel
theorem dX8_who_17 : decode cX8_who 17 = .ok (.iload 4, 2) := by decide +kernel
theorem dX8_who_19 : decode cX8_who 19 = .ok (.aload_n 0, 1) := by decide +kernel
theorem dX8_who_20 : decode cX8_who 20 = .ok (.getfield 150, 3) := by decide +kernel
theorem dX8_who_23 : decode cX8_who 23 = .ok (.if_icmp .ge 39, 3) := by decide +kernel
theorem dX8_who_26 : decode cX8_who 26 = .ok (.iload_n 3, 1) := by decide +kernel
theorem dX8_who_27 : decode cX8_who 27 = .ok (.aload_n 0, 1) := by decide +kernel
theorem dX8_who_28 : decode cX8_who 28 = .ok (.iload 4, 2) := by decide +kernel
theorem dX8_who_30 : decode cX8_who 30 = .ok (.aload_n 0, 1) := by decide +kernel
theorem dX8_who_31 : decode cX8_who 31 = .ok (.iload_n 1, 1) := by decide +kernel
theorem dX8_who_32 : decode cX8_who 32 = .ok (.iload_n 2, 1) := by decide +kernel
theorem dX8_who_33 : decode cX8_who 33 = .ok (.invokevirtual 222, 3) := by decide +kernel
theorem dX8_who_36 : decode cX8_who 36 = .ok (.iconst (-1), 1) := by decide +kernel
theorem dX8_who_37 : decode cX8_who 37 = .ok (.invokevirtual 244, 3) := by decide +kernel
theorem dX8_who_40 : decode cX8_who 40 = .ok (.ifCond .le 7, 3) := by decide +kernel
theorem dX8_who_43 : decode cX8_who 43 = .ok (.iconst 1, 1) := by decide +kernel
theorem dX8_who_44 : decode cX8_who 44 = .ok (.goto 4, 3) := by decide +kernel
theorem dX8_who_47 : decode cX8_who 47 = .ok (.iconst 0, 1) := by decide +kernel
theorem dX8_who_48 : decode cX8_who 48 = .ok (.invokestatic 172, 3) := by decide +kernel
theorem dX8_who_51 : decode cX8_who 51 = .ok (.iload 4, 2) := by decide +kernel
theorem dX8_who_53 : decode cX8_who 53 = .ok (.ishl, 1) := by decide +kernel
theorem dX8_who_54 : decode cX8_who 54 = .ok (.ior, 1) := by decide +kernel
theorem dX8_who_55 : decode cX8_who 55 = .ok (.istore_n 3, 1) := by decide +kernel
theorem dX8_who_56 : decode cX8_who 56 = .ok (.iinc 4 1, 3) := by decide +kernel
theorem dX8_who_59 : decode cX8_who 59 = .ok (.goto (-42), 3) := by decide +kernel
theorem dX8_who_62 : decode cX8_who 62 = .ok (.iload_n 3, 1) := by decide +kernel
theorem dX8_who_63 : decode cX8_who 63 = .ok (.ireturn, 1) := by decide +kernel
theorem dX8_runFrom_0 : decode cX8_runFrom 0 = .ok (.iconst 0, 1) := by decide +kernel
theorem dX8_runFrom_1 : decode cX8_runFrom 1 = .ok (.istore 5, 2) := by decide +kernel
theorem dX8_runFrom_3 : decode cX8_runFrom 3 = .ok (.iload_n 2, 1) := by decide +kernel
theorem dX8_runFrom_4 : decode cX8_runFrom 4 = .ok (.iload 5, 2) := by decide +kernel
theorem dX8_runFrom_6 : decode cX8_runFrom 6 = .ok (.iadd, 1) := by decide +kernel
theorem dX8_runFrom_7 : decode cX8_runFrom 7 = .ok (.aload_n 0, 1) := by decide +kernel
theorem dX8_runFrom_8 : decode cX8_runFrom 8 = .ok (.getfield 7, 3) := by decide +kernel
theorem dX8_runFrom_11 : decode cX8_runFrom 11 = .ok (.bipush 48, 2) := by decide +kernel
theorem dX8_runFrom_13 : decode cX8_runFrom 13 = .ok (.iload_n 1, 1) := by decide +kernel
theorem dX8_runFrom_14 : decode cX8_runFrom 14 = .ok (.iadd, 1) := by decide +kernel
theorem dX8_runFrom_15 : decode cX8_runFrom 15 = .ok (.iaload, 1) := by decide +kernel
theorem dX8_runFrom_16 : decode cX8_runFrom 16 = .ok (.if_icmp .ge 41, 3) := by decide +kernel
theorem dX8_runFrom_19 : decode cX8_runFrom 19 = .ok (.iload 4, 2) := by decide +kernel
theorem dX8_runFrom_21 : decode cX8_runFrom 21 = .ok (.iload 5, 2) := by decide +kernel
theorem dX8_runFrom_23 : decode cX8_runFrom 23 = .ok (.iadd, 1) := by decide +kernel
theorem dX8_runFrom_24 : decode cX8_runFrom 24 = .ok (.bipush 96, 2) := by decide +kernel
theorem dX8_runFrom_26 : decode cX8_runFrom 26 = .ok (.if_icmp .ge 31, 3) := by decide +kernel
theorem dX8_runFrom_29 : decode cX8_runFrom 29 = .ok (.aload_n 0, 1) := by decide +kernel
theorem dX8_runFrom_30 : decode cX8_runFrom 30 = .ok (.iload_n 3, 1) := by decide +kernel
theorem dX8_runFrom_31 : decode cX8_runFrom 31 = .ok (.iload 4, 2) := by decide +kernel
theorem dX8_runFrom_33 : decode cX8_runFrom 33 = .ok (.iload 5, 2) := by decide +kernel
theorem dX8_runFrom_35 : decode cX8_runFrom 35 = .ok (.iadd, 1) := by decide +kernel
theorem dX8_runFrom_36 : decode cX8_runFrom 36 = .ok (.invokevirtual 212, 3) := by decide +kernel
theorem dX8_runFrom_39 : decode cX8_runFrom 39 = .ok (.aload_n 0, 1) := by decide +kernel
theorem dX8_runFrom_40 : decode cX8_runFrom 40 = .ok (.iload_n 1, 1) := by decide +kernel
theorem dX8_runFrom_41 : decode cX8_runFrom 41 = .ok (.iload_n 2, 1) := by decide +kernel
theorem dX8_runFrom_42 : decode cX8_runFrom 42 = .ok (.iload 5, 2) := by decide +kernel
theorem dX8_runFrom_44 : decode cX8_runFrom 44 = .ok (.iadd, 1) := by decide +kernel
theorem dX8_runFrom_45 : decode cX8_runFrom 45 = .ok (.invokevirtual 222, 3) := by decide +kernel
theorem dX8_runFrom_48 : decode cX8_runFrom 48 = .ok (.if_icmp .ne 9, 3) := by decide +kernel
theorem dX8_runFrom_51 : decode cX8_runFrom 51 = .ok (.iinc 5 1, 3) := by decide +kernel
theorem dX8_runFrom_54 : decode cX8_runFrom 54 = .ok (.goto (-51), 3) := by decide +kernel
theorem dX8_runFrom_57 : decode cX8_runFrom 57 = .ok (.iload 5, 2) := by decide +kernel
theorem dX8_runFrom_59 : decode cX8_runFrom 59 = .ok (.ireturn, 1) := by decide +kernel
theorem dX8_dated_0 : decode cX8_dated 0 = .ok (.aload_n 0, 1) := by decide +kernel
theorem dX8_dated_1 : decode cX8_dated 1 = .ok (.iload_n 1, 1) := by decide +kernel
theorem dX8_dated_2 : decode cX8_dated 2 = .ok (.invokevirtual 166, 3) := by decide +kernel
theorem dX8_dated_5 : decode cX8_dated 5 = .ok (.ifCond .eq 11, 3) := by decide +kernel
theorem dX8_dated_8 : decode cX8_dated 8 = .ok (.aload_n 0, 1) := by decide +kernel
theorem dX8_dated_9 : decode cX8_dated 9 = .ok (.iload_n 2, 1) := by decide +kernel
theorem dX8_dated_10 : decode cX8_dated 10 = .ok (.invokevirtual 195, 3) := by decide +kernel
theorem dX8_dated_13 : decode cX8_dated 13 = .ok (.ifCond .ne 6, 3) := by decide +kernel
theorem dX8_dated_16 : decode cX8_dated 16 = .ok (.ldc 198, 2) := by decide +kernel
theorem dX8_dated_18 : decode cX8_dated 18 = .ok (.ireturn, 1) := by decide +kernel
theorem dX8_dated_19 : decode cX8_dated 19 = .ok (.iload_n 3, 1) := by decide +kernel
theorem dX8_dated_20 : decode cX8_dated 20 = .ok (.i2l, 1) := by decide +kernel
theorem dX8_dated_21 : decode cX8_dated 21 = .ok (.lconst 0, 1) := by decide +kernel
theorem dX8_dated_22 : decode cX8_dated 22 = .ok (.ldc2_w 182, 3) := by decide +kernel
theorem dX8_dated_25 : decode cX8_dated 25 = .ok (.invokestatic 71, 3) := by decide +kernel
theorem dX8_dated_28 : decode cX8_dated 28 = .ok (.ifCond .ne 6, 3) := by decide +kernel
theorem dX8_dated_31 : decode cX8_dated 31 = .ok (.ldc 75, 2) := by decide +kernel
theorem dX8_dated_33 : decode cX8_dated 33 = .ok (.ireturn, 1) := by decide +kernel
theorem dX8_dated_34 : decode cX8_dated 34 = .ok (.iconst 0, 1) := by decide +kernel
theorem dX8_dated_35 : decode cX8_dated 35 = .ok (.istore 4, 2) := by decide +kernel
theorem dX8_dated_37 : decode cX8_dated 37 = .ok (.iconst (-1), 1) := by decide +kernel
theorem dX8_dated_38 : decode cX8_dated 38 = .ok (.istore 5, 2) := by decide +kernel
theorem dX8_dated_40 : decode cX8_dated 40 = .ok (.iconst (-1), 1) := by decide +kernel
theorem dX8_dated_41 : decode cX8_dated 41 = .ok (.istore 6, 2) := by decide +kernel
theorem dX8_dated_43 : decode cX8_dated 43 = .ok (.iconst 0, 1) := by decide +kernel
theorem dX8_dated_44 : decode cX8_dated 44 = .ok (.istore 7, 2) := by decide +kernel
theorem dX8_dated_46 : decode cX8_dated 46 = .ok (.iload 7, 2) := by decide +kernel
theorem dX8_dated_48 : decode cX8_dated 48 = .ok (.bipush 96, 2) := by decide +kernel
theorem dX8_dated_50 : decode cX8_dated 50 = .ok (.if_icmp .ge 51, 3) := by decide +kernel
theorem dX8_dated_53 : decode cX8_dated 53 = .ok (.aload_n 0, 1) := by decide +kernel
theorem dX8_dated_54 : decode cX8_dated 54 = .ok (.iload_n 1, 1) := by decide +kernel
theorem dX8_dated_55 : decode cX8_dated 55 = .ok (.iconst 0, 1) := by decide +kernel
theorem dX8_dated_56 : decode cX8_dated 56 = .ok (.iload_n 2, 1) := by decide +kernel
theorem dX8_dated_57 : decode cX8_dated 57 = .ok (.iload 7, 2) := by decide +kernel
theorem dX8_dated_59 : decode cX8_dated 59 = .ok (.invokevirtual 247, 3) := by decide +kernel
theorem dX8_dated_62 : decode cX8_dated 62 = .ok (.aload_n 0, 1) := by decide +kernel
theorem dX8_dated_63 : decode cX8_dated 63 = .ok (.getfield 7, 3) := by decide +kernel
theorem dX8_dated_66 : decode cX8_dated 66 = .ok (.bipush 48, 2) := by decide +kernel
theorem dX8_dated_68 : decode cX8_dated 68 = .ok (.iload_n 1, 1) := by decide +kernel
theorem dX8_dated_69 : decode cX8_dated 69 = .ok (.iadd, 1) := by decide +kernel
theorem dX8_dated_70 : decode cX8_dated 70 = .ok (.iaload, 1) := by decide +kernel
theorem dX8_dated_71 : decode cX8_dated 71 = .ok (.if_icmp .ne 24, 3) := by decide +kernel
theorem dX8_dated_74 : decode cX8_dated 74 = .ok (.iload 4, 2) := by decide +kernel
theorem dX8_dated_76 : decode cX8_dated 76 = .ok (.ifCond .ne 8, 3) := by decide +kernel
theorem dX8_dated_79 : decode cX8_dated 79 = .ok (.iload 7, 2) := by decide +kernel
theorem dX8_dated_81 : decode cX8_dated 81 = .ok (.goto 5, 3) := by decide +kernel
theorem dX8_dated_84 : decode cX8_dated 84 = .ok (.iload 5, 2) := by decide +kernel
theorem dX8_dated_86 : decode cX8_dated 86 = .ok (.istore 5, 2) := by decide +kernel
theorem dX8_dated_88 : decode cX8_dated 88 = .ok (.iload 7, 2) := by decide +kernel
theorem dX8_dated_90 : decode cX8_dated 90 = .ok (.istore 6, 2) := by decide +kernel
theorem dX8_dated_92 : decode cX8_dated 92 = .ok (.iinc 4 1, 3) := by decide +kernel
theorem dX8_dated_95 : decode cX8_dated 95 = .ok (.iinc 7 1, 3) := by decide +kernel
theorem dX8_dated_98 : decode cX8_dated 98 = .ok (.goto (-52), 3) := by decide +kernel
theorem dX8_dated_101 : decode cX8_dated 101 = .ok (.iload_n 3, 1) := by decide +kernel
theorem dX8_dated_102 : decode cX8_dated 102 = .ok (.ifCond .ne 8, 3) := by decide +kernel
theorem dX8_dated_105 : decode cX8_dated 105 = .ok (.iload 4, 2) := by decide +kernel
theorem dX8_dated_107 : decode cX8_dated 107 = .ok (.goto 15, 3) := by decide +kernel
theorem dX8_dated_110 : decode cX8_dated 110 = .ok (.iload_n 3, 1) := by decide +kernel
theorem dX8_dated_111 : decode cX8_dated 111 = .ok (.iconst 1, 1) := by decide +kernel
theorem dX8_dated_112 : decode cX8_dated 112 = .ok (.if_icmp .ne 8, 3) := by decide +kernel
theorem dX8_dated_115 : decode cX8_dated 115 = .ok (.iload 5, 2) := by decide +kernel
theorem dX8_dated_117 : decode cX8_dated 117 = .ok (.goto 5, 3) := by decide +kernel
theorem dX8_dated_120 : decode cX8_dated 120 = .ok (.iload 6, 2) := by decide +kernel
theorem dX8_dated_122 : decode cX8_dated 122 = .ok (.ireturn, 1) := by decide +kernel
theorem dX8_longestRun_0 : decode cX8_longestRun 0 = .ok (.iconst 0, 1) := by decide +kernel
theorem dX8_longestRun_1 : decode cX8_longestRun 1 = .ok (.istore 4, 2) := by decide +kernel
theorem dX8_longestRun_3 : decode cX8_longestRun 3 = .ok (.iconst 0, 1) := by decide +kernel
theorem dX8_longestRun_4 : decode cX8_longestRun 4 = .ok (.istore 5, 2) := by decide +kernel
theorem dX8_longestRun_6 : decode cX8_longestRun 6 = .ok (.iload 5, 2) := by decide +kernel
theorem dX8_longestRun_8 : decode cX8_longestRun 8 = .ok (.bipush 96, 2) := by decide +kernel
theorem dX8_longestRun_10 : decode cX8_longestRun 10 = .ok (.if_icmp .ge 36, 3) := by decide +kernel
theorem dX8_longestRun_13 : decode cX8_longestRun 13 = .ok (.aload_n 0, 1) := by decide +kernel
theorem dX8_longestRun_14 : decode cX8_longestRun 14 = .ok (.iload_n 1, 1) := by decide +kernel
theorem dX8_longestRun_15 : decode cX8_longestRun 15 = .ok (.iload_n 2, 1) := by decide +kernel
theorem dX8_longestRun_16 : decode cX8_longestRun 16 = .ok (.iload_n 3, 1) := by decide +kernel
theorem dX8_longestRun_17 : decode cX8_longestRun 17 = .ok (.iload 5, 2) := by decide +kernel
theorem dX8_longestRun_19 : decode cX8_longestRun 19 = .ok (.invokevirtual 247, 3) := by decide +kernel
theorem dX8_longestRun_22 : decode cX8_longestRun 22 = .ok (.istore 6, 2) := by decide +kernel
theorem dX8_longestRun_24 : decode cX8_longestRun 24 = .ok (.iload 6, 2) := by decide +kernel
theorem dX8_longestRun_26 : decode cX8_longestRun 26 = .ok (.iload 4, 2) := by decide +kernel
theorem dX8_longestRun_28 : decode cX8_longestRun 28 = .ok (.if_icmp .le 8, 3) := by decide +kernel
theorem dX8_longestRun_31 : decode cX8_longestRun 31 = .ok (.iload 6, 2) := by decide +kernel
theorem dX8_longestRun_33 : decode cX8_longestRun 33 = .ok (.goto 5, 3) := by decide +kernel
theorem dX8_longestRun_36 : decode cX8_longestRun 36 = .ok (.iload 4, 2) := by decide +kernel
theorem dX8_longestRun_38 : decode cX8_longestRun 38 = .ok (.istore 4, 2) := by decide +kernel
theorem dX8_longestRun_40 : decode cX8_longestRun 40 = .ok (.iinc 5 1, 3) := by decide +kernel
theorem dX8_longestRun_43 : decode cX8_longestRun 43 = .ok (.goto (-37), 3) := by decide +kernel
theorem dX8_longestRun_46 : decode cX8_longestRun 46 = .ok (.iload 4, 2) := by decide +kernel
theorem dX8_longestRun_48 : decode cX8_longestRun 48 = .ok (.ireturn, 1) := by decide +kernel
theorem dX8_addedAt_0 : decode cX8_addedAt 0 = .ok (.aload_n 0, 1) := by decide +kernel
theorem dX8_addedAt_1 : decode cX8_addedAt 1 = .ok (.iload_n 1, 1) := by decide +kernel
theorem dX8_addedAt_2 : decode cX8_addedAt 2 = .ok (.invokevirtual 166, 3) := by decide +kernel
theorem dX8_addedAt_5 : decode cX8_addedAt 5 = .ok (.ifCond .eq 11, 3) := by decide +kernel
theorem dX8_addedAt_8 : decode cX8_addedAt 8 = .ok (.aload_n 0, 1) := by decide +kernel
theorem dX8_addedAt_9 : decode cX8_addedAt 9 = .ok (.iload_n 2, 1) := by decide +kernel
theorem dX8_addedAt_10 : decode cX8_addedAt 10 = .ok (.invokevirtual 195, 3) := by decide +kernel
theorem dX8_addedAt_13 : decode cX8_addedAt 13 = .ok (.ifCond .ne 6, 3) := by decide +kernel
theorem dX8_addedAt_16 : decode cX8_addedAt 16 = .ok (.ldc 198, 2) := by decide +kernel
theorem dX8_addedAt_18 : decode cX8_addedAt 18 = .ok (.ireturn, 1) := by decide +kernel
theorem dX8_addedAt_19 : decode cX8_addedAt 19 = .ok (.iload_n 3, 1) := by decide +kernel
theorem dX8_addedAt_20 : decode cX8_addedAt 20 = .ok (.i2l, 1) := by decide +kernel
theorem dX8_addedAt_21 : decode cX8_addedAt 21 = .ok (.lconst 0, 1) := by decide +kernel
theorem dX8_addedAt_22 : decode cX8_addedAt 22 = .ok (.lconst 1, 1) := by decide +kernel
theorem dX8_addedAt_23 : decode cX8_addedAt 23 = .ok (.invokestatic 71, 3) := by decide +kernel
theorem dX8_addedAt_26 : decode cX8_addedAt 26 = .ok (.ifCond .ne 6, 3) := by decide +kernel
theorem dX8_addedAt_29 : decode cX8_addedAt 29 = .ok (.ldc 75, 2) := by decide +kernel
theorem dX8_addedAt_31 : decode cX8_addedAt 31 = .ok (.ireturn, 1) := by decide +kernel
theorem dX8_addedAt_32 : decode cX8_addedAt 32 = .ok (.iload_n 3, 1) := by decide +kernel
theorem dX8_addedAt_33 : decode cX8_addedAt 33 = .ok (.ifCond .ne 11, 3) := by decide +kernel
theorem dX8_addedAt_36 : decode cX8_addedAt 36 = .ok (.aload_n 0, 1) := by decide +kernel
theorem dX8_addedAt_37 : decode cX8_addedAt 37 = .ok (.iload_n 1, 1) := by decide +kernel
theorem dX8_addedAt_38 : decode cX8_addedAt 38 = .ok (.iconst 0, 1) := by decide +kernel
theorem dX8_addedAt_39 : decode cX8_addedAt 39 = .ok (.iload_n 2, 1) := by decide +kernel
theorem dX8_addedAt_40 : decode cX8_addedAt 40 = .ok (.invokevirtual 251, 3) := by decide +kernel
theorem dX8_addedAt_43 : decode cX8_addedAt 43 = .ok (.ireturn, 1) := by decide +kernel
theorem dX8_addedAt_44 : decode cX8_addedAt 44 = .ok (.iconst 0, 1) := by decide +kernel
theorem dX8_addedAt_45 : decode cX8_addedAt 45 = .ok (.istore 4, 2) := by decide +kernel
theorem dX8_addedAt_47 : decode cX8_addedAt 47 = .ok (.iconst 0, 1) := by decide +kernel
theorem dX8_addedAt_48 : decode cX8_addedAt 48 = .ok (.istore 5, 2) := by decide +kernel
theorem dX8_addedAt_50 : decode cX8_addedAt 50 = .ok (.iload 5, 2) := by decide +kernel
theorem dX8_addedAt_52 : decode cX8_addedAt 52 = .ok (.aload_n 0, 1) := by decide +kernel
theorem dX8_addedAt_53 : decode cX8_addedAt 53 = .ok (.getfield 7, 3) := by decide +kernel
theorem dX8_addedAt_56 : decode cX8_addedAt 56 = .ok (.bipush 48, 2) := by decide +kernel
theorem dX8_addedAt_58 : decode cX8_addedAt 58 = .ok (.iload_n 1, 1) := by decide +kernel
theorem dX8_addedAt_59 : decode cX8_addedAt 59 = .ok (.iadd, 1) := by decide +kernel
theorem dX8_addedAt_60 : decode cX8_addedAt 60 = .ok (.iaload, 1) := by decide +kernel
theorem dX8_addedAt_61 : decode cX8_addedAt 61 = .ok (.if_icmp .ge 33, 3) := by decide +kernel
theorem dX8_addedAt_64 : decode cX8_addedAt 64 = .ok (.aload_n 0, 1) := by decide +kernel
theorem dX8_addedAt_65 : decode cX8_addedAt 65 = .ok (.iload_n 1, 1) := by decide +kernel
theorem dX8_addedAt_66 : decode cX8_addedAt 66 = .ok (.iload 5, 2) := by decide +kernel
theorem dX8_addedAt_68 : decode cX8_addedAt 68 = .ok (.iload_n 2, 1) := by decide +kernel
theorem dX8_addedAt_69 : decode cX8_addedAt 69 = .ok (.invokevirtual 251, 3) := by decide +kernel
theorem dX8_addedAt_72 : decode cX8_addedAt 72 = .ok (.istore 6, 2) := by decide +kernel
theorem dX8_addedAt_74 : decode cX8_addedAt 74 = .ok (.iload 6, 2) := by decide +kernel
theorem dX8_addedAt_76 : decode cX8_addedAt 76 = .ok (.ifCond .ne 5, 3) := by decide +kernel
theorem dX8_addedAt_79 : decode cX8_addedAt 79 = .ok (.iconst (-1), 1) := by decide +kernel
theorem dX8_addedAt_80 : decode cX8_addedAt 80 = .ok (.ireturn, 1) := by decide +kernel
theorem dX8_addedAt_81 : decode cX8_addedAt 81 = .ok (.iload 5, 2) := by decide +kernel
theorem dX8_addedAt_83 : decode cX8_addedAt 83 = .ok (.iload 6, 2) := by decide +kernel
theorem dX8_addedAt_85 : decode cX8_addedAt 85 = .ok (.iadd, 1) := by decide +kernel
theorem dX8_addedAt_86 : decode cX8_addedAt 86 = .ok (.istore 5, 2) := by decide +kernel
theorem dX8_addedAt_88 : decode cX8_addedAt 88 = .ok (.iinc 4 1, 3) := by decide +kernel
theorem dX8_addedAt_91 : decode cX8_addedAt 91 = .ok (.goto (-41), 3) := by decide +kernel
theorem dX8_addedAt_94 : decode cX8_addedAt 94 = .ok (.iload 4, 2) := by decide +kernel
theorem dX8_addedAt_96 : decode cX8_addedAt 96 = .ok (.ireturn, 1) := by decide +kernel
theorem dX8_couldBegin_0 : decode cX8_couldBegin 0 = .ok (.iload_n 3, 1) := by decide +kernel
theorem dX8_couldBegin_1 : decode cX8_couldBegin 1 = .ok (.aload_n 0, 1) := by decide +kernel
theorem dX8_couldBegin_2 : decode cX8_couldBegin 2 = .ok (.getfield 7, 3) := by decide +kernel
theorem dX8_couldBegin_5 : decode cX8_couldBegin 5 = .ok (.bipush 48, 2) := by decide +kernel
theorem dX8_couldBegin_7 : decode cX8_couldBegin 7 = .ok (.iload_n 1, 1) := by decide +kernel
theorem dX8_couldBegin_8 : decode cX8_couldBegin 8 = .ok (.iadd, 1) := by decide +kernel
theorem dX8_couldBegin_9 : decode cX8_couldBegin 9 = .ok (.iaload, 1) := by decide +kernel
theorem dX8_couldBegin_10 : decode cX8_couldBegin 10 = .ok (.iadd, 1) := by decide +kernel
theorem dX8_couldBegin_11 : decode cX8_couldBegin 11 = .ok (.bipush 96, 2) := by decide +kernel
theorem dX8_couldBegin_13 : decode cX8_couldBegin 13 = .ok (.if_icmp .gt 7, 3) := by decide +kernel
theorem dX8_couldBegin_16 : decode cX8_couldBegin 16 = .ok (.iconst 1, 1) := by decide +kernel
theorem dX8_couldBegin_17 : decode cX8_couldBegin 17 = .ok (.goto 4, 3) := by decide +kernel
theorem dX8_couldBegin_20 : decode cX8_couldBegin 20 = .ok (.iconst 0, 1) := by decide +kernel
theorem dX8_couldBegin_21 : decode cX8_couldBegin 21 = .ok (.istore 4, 2) := by decide +kernel
theorem dX8_couldBegin_23 : decode cX8_couldBegin 23 = .ok (.iconst 0, 1) := by decide +kernel
theorem dX8_couldBegin_24 : decode cX8_couldBegin 24 = .ok (.istore 5, 2) := by decide +kernel
theorem dX8_couldBegin_26 : decode cX8_couldBegin 26 = .ok (.iload 5, 2) := by decide +kernel
theorem dX8_couldBegin_28 : decode cX8_couldBegin 28 = .ok (.aload_n 0, 1) := by decide +kernel
theorem dX8_couldBegin_29 : decode cX8_couldBegin 29 = .ok (.getfield 7, 3) := by decide +kernel
theorem dX8_couldBegin_32 : decode cX8_couldBegin 32 = .ok (.bipush 48, 2) := by decide +kernel
theorem dX8_couldBegin_34 : decode cX8_couldBegin 34 = .ok (.iload_n 1, 1) := by decide +kernel
theorem dX8_couldBegin_35 : decode cX8_couldBegin 35 = .ok (.iadd, 1) := by decide +kernel
theorem dX8_couldBegin_36 : decode cX8_couldBegin 36 = .ok (.iaload, 1) := by decide +kernel
theorem dX8_couldBegin_37 : decode cX8_couldBegin 37 = .ok (.if_icmp .ge 54, 3) := by decide +kernel
theorem dX8_couldBegin_40 : decode cX8_couldBegin 40 = .ok (.iload 4, 2) := by decide +kernel
theorem dX8_couldBegin_42 : decode cX8_couldBegin 42 = .ok (.ifCond .eq 49, 3) := by decide +kernel
theorem dX8_couldBegin_45 : decode cX8_couldBegin 45 = .ok (.aload_n 0, 1) := by decide +kernel
theorem dX8_couldBegin_46 : decode cX8_couldBegin 46 = .ok (.getfield 48, 3) := by decide +kernel
theorem dX8_couldBegin_49 : decode cX8_couldBegin 49 = .ok (.iload_n 1, 1) := by decide +kernel
theorem dX8_couldBegin_50 : decode cX8_couldBegin 50 = .ok (.iaload, 1) := by decide +kernel
theorem dX8_couldBegin_51 : decode cX8_couldBegin 51 = .ok (.iload 5, 2) := by decide +kernel
theorem dX8_couldBegin_53 : decode cX8_couldBegin 53 = .ok (.invokestatic 254, 3) := by decide +kernel
theorem dX8_couldBegin_56 : decode cX8_couldBegin 56 = .ok (.ifCond .eq 22, 3) := by decide +kernel
theorem dX8_couldBegin_59 : decode cX8_couldBegin 59 = .ok (.aload_n 0, 1) := by decide +kernel
theorem dX8_couldBegin_60 : decode cX8_couldBegin 60 = .ok (.iload_n 2, 1) := by decide +kernel
theorem dX8_couldBegin_61 : decode cX8_couldBegin 61 = .ok (.iload_n 3, 1) := by decide +kernel
theorem dX8_couldBegin_62 : decode cX8_couldBegin 62 = .ok (.iload 5, 2) := by decide +kernel
theorem dX8_couldBegin_64 : decode cX8_couldBegin 64 = .ok (.iadd, 1) := by decide +kernel
theorem dX8_couldBegin_65 : decode cX8_couldBegin 65 = .ok (.invokevirtual 212, 3) := by decide +kernel
theorem dX8_couldBegin_68 : decode cX8_couldBegin 68 = .ok (.aload_n 0, 1) := by decide +kernel
theorem dX8_couldBegin_69 : decode cX8_couldBegin 69 = .ok (.iload_n 1, 1) := by decide +kernel
theorem dX8_couldBegin_70 : decode cX8_couldBegin 70 = .ok (.iload 5, 2) := by decide +kernel
theorem dX8_couldBegin_72 : decode cX8_couldBegin 72 = .ok (.invokevirtual 222, 3) := by decide +kernel
theorem dX8_couldBegin_75 : decode cX8_couldBegin 75 = .ok (.if_icmp .ne 7, 3) := by decide +kernel
theorem dX8_couldBegin_78 : decode cX8_couldBegin 78 = .ok (.iconst 1, 1) := by decide +kernel
theorem dX8_couldBegin_79 : decode cX8_couldBegin 79 = .ok (.goto 4, 3) := by decide +kernel
theorem dX8_couldBegin_82 : decode cX8_couldBegin 82 = .ok (.iconst 0, 1) := by decide +kernel
theorem dX8_couldBegin_83 : decode cX8_couldBegin 83 = .ok (.istore 4, 2) := by decide +kernel
theorem dX8_couldBegin_85 : decode cX8_couldBegin 85 = .ok (.iinc 5 1, 3) := by decide +kernel
theorem dX8_couldBegin_88 : decode cX8_couldBegin 88 = .ok (.goto (-62), 3) := by decide +kernel
theorem dX8_couldBegin_91 : decode cX8_couldBegin 91 = .ok (.iload 4, 2) := by decide +kernel
theorem dX8_couldBegin_93 : decode cX8_couldBegin 93 = .ok (.ireturn, 1) := by decide +kernel
theorem dX8_findBegins_0 : decode cX8_findBegins 0 = .ok (.iconst 0, 1) := by decide +kernel
theorem dX8_findBegins_1 : decode cX8_findBegins 1 = .ok (.istore_n 2, 1) := by decide +kernel
theorem dX8_findBegins_2 : decode cX8_findBegins 2 = .ok (.iconst 0, 1) := by decide +kernel
theorem dX8_findBegins_3 : decode cX8_findBegins 3 = .ok (.istore_n 3, 1) := by decide +kernel
theorem dX8_findBegins_4 : decode cX8_findBegins 4 = .ok (.iload_n 3, 1) := by decide +kernel
theorem dX8_findBegins_5 : decode cX8_findBegins 5 = .ok (.aload_n 0, 1) := by decide +kernel
theorem dX8_findBegins_6 : decode cX8_findBegins 6 = .ok (.getfield 150, 3) := by decide +kernel
theorem dX8_findBegins_9 : decode cX8_findBegins 9 = .ok (.if_icmp .ge 63, 3) := by decide +kernel
theorem dX8_findBegins_12 : decode cX8_findBegins 12 = .ok (.iconst 0, 1) := by decide +kernel
theorem dX8_findBegins_13 : decode cX8_findBegins 13 = .ok (.istore 4, 2) := by decide +kernel
theorem dX8_findBegins_15 : decode cX8_findBegins 15 = .ok (.iload 4, 2) := by decide +kernel
theorem dX8_findBegins_17 : decode cX8_findBegins 17 = .ok (.bipush 96, 2) := by decide +kernel
theorem dX8_findBegins_19 : decode cX8_findBegins 19 = .ok (.if_icmp .ge 47, 3) := by decide +kernel
theorem dX8_findBegins_22 : decode cX8_findBegins 22 = .ok (.aload_n 0, 1) := by decide +kernel
theorem dX8_findBegins_23 : decode cX8_findBegins 23 = .ok (.getfield 51, 3) := by decide +kernel
theorem dX8_findBegins_26 : decode cX8_findBegins 26 = .ok (.bipush 96, 2) := by decide +kernel
theorem dX8_findBegins_28 : decode cX8_findBegins 28 = .ok (.iload_n 3, 1) := by decide +kernel
theorem dX8_findBegins_29 : decode cX8_findBegins 29 = .ok (.imul, 1) := by decide +kernel
theorem dX8_findBegins_30 : decode cX8_findBegins 30 = .ok (.iload 4, 2) := by decide +kernel
theorem dX8_findBegins_32 : decode cX8_findBegins 32 = .ok (.iadd, 1) := by decide +kernel
theorem dX8_findBegins_33 : decode cX8_findBegins 33 = .ok (.aload_n 0, 1) := by decide +kernel
theorem dX8_findBegins_34 : decode cX8_findBegins 34 = .ok (.iload_n 1, 1) := by decide +kernel
theorem dX8_findBegins_35 : decode cX8_findBegins 35 = .ok (.iload_n 3, 1) := by decide +kernel
theorem dX8_findBegins_36 : decode cX8_findBegins 36 = .ok (.iload 4, 2) := by decide +kernel
theorem dX8_findBegins_38 : decode cX8_findBegins 38 = .ok (.invokevirtual 257, 3) := by decide +kernel
theorem dX8_findBegins_41 : decode cX8_findBegins 41 = .ok (.bastore, 1) := by decide +kernel
theorem dX8_findBegins_42 : decode cX8_findBegins 42 = .ok (.iload_n 2, 1) := by decide +kernel
theorem dX8_findBegins_43 : decode cX8_findBegins 43 = .ok (.aload_n 0, 1) := by decide +kernel
theorem dX8_findBegins_44 : decode cX8_findBegins 44 = .ok (.getfield 51, 3) := by decide +kernel
theorem dX8_findBegins_47 : decode cX8_findBegins 47 = .ok (.bipush 96, 2) := by decide +kernel
theorem dX8_findBegins_49 : decode cX8_findBegins 49 = .ok (.iload_n 3, 1) := by decide +kernel
theorem dX8_findBegins_50 : decode cX8_findBegins 50 = .ok (.imul, 1) := by decide +kernel
theorem dX8_findBegins_51 : decode cX8_findBegins 51 = .ok (.iload 4, 2) := by decide +kernel
theorem dX8_findBegins_53 : decode cX8_findBegins 53 = .ok (.iadd, 1) := by decide +kernel
theorem dX8_findBegins_54 : decode cX8_findBegins 54 = .ok (.baload, 1) := by decide +kernel
theorem dX8_findBegins_55 : decode cX8_findBegins 55 = .ok (.invokestatic 172, 3) := by decide +kernel
theorem dX8_findBegins_58 : decode cX8_findBegins 58 = .ok (.iadd, 1) := by decide +kernel
theorem dX8_findBegins_59 : decode cX8_findBegins 59 = .ok (.istore_n 2, 1) := by decide +kernel
theorem dX8_findBegins_60 : decode cX8_findBegins 60 = .ok (.iinc 4 1, 3) := by decide +kernel
theorem dX8_findBegins_63 : decode cX8_findBegins 63 = .ok (.goto (-48), 3) := by decide +kernel
theorem dX8_findBegins_66 : decode cX8_findBegins 66 = .ok (.iinc 3 1, 3) := by decide +kernel
theorem dX8_findBegins_69 : decode cX8_findBegins 69 = .ok (.goto (-65), 3) := by decide +kernel
theorem dX8_findBegins_72 : decode cX8_findBegins 72 = .ok (.iload_n 2, 1) := by decide +kernel
theorem dX8_findBegins_73 : decode cX8_findBegins 73 = .ok (.ireturn, 1) := by decide +kernel
theorem dX8_greatestPart_0 : decode cX8_greatestPart 0 = .ok (.iconst 0, 1) := by decide +kernel
theorem dX8_greatestPart_1 : decode cX8_greatestPart 1 = .ok (.istore_n 2, 1) := by decide +kernel
theorem dX8_greatestPart_2 : decode cX8_greatestPart 2 = .ok (.iconst 0, 1) := by decide +kernel
theorem dX8_greatestPart_3 : decode cX8_greatestPart 3 = .ok (.istore_n 3, 1) := by decide +kernel
theorem dX8_greatestPart_4 : decode cX8_greatestPart 4 = .ok (.iload_n 3, 1) := by decide +kernel
theorem dX8_greatestPart_5 : decode cX8_greatestPart 5 = .ok (.bipush 96, 2) := by decide +kernel
theorem dX8_greatestPart_7 : decode cX8_greatestPart 7 = .ok (.aload_n 0, 1) := by decide +kernel
theorem dX8_greatestPart_8 : decode cX8_greatestPart 8 = .ok (.getfield 150, 3) := by decide +kernel
theorem dX8_greatestPart_11 : decode cX8_greatestPart 11 = .ok (.imul, 1) := by decide +kernel
theorem dX8_greatestPart_12 : decode cX8_greatestPart 12 = .ok (.if_icmp .ge 68, 3) := by decide +kernel
theorem dX8_greatestPart_15 : decode cX8_greatestPart 15 = .ok (.aload_n 0, 1) := by decide +kernel
theorem dX8_greatestPart_16 : decode cX8_greatestPart 16 = .ok (.getfield 51, 3) := by decide +kernel
theorem dX8_greatestPart_19 : decode cX8_greatestPart 19 = .ok (.iload_n 3, 1) := by decide +kernel
theorem dX8_greatestPart_20 : decode cX8_greatestPart 20 = .ok (.baload, 1) := by decide +kernel
theorem dX8_greatestPart_21 : decode cX8_greatestPart 21 = .ok (.ifCond .eq 53, 3) := by decide +kernel
theorem dX8_greatestPart_24 : decode cX8_greatestPart 24 = .ok (.aload_n 0, 1) := by decide +kernel
theorem dX8_greatestPart_25 : decode cX8_greatestPart 25 = .ok (.iload_n 3, 1) := by decide +kernel
theorem dX8_greatestPart_26 : decode cX8_greatestPart 26 = .ok (.bipush 96, 2) := by decide +kernel
theorem dX8_greatestPart_28 : decode cX8_greatestPart 28 = .ok (.idiv, 1) := by decide +kernel
theorem dX8_greatestPart_29 : decode cX8_greatestPart 29 = .ok (.iload_n 3, 1) := by decide +kernel
theorem dX8_greatestPart_30 : decode cX8_greatestPart 30 = .ok (.bipush 96, 2) := by decide +kernel
theorem dX8_greatestPart_32 : decode cX8_greatestPart 32 = .ok (.irem, 1) := by decide +kernel
theorem dX8_greatestPart_33 : decode cX8_greatestPart 33 = .ok (.iload_n 1, 1) := by decide +kernel
theorem dX8_greatestPart_34 : decode cX8_greatestPart 34 = .ok (.iadd, 1) := by decide +kernel
theorem dX8_greatestPart_35 : decode cX8_greatestPart 35 = .ok (.invokevirtual 212, 3) := by decide +kernel
theorem dX8_greatestPart_38 : decode cX8_greatestPart 38 = .ok (.istore 4, 2) := by decide +kernel
theorem dX8_greatestPart_40 : decode cX8_greatestPart 40 = .ok (.aload_n 0, 1) := by decide +kernel
theorem dX8_greatestPart_41 : decode cX8_greatestPart 41 = .ok (.getfield 54, 3) := by decide +kernel
theorem dX8_greatestPart_44 : decode cX8_greatestPart 44 = .ok (.iload 4, 2) := by decide +kernel
theorem dX8_greatestPart_46 : decode cX8_greatestPart 46 = .ok (.dup2, 1) := by decide +kernel
theorem dX8_greatestPart_47 : decode cX8_greatestPart 47 = .ok (.iaload, 1) := by decide +kernel
theorem dX8_greatestPart_48 : decode cX8_greatestPart 48 = .ok (.iconst 1, 1) := by decide +kernel
theorem dX8_greatestPart_49 : decode cX8_greatestPart 49 = .ok (.iadd, 1) := by decide +kernel
theorem dX8_greatestPart_50 : decode cX8_greatestPart 50 = .ok (.iastore, 1) := by decide +kernel
theorem dX8_greatestPart_51 : decode cX8_greatestPart 51 = .ok (.aload_n 0, 1) := by decide +kernel
theorem dX8_greatestPart_52 : decode cX8_greatestPart 52 = .ok (.getfield 54, 3) := by decide +kernel
theorem dX8_greatestPart_55 : decode cX8_greatestPart 55 = .ok (.iload 4, 2) := by decide +kernel
theorem dX8_greatestPart_57 : decode cX8_greatestPart 57 = .ok (.iaload, 1) := by decide +kernel
theorem dX8_greatestPart_58 : decode cX8_greatestPart 58 = .ok (.iload_n 2, 1) := by decide +kernel
theorem dX8_greatestPart_59 : decode cX8_greatestPart 59 = .ok (.if_icmp .le 13, 3) := by decide +kernel
theorem dX8_greatestPart_62 : decode cX8_greatestPart 62 = .ok (.aload_n 0, 1) := by decide +kernel
theorem dX8_greatestPart_63 : decode cX8_greatestPart 63 = .ok (.getfield 54, 3) := by decide +kernel
theorem dX8_greatestPart_66 : decode cX8_greatestPart 66 = .ok (.iload 4, 2) := by decide +kernel
theorem dX8_greatestPart_68 : decode cX8_greatestPart 68 = .ok (.iaload, 1) := by decide +kernel
theorem dX8_greatestPart_69 : decode cX8_greatestPart 69 = .ok (.goto 4, 3) := by decide +kernel
theorem dX8_greatestPart_72 : decode cX8_greatestPart 72 = .ok (.iload_n 2, 1) := by decide +kernel
theorem dX8_greatestPart_73 : decode cX8_greatestPart 73 = .ok (.istore_n 2, 1) := by decide +kernel
theorem dX8_greatestPart_74 : decode cX8_greatestPart 74 = .ok (.iinc 3 1, 3) := by decide +kernel
theorem dX8_greatestPart_77 : decode cX8_greatestPart 77 = .ok (.goto (-73), 3) := by decide +kernel
theorem dX8_greatestPart_80 : decode cX8_greatestPart 80 = .ok (.iconst 0, 1) := by decide +kernel
theorem dX8_greatestPart_81 : decode cX8_greatestPart 81 = .ok (.istore_n 3, 1) := by decide +kernel
theorem dX8_greatestPart_82 : decode cX8_greatestPart 82 = .ok (.iload_n 3, 1) := by decide +kernel
theorem dX8_greatestPart_83 : decode cX8_greatestPart 83 = .ok (.bipush 96, 2) := by decide +kernel
theorem dX8_greatestPart_85 : decode cX8_greatestPart 85 = .ok (.aload_n 0, 1) := by decide +kernel
theorem dX8_greatestPart_86 : decode cX8_greatestPart 86 = .ok (.getfield 150, 3) := by decide +kernel
theorem dX8_greatestPart_89 : decode cX8_greatestPart 89 = .ok (.imul, 1) := by decide +kernel
theorem dX8_greatestPart_90 : decode cX8_greatestPart 90 = .ok (.if_icmp .ge 38, 3) := by decide +kernel
theorem dX8_greatestPart_93 : decode cX8_greatestPart 93 = .ok (.aload_n 0, 1) := by decide +kernel
theorem dX8_greatestPart_94 : decode cX8_greatestPart 94 = .ok (.getfield 51, 3) := by decide +kernel
theorem dX8_greatestPart_97 : decode cX8_greatestPart 97 = .ok (.iload_n 3, 1) := by decide +kernel
theorem dX8_greatestPart_98 : decode cX8_greatestPart 98 = .ok (.baload, 1) := by decide +kernel
theorem dX8_greatestPart_99 : decode cX8_greatestPart 99 = .ok (.ifCond .eq 23, 3) := by decide +kernel
theorem dX8_greatestPart_102 : decode cX8_greatestPart 102 = .ok (.aload_n 0, 1) := by decide +kernel
theorem dX8_greatestPart_103 : decode cX8_greatestPart 103 = .ok (.getfield 54, 3) := by decide +kernel
theorem dX8_greatestPart_106 : decode cX8_greatestPart 106 = .ok (.aload_n 0, 1) := by decide +kernel
theorem dX8_greatestPart_107 : decode cX8_greatestPart 107 = .ok (.iload_n 3, 1) := by decide +kernel
theorem dX8_greatestPart_108 : decode cX8_greatestPart 108 = .ok (.bipush 96, 2) := by decide +kernel
theorem dX8_greatestPart_110 : decode cX8_greatestPart 110 = .ok (.idiv, 1) := by decide +kernel
theorem dX8_greatestPart_111 : decode cX8_greatestPart 111 = .ok (.iload_n 3, 1) := by decide +kernel
theorem dX8_greatestPart_112 : decode cX8_greatestPart 112 = .ok (.bipush 96, 2) := by decide +kernel
theorem dX8_greatestPart_114 : decode cX8_greatestPart 114 = .ok (.irem, 1) := by decide +kernel
theorem dX8_greatestPart_115 : decode cX8_greatestPart 115 = .ok (.iload_n 1, 1) := by decide +kernel
theorem dX8_greatestPart_116 : decode cX8_greatestPart 116 = .ok (.iadd, 1) := by decide +kernel
theorem dX8_greatestPart_117 : decode cX8_greatestPart 117 = .ok (.invokevirtual 212, 3) := by decide +kernel
theorem dX8_greatestPart_120 : decode cX8_greatestPart 120 = .ok (.iconst 0, 1) := by decide +kernel
theorem dX8_greatestPart_121 : decode cX8_greatestPart 121 = .ok (.iastore, 1) := by decide +kernel
theorem dX8_greatestPart_122 : decode cX8_greatestPart 122 = .ok (.iinc 3 1, 3) := by decide +kernel
theorem dX8_greatestPart_125 : decode cX8_greatestPart 125 = .ok (.goto (-43), 3) := by decide +kernel
theorem dX8_greatestPart_128 : decode cX8_greatestPart 128 = .ok (.iload_n 2, 1) := by decide +kernel
theorem dX8_greatestPart_129 : decode cX8_greatestPart 129 = .ok (.ireturn, 1) := by decide +kernel
theorem dX8_next_0 : decode cX8_next 0 = .ok (.aload_n 0, 1) := by decide +kernel
theorem dX8_next_1 : decode cX8_next 1 = .ok (.iload_n 1, 1) := by decide +kernel
theorem dX8_next_2 : decode cX8_next 2 = .ok (.invokevirtual 166, 3) := by decide +kernel
theorem dX8_next_5 : decode cX8_next 5 = .ok (.ifCond .ne 6, 3) := by decide +kernel
theorem dX8_next_8 : decode cX8_next 8 = .ok (.ldc 198, 2) := by decide +kernel
theorem dX8_next_10 : decode cX8_next 10 = .ok (.ireturn, 1) := by decide +kernel
theorem dX8_next_11 : decode cX8_next 11 = .ok (.iload_n 2, 1) := by decide +kernel
theorem dX8_next_12 : decode cX8_next 12 = .ok (.i2l, 1) := by decide +kernel
theorem dX8_next_13 : decode cX8_next 13 = .ok (.lconst 0, 1) := by decide +kernel
theorem dX8_next_14 : decode cX8_next 14 = .ok (.lconst 1, 1) := by decide +kernel
theorem dX8_next_15 : decode cX8_next 15 = .ok (.invokestatic 71, 3) := by decide +kernel
theorem dX8_next_18 : decode cX8_next 18 = .ok (.ifCond .ne 6, 3) := by decide +kernel
theorem dX8_next_21 : decode cX8_next 21 = .ok (.ldc 75, 2) := by decide +kernel
theorem dX8_next_23 : decode cX8_next 23 = .ok (.ireturn, 1) := by decide +kernel
theorem dX8_next_24 : decode cX8_next 24 = .ok (.aload_n 0, 1) := by decide +kernel
theorem dX8_next_25 : decode cX8_next 25 = .ok (.iload_n 1, 1) := by decide +kernel
theorem dX8_next_26 : decode cX8_next 26 = .ok (.invokevirtual 261, 3) := by decide +kernel
theorem dX8_next_29 : decode cX8_next 29 = .ok (.istore_n 3, 1) := by decide +kernel
theorem dX8_next_30 : decode cX8_next 30 = .ok (.iconst (-1), 1) := by decide +kernel
theorem dX8_next_31 : decode cX8_next 31 = .ok (.istore 4, 2) := by decide +kernel
theorem dX8_next_33 : decode cX8_next 33 = .ok (.iload_n 3, 1) := by decide +kernel
theorem dX8_next_34 : decode cX8_next 34 = .ok (.istore 5, 2) := by decide +kernel
theorem dX8_next_36 : decode cX8_next 36 = .ok (.iconst 0, 1) := by decide +kernel
theorem dX8_next_37 : decode cX8_next 37 = .ok (.istore 6, 2) := by decide +kernel
theorem dX8_next_39 : decode cX8_next 39 = .ok (.iload 6, 2) := by decide +kernel
theorem dX8_next_41 : decode cX8_next 41 = .ok (.aload_n 0, 1) := by decide +kernel
theorem dX8_next_42 : decode cX8_next 42 = .ok (.getfield 7, 3) := by decide +kernel
theorem dX8_next_45 : decode cX8_next 45 = .ok (.bipush 48, 2) := by decide +kernel
theorem dX8_next_47 : decode cX8_next 47 = .ok (.iload_n 1, 1) := by decide +kernel
theorem dX8_next_48 : decode cX8_next 48 = .ok (.iadd, 1) := by decide +kernel
theorem dX8_next_49 : decode cX8_next 49 = .ok (.iaload, 1) := by decide +kernel
theorem dX8_next_50 : decode cX8_next 50 = .ok (.if_icmp .ge 54, 3) := by decide +kernel
theorem dX8_next_53 : decode cX8_next 53 = .ok (.iload_n 2, 1) := by decide +kernel
theorem dX8_next_54 : decode cX8_next 54 = .ok (.iconst 1, 1) := by decide +kernel
theorem dX8_next_55 : decode cX8_next 55 = .ok (.if_icmp .ne 49, 3) := by decide +kernel
theorem dX8_next_58 : decode cX8_next 58 = .ok (.aload_n 0, 1) := by decide +kernel
theorem dX8_next_59 : decode cX8_next 59 = .ok (.iload 6, 2) := by decide +kernel
theorem dX8_next_61 : decode cX8_next 61 = .ok (.invokevirtual 264, 3) := by decide +kernel
theorem dX8_next_64 : decode cX8_next 64 = .ok (.istore 7, 2) := by decide +kernel
theorem dX8_next_66 : decode cX8_next 66 = .ok (.iload 7, 2) := by decide +kernel
theorem dX8_next_68 : decode cX8_next 68 = .ok (.iload 5, 2) := by decide +kernel
theorem dX8_next_70 : decode cX8_next 70 = .ok (.if_icmp .ge 8, 3) := by decide +kernel
theorem dX8_next_73 : decode cX8_next 73 = .ok (.iload 6, 2) := by decide +kernel
theorem dX8_next_75 : decode cX8_next 75 = .ok (.goto 5, 3) := by decide +kernel
theorem dX8_next_78 : decode cX8_next 78 = .ok (.iload 4, 2) := by decide +kernel
theorem dX8_next_80 : decode cX8_next 80 = .ok (.istore 4, 2) := by decide +kernel
theorem dX8_next_82 : decode cX8_next 82 = .ok (.iload 7, 2) := by decide +kernel
theorem dX8_next_84 : decode cX8_next 84 = .ok (.iload 5, 2) := by decide +kernel
theorem dX8_next_86 : decode cX8_next 86 = .ok (.if_icmp .ge 8, 3) := by decide +kernel
theorem dX8_next_89 : decode cX8_next 89 = .ok (.iload 7, 2) := by decide +kernel
theorem dX8_next_91 : decode cX8_next 91 = .ok (.goto 5, 3) := by decide +kernel
theorem dX8_next_94 : decode cX8_next 94 = .ok (.iload 5, 2) := by decide +kernel
theorem dX8_next_96 : decode cX8_next 96 = .ok (.istore 5, 2) := by decide +kernel
theorem dX8_next_98 : decode cX8_next 98 = .ok (.iinc 6 1, 3) := by decide +kernel
theorem dX8_next_101 : decode cX8_next 101 = .ok (.goto (-62), 3) := by decide +kernel
theorem dX8_next_104 : decode cX8_next 104 = .ok (.iload_n 2, 1) := by decide +kernel
theorem dX8_next_105 : decode cX8_next 105 = .ok (.ifCond .ne 7, 3) := by decide +kernel
theorem dX8_next_108 : decode cX8_next 108 = .ok (.iload_n 3, 1) := by decide +kernel
theorem dX8_next_109 : decode cX8_next 109 = .ok (.goto 5, 3) := by decide +kernel
theorem dX8_next_112 : decode cX8_next 112 = .ok (.iload 4, 2) := by decide +kernel
theorem dX8_next_114 : decode cX8_next 114 = .ok (.ireturn, 1) := by decide +kernel
theorem dX8_soonest_0 : decode cX8_soonest 0 = .ok (.aload_n 0, 1) := by decide +kernel
theorem dX8_soonest_1 : decode cX8_soonest 1 = .ok (.iload_n 1, 1) := by decide +kernel
theorem dX8_soonest_2 : decode cX8_soonest 2 = .ok (.invokevirtual 195, 3) := by decide +kernel
theorem dX8_soonest_5 : decode cX8_soonest 5 = .ok (.ifCond .ne 6, 3) := by decide +kernel
theorem dX8_soonest_8 : decode cX8_soonest 8 = .ok (.ldc 198, 2) := by decide +kernel
theorem dX8_soonest_10 : decode cX8_soonest 10 = .ok (.ireturn, 1) := by decide +kernel
theorem dX8_soonest_11 : decode cX8_soonest 11 = .ok (.iload_n 2, 1) := by decide +kernel
theorem dX8_soonest_12 : decode cX8_soonest 12 = .ok (.i2l, 1) := by decide +kernel
theorem dX8_soonest_13 : decode cX8_soonest 13 = .ok (.lconst 0, 1) := by decide +kernel
theorem dX8_soonest_14 : decode cX8_soonest 14 = .ok (.ldc2_w 267, 3) := by decide +kernel
theorem dX8_soonest_17 : decode cX8_soonest 17 = .ok (.invokestatic 71, 3) := by decide +kernel
theorem dX8_soonest_20 : decode cX8_soonest 20 = .ok (.ifCond .eq 10, 3) := by decide +kernel
theorem dX8_soonest_23 : decode cX8_soonest 23 = .ok (.iload_n 3, 1) := by decide +kernel
theorem dX8_soonest_24 : decode cX8_soonest 24 = .ok (.invokestatic 179, 3) := by decide +kernel
theorem dX8_soonest_27 : decode cX8_soonest 27 = .ok (.ifCond .ne 6, 3) := by decide +kernel
theorem dX8_soonest_30 : decode cX8_soonest 30 = .ok (.ldc 75, 2) := by decide +kernel
theorem dX8_soonest_32 : decode cX8_soonest 32 = .ok (.ireturn, 1) := by decide +kernel
theorem dX8_soonest_33 : decode cX8_soonest 33 = .ok (.iload_n 3, 1) := by decide +kernel
theorem dX8_soonest_34 : decode cX8_soonest 34 = .ok (.istore 4, 2) := by decide +kernel
theorem dX8_soonest_36 : decode cX8_soonest 36 = .ok (.iload 4, 2) := by decide +kernel
theorem dX8_soonest_38 : decode cX8_soonest 38 = .ok (.bipush 96, 2) := by decide +kernel
theorem dX8_soonest_40 : decode cX8_soonest 40 = .ok (.if_icmp .ge 23, 3) := by decide +kernel
theorem dX8_soonest_43 : decode cX8_soonest 43 = .ok (.aload_n 0, 1) := by decide +kernel
theorem dX8_soonest_44 : decode cX8_soonest 44 = .ok (.iload_n 1, 1) := by decide +kernel
theorem dX8_soonest_45 : decode cX8_soonest 45 = .ok (.iload 4, 2) := by decide +kernel
theorem dX8_soonest_47 : decode cX8_soonest 47 = .ok (.invokevirtual 212, 3) := by decide +kernel
theorem dX8_soonest_50 : decode cX8_soonest 50 = .ok (.iload_n 2, 1) := by decide +kernel
theorem dX8_soonest_51 : decode cX8_soonest 51 = .ok (.if_icmp .ne 6, 3) := by decide +kernel
theorem dX8_soonest_54 : decode cX8_soonest 54 = .ok (.iload 4, 2) := by decide +kernel
theorem dX8_soonest_56 : decode cX8_soonest 56 = .ok (.ireturn, 1) := by decide +kernel
theorem dX8_soonest_57 : decode cX8_soonest 57 = .ok (.iinc 4 1, 3) := by decide +kernel
theorem dX8_soonest_60 : decode cX8_soonest 60 = .ok (.goto (-24), 3) := by decide +kernel
theorem dX8_soonest_63 : decode cX8_soonest 63 = .ok (.iconst (-1), 1) := by decide +kernel
theorem dX8_soonest_64 : decode cX8_soonest 64 = .ok (.ireturn, 1) := by decide +kernel
theorem dX8_likely_0 : decode cX8_likely 0 = .ok (.aload_n 0, 1) := by decide +kernel
theorem dX8_likely_1 : decode cX8_likely 1 = .ok (.iload_n 1, 1) := by decide +kernel
theorem dX8_likely_2 : decode cX8_likely 2 = .ok (.invokevirtual 195, 3) := by decide +kernel
theorem dX8_likely_5 : decode cX8_likely 5 = .ok (.ifCond .ne 6, 3) := by decide +kernel
theorem dX8_likely_8 : decode cX8_likely 8 = .ok (.ldc 198, 2) := by decide +kernel
theorem dX8_likely_10 : decode cX8_likely 10 = .ok (.ireturn, 1) := by decide +kernel
theorem dX8_likely_11 : decode cX8_likely 11 = .ok (.iload_n 2, 1) := by decide +kernel
theorem dX8_likely_12 : decode cX8_likely 12 = .ok (.i2l, 1) := by decide +kernel
theorem dX8_likely_13 : decode cX8_likely 13 = .ok (.lconst 0, 1) := by decide +kernel
theorem dX8_likely_14 : decode cX8_likely 14 = .ok (.ldc2_w 267, 3) := by decide +kernel
theorem dX8_likely_17 : decode cX8_likely 17 = .ok (.invokestatic 71, 3) := by decide +kernel
theorem dX8_likely_20 : decode cX8_likely 20 = .ok (.ifCond .eq 20, 3) := by decide +kernel
theorem dX8_likely_23 : decode cX8_likely 23 = .ok (.ldc_w 269, 3) := by decide +kernel
theorem dX8_likely_26 : decode cX8_likely 26 = .ok (.aload_n 0, 1) := by decide +kernel
theorem dX8_likely_27 : decode cX8_likely 27 = .ok (.iload_n 1, 1) := by decide +kernel
theorem dX8_likely_28 : decode cX8_likely 28 = .ok (.iload_n 2, 1) := by decide +kernel
theorem dX8_likely_29 : decode cX8_likely 29 = .ok (.iconst (-1), 1) := by decide +kernel
theorem dX8_likely_30 : decode cX8_likely 30 = .ok (.invokevirtual 244, 3) := by decide +kernel
theorem dX8_likely_33 : decode cX8_likely 33 = .ok (.imul, 1) := by decide +kernel
theorem dX8_likely_34 : decode cX8_likely 34 = .ok (.bipush 96, 2) := by decide +kernel
theorem dX8_likely_36 : decode cX8_likely 36 = .ok (.idiv, 1) := by decide +kernel
theorem dX8_likely_37 : decode cX8_likely 37 = .ok (.goto 5, 3) := by decide +kernel
theorem dX8_likely_40 : decode cX8_likely 40 = .ok (.ldc 75, 2) := by decide +kernel
theorem dX8_likely_42 : decode cX8_likely 42 = .ok (.ireturn, 1) := by decide +kernel
theorem dX8_figure_0 : decode cX8_figure 0 = .ok (.iload_n 0, 1) := by decide +kernel
theorem dX8_figure_1 : decode cX8_figure 1 = .ok (.istore_n 3, 1) := by decide +kernel
theorem dX8_figure_2 : decode cX8_figure 2 = .ok (.iload_n 1, 1) := by decide +kernel
theorem dX8_figure_3 : decode cX8_figure 3 = .ok (.iconst 1, 1) := by decide +kernel
theorem dX8_figure_4 : decode cX8_figure 4 = .ok (.isub, 1) := by decide +kernel
theorem dX8_figure_5 : decode cX8_figure 5 = .ok (.istore 4, 2) := by decide +kernel
theorem dX8_figure_7 : decode cX8_figure 7 = .ok (.iload 4, 2) := by decide +kernel
theorem dX8_figure_9 : decode cX8_figure 9 = .ok (.iload_n 2, 1) := by decide +kernel
theorem dX8_figure_10 : decode cX8_figure 10 = .ok (.if_icmp .le 13, 3) := by decide +kernel
theorem dX8_figure_13 : decode cX8_figure 13 = .ok (.iload_n 3, 1) := by decide +kernel
theorem dX8_figure_14 : decode cX8_figure 14 = .ok (.iconst 4, 1) := by decide +kernel
theorem dX8_figure_15 : decode cX8_figure 15 = .ok (.idiv, 1) := by decide +kernel
theorem dX8_figure_16 : decode cX8_figure 16 = .ok (.istore_n 3, 1) := by decide +kernel
theorem dX8_figure_17 : decode cX8_figure 17 = .ok (.iinc 4 (-1), 3) := by decide +kernel
theorem dX8_figure_20 : decode cX8_figure 20 = .ok (.goto (-13), 3) := by decide +kernel
theorem dX8_figure_23 : decode cX8_figure 23 = .ok (.iload_n 3, 1) := by decide +kernel
theorem dX8_figure_24 : decode cX8_figure 24 = .ok (.iconst 4, 1) := by decide +kernel
theorem dX8_figure_25 : decode cX8_figure 25 = .ok (.irem, 1) := by decide +kernel
theorem dX8_figure_26 : decode cX8_figure 26 = .ok (.ireturn, 1) := by decide +kernel
theorem dX8_layFits_0 : decode cX8_layFits 0 = .ok (.iconst 0, 1) := by decide +kernel
theorem dX8_layFits_1 : decode cX8_layFits 1 = .ok (.istore_n 1, 1) := by decide +kernel
theorem dX8_layFits_2 : decode cX8_layFits 2 = .ok (.iload_n 1, 1) := by decide +kernel
theorem dX8_layFits_3 : decode cX8_layFits 3 = .ok (.aload_n 0, 1) := by decide +kernel
theorem dX8_layFits_4 : decode cX8_layFits 4 = .ok (.getfield 141, 3) := by decide +kernel
theorem dX8_layFits_7 : decode cX8_layFits 7 = .ok (.if_icmp .ge 94, 3) := by decide +kernel
theorem dX8_layFits_10 : decode cX8_layFits 10 = .ok (.iconst 0, 1) := by decide +kernel
theorem dX8_layFits_11 : decode cX8_layFits 11 = .ok (.istore_n 2, 1) := by decide +kernel
theorem dX8_layFits_12 : decode cX8_layFits 12 = .ok (.iload_n 2, 1) := by decide +kernel
theorem dX8_layFits_13 : decode cX8_layFits 13 = .ok (.aload_n 0, 1) := by decide +kernel
theorem dX8_layFits_14 : decode cX8_layFits 14 = .ok (.getfield 150, 3) := by decide +kernel
theorem dX8_layFits_17 : decode cX8_layFits 17 = .ok (.if_icmp .ge 78, 3) := by decide +kernel
theorem dX8_layFits_20 : decode cX8_layFits 20 = .ok (.iconst 0, 1) := by decide +kernel
theorem dX8_layFits_21 : decode cX8_layFits 21 = .ok (.istore_n 3, 1) := by decide +kernel
theorem dX8_layFits_22 : decode cX8_layFits 22 = .ok (.iconst 0, 1) := by decide +kernel
theorem dX8_layFits_23 : decode cX8_layFits 23 = .ok (.istore 4, 2) := by decide +kernel
theorem dX8_layFits_25 : decode cX8_layFits 25 = .ok (.iload 4, 2) := by decide +kernel
theorem dX8_layFits_27 : decode cX8_layFits 27 = .ok (.aload_n 0, 1) := by decide +kernel
theorem dX8_layFits_28 : decode cX8_layFits 28 = .ok (.getfield 7, 3) := by decide +kernel
theorem dX8_layFits_31 : decode cX8_layFits 31 = .ok (.bipush 48, 2) := by decide +kernel
theorem dX8_layFits_33 : decode cX8_layFits 33 = .ok (.iload_n 1, 1) := by decide +kernel
theorem dX8_layFits_34 : decode cX8_layFits 34 = .ok (.iadd, 1) := by decide +kernel
theorem dX8_layFits_35 : decode cX8_layFits 35 = .ok (.iaload, 1) := by decide +kernel
theorem dX8_layFits_36 : decode cX8_layFits 36 = .ok (.if_icmp .ge 42, 3) := by decide +kernel
theorem dX8_layFits_39 : decode cX8_layFits 39 = .ok (.iload_n 3, 1) := by decide +kernel
theorem dX8_layFits_40 : decode cX8_layFits 40 = .ok (.aload_n 0, 1) := by decide +kernel
theorem dX8_layFits_41 : decode cX8_layFits 41 = .ok (.iload_n 1, 1) := by decide +kernel
theorem dX8_layFits_42 : decode cX8_layFits 42 = .ok (.iload 4, 2) := by decide +kernel
theorem dX8_layFits_44 : decode cX8_layFits 44 = .ok (.invokevirtual 222, 3) := by decide +kernel
theorem dX8_layFits_47 : decode cX8_layFits 47 = .ok (.aload_n 0, 1) := by decide +kernel
theorem dX8_layFits_48 : decode cX8_layFits 48 = .ok (.iload_n 2, 1) := by decide +kernel
theorem dX8_layFits_49 : decode cX8_layFits 49 = .ok (.aload_n 0, 1) := by decide +kernel
theorem dX8_layFits_50 : decode cX8_layFits 50 = .ok (.iload_n 1, 1) := by decide +kernel
theorem dX8_layFits_51 : decode cX8_layFits 51 = .ok (.iload 4, 2) := by decide +kernel
theorem dX8_layFits_53 : decode cX8_layFits 53 = .ok (.invokevirtual 209, 3) := by decide +kernel
theorem dX8_layFits_56 : decode cX8_layFits 56 = .ok (.invokevirtual 212, 3) := by decide +kernel
theorem dX8_layFits_59 : decode cX8_layFits 59 = .ok (.if_icmp .ne 7, 3) := by decide +kernel
theorem dX8_layFits_62 : decode cX8_layFits 62 = .ok (.iconst 1, 1) := by decide +kernel
theorem dX8_layFits_63 : decode cX8_layFits 63 = .ok (.goto 4, 3) := by decide +kernel
theorem dX8_layFits_66 : decode cX8_layFits 66 = .ok (.iconst 0, 1) := by decide +kernel
theorem dX8_layFits_67 : decode cX8_layFits 67 = .ok (.invokestatic 172, 3) := by decide +kernel
theorem dX8_layFits_70 : decode cX8_layFits 70 = .ok (.iadd, 1) := by decide +kernel
theorem dX8_layFits_71 : decode cX8_layFits 71 = .ok (.istore_n 3, 1) := by decide +kernel
theorem dX8_layFits_72 : decode cX8_layFits 72 = .ok (.iinc 4 1, 3) := by decide +kernel
theorem dX8_layFits_75 : decode cX8_layFits 75 = .ok (.goto (-50), 3) := by decide +kernel
theorem dX8_layFits_78 : decode cX8_layFits 78 = .ok (.aload_n 0, 1) := by decide +kernel
theorem dX8_layFits_79 : decode cX8_layFits 79 = .ok (.getfield 57, 3) := by decide +kernel
theorem dX8_layFits_82 : decode cX8_layFits 82 = .ok (.iconst 4, 1) := by decide +kernel
theorem dX8_layFits_83 : decode cX8_layFits 83 = .ok (.iload_n 1, 1) := by decide +kernel
theorem dX8_layFits_84 : decode cX8_layFits 84 = .ok (.imul, 1) := by decide +kernel
theorem dX8_layFits_85 : decode cX8_layFits 85 = .ok (.iload_n 2, 1) := by decide +kernel
theorem dX8_layFits_86 : decode cX8_layFits 86 = .ok (.iadd, 1) := by decide +kernel
theorem dX8_layFits_87 : decode cX8_layFits 87 = .ok (.iload_n 3, 1) := by decide +kernel
theorem dX8_layFits_88 : decode cX8_layFits 88 = .ok (.iastore, 1) := by decide +kernel
theorem dX8_layFits_89 : decode cX8_layFits 89 = .ok (.iinc 2 1, 3) := by decide +kernel
theorem dX8_layFits_92 : decode cX8_layFits 92 = .ok (.goto (-80), 3) := by decide +kernel
theorem dX8_layFits_95 : decode cX8_layFits 95 = .ok (.iinc 1 1, 3) := by decide +kernel
theorem dX8_layFits_98 : decode cX8_layFits 98 = .ok (.goto (-96), 3) := by decide +kernel
theorem dX8_layFits_101 : decode cX8_layFits 101 = .ok (.return_, 1) := by decide +kernel
theorem dX8_fitsBy_0 : decode cX8_fitsBy 0 = .ok (.iconst 0, 1) := by decide +kernel
theorem dX8_fitsBy_1 : decode cX8_fitsBy 1 = .ok (.istore_n 2, 1) := by decide +kernel
theorem dX8_fitsBy_2 : decode cX8_fitsBy 2 = .ok (.iconst 0, 1) := by decide +kernel
theorem dX8_fitsBy_3 : decode cX8_fitsBy 3 = .ok (.istore_n 3, 1) := by decide +kernel
theorem dX8_fitsBy_4 : decode cX8_fitsBy 4 = .ok (.iconst 0, 1) := by decide +kernel
theorem dX8_fitsBy_5 : decode cX8_fitsBy 5 = .ok (.istore 4, 2) := by decide +kernel
theorem dX8_fitsBy_7 : decode cX8_fitsBy 7 = .ok (.iload 4, 2) := by decide +kernel
theorem dX8_fitsBy_9 : decode cX8_fitsBy 9 = .ok (.aload_n 0, 1) := by decide +kernel
theorem dX8_fitsBy_10 : decode cX8_fitsBy 10 = .ok (.getfield 141, 3) := by decide +kernel
theorem dX8_fitsBy_13 : decode cX8_fitsBy 13 = .ok (.if_icmp .ge 63, 3) := by decide +kernel
theorem dX8_fitsBy_16 : decode cX8_fitsBy 16 = .ok (.iload_n 1, 1) := by decide +kernel
theorem dX8_fitsBy_17 : decode cX8_fitsBy 17 = .ok (.aload_n 0, 1) := by decide +kernel
theorem dX8_fitsBy_18 : decode cX8_fitsBy 18 = .ok (.getfield 141, 3) := by decide +kernel
theorem dX8_fitsBy_21 : decode cX8_fitsBy 21 = .ok (.iload 4, 2) := by decide +kernel
theorem dX8_fitsBy_23 : decode cX8_fitsBy 23 = .ok (.invokestatic 270, 3) := by decide +kernel
theorem dX8_fitsBy_26 : decode cX8_fitsBy 26 = .ok (.istore 5, 2) := by decide +kernel
theorem dX8_fitsBy_28 : decode cX8_fitsBy 28 = .ok (.iload 5, 2) := by decide +kernel
theorem dX8_fitsBy_30 : decode cX8_fitsBy 30 = .ok (.aload_n 0, 1) := by decide +kernel
theorem dX8_fitsBy_31 : decode cX8_fitsBy 31 = .ok (.getfield 150, 3) := by decide +kernel
theorem dX8_fitsBy_34 : decode cX8_fitsBy 34 = .ok (.if_icmp .ge 12, 3) := by decide +kernel
theorem dX8_fitsBy_37 : decode cX8_fitsBy 37 = .ok (.iload_n 2, 1) := by decide +kernel
theorem dX8_fitsBy_38 : decode cX8_fitsBy 38 = .ok (.iload 5, 2) := by decide +kernel
theorem dX8_fitsBy_40 : decode cX8_fitsBy 40 = .ok (.invokestatic 254, 3) := by decide +kernel
theorem dX8_fitsBy_43 : decode cX8_fitsBy 43 = .ok (.ifCond .eq 5, 3) := by decide +kernel
theorem dX8_fitsBy_46 : decode cX8_fitsBy 46 = .ok (.iconst (-1), 1) := by decide +kernel
theorem dX8_fitsBy_47 : decode cX8_fitsBy 47 = .ok (.ireturn, 1) := by decide +kernel
theorem dX8_fitsBy_48 : decode cX8_fitsBy 48 = .ok (.iload_n 2, 1) := by decide +kernel
theorem dX8_fitsBy_49 : decode cX8_fitsBy 49 = .ok (.iconst 1, 1) := by decide +kernel
theorem dX8_fitsBy_50 : decode cX8_fitsBy 50 = .ok (.iload 5, 2) := by decide +kernel
theorem dX8_fitsBy_52 : decode cX8_fitsBy 52 = .ok (.ishl, 1) := by decide +kernel
theorem dX8_fitsBy_53 : decode cX8_fitsBy 53 = .ok (.ior, 1) := by decide +kernel
theorem dX8_fitsBy_54 : decode cX8_fitsBy 54 = .ok (.istore_n 2, 1) := by decide +kernel
theorem dX8_fitsBy_55 : decode cX8_fitsBy 55 = .ok (.iload_n 3, 1) := by decide +kernel
theorem dX8_fitsBy_56 : decode cX8_fitsBy 56 = .ok (.aload_n 0, 1) := by decide +kernel
theorem dX8_fitsBy_57 : decode cX8_fitsBy 57 = .ok (.getfield 57, 3) := by decide +kernel
theorem dX8_fitsBy_60 : decode cX8_fitsBy 60 = .ok (.iconst 4, 1) := by decide +kernel
theorem dX8_fitsBy_61 : decode cX8_fitsBy 61 = .ok (.iload 4, 2) := by decide +kernel
theorem dX8_fitsBy_63 : decode cX8_fitsBy 63 = .ok (.imul, 1) := by decide +kernel
theorem dX8_fitsBy_64 : decode cX8_fitsBy 64 = .ok (.iload 5, 2) := by decide +kernel
theorem dX8_fitsBy_66 : decode cX8_fitsBy 66 = .ok (.iadd, 1) := by decide +kernel
theorem dX8_fitsBy_67 : decode cX8_fitsBy 67 = .ok (.iaload, 1) := by decide +kernel
theorem dX8_fitsBy_68 : decode cX8_fitsBy 68 = .ok (.iadd, 1) := by decide +kernel
theorem dX8_fitsBy_69 : decode cX8_fitsBy 69 = .ok (.istore_n 3, 1) := by decide +kernel
theorem dX8_fitsBy_70 : decode cX8_fitsBy 70 = .ok (.iinc 4 1, 3) := by decide +kernel
theorem dX8_fitsBy_73 : decode cX8_fitsBy 73 = .ok (.goto (-66), 3) := by decide +kernel
theorem dX8_fitsBy_76 : decode cX8_fitsBy 76 = .ok (.iload_n 3, 1) := by decide +kernel
theorem dX8_fitsBy_77 : decode cX8_fitsBy 77 = .ok (.ireturn, 1) := by decide +kernel
theorem dX8_hands_0 : decode cX8_hands 0 = .ok (.iload_n 1, 1) := by decide +kernel
theorem dX8_hands_1 : decode cX8_hands 1 = .ok (.iconst (-1), 1) := by decide +kernel
theorem dX8_hands_2 : decode cX8_hands 2 = .ok (.if_icmp .eq 14, 3) := by decide +kernel
theorem dX8_hands_5 : decode cX8_hands 5 = .ok (.aload_n 0, 1) := by decide +kernel
theorem dX8_hands_6 : decode cX8_hands 6 = .ok (.iload_n 1, 1) := by decide +kernel
theorem dX8_hands_7 : decode cX8_hands 7 = .ok (.invokevirtual 166, 3) := by decide +kernel
theorem dX8_hands_10 : decode cX8_hands 10 = .ok (.ifCond .ne 6, 3) := by decide +kernel
theorem dX8_hands_13 : decode cX8_hands 13 = .ok (.ldc 198, 2) := by decide +kernel
theorem dX8_hands_15 : decode cX8_hands 15 = .ok (.ireturn, 1) := by decide +kernel
theorem dX8_hands_16 : decode cX8_hands 16 = .ok (.aload_n 0, 1) := by decide +kernel
theorem dX8_hands_17 : decode cX8_hands 17 = .ok (.invokevirtual 273, 3) := by decide +kernel
theorem dX8_hands_20 : decode cX8_hands 20 = .ok (.iconst (-1), 1) := by decide +kernel
theorem dX8_hands_21 : decode cX8_hands 21 = .ok (.istore_n 2, 1) := by decide +kernel
theorem dX8_hands_22 : decode cX8_hands 22 = .ok (.iconst (-1), 1) := by decide +kernel
theorem dX8_hands_23 : decode cX8_hands 23 = .ok (.istore_n 3, 1) := by decide +kernel
theorem dX8_hands_24 : decode cX8_hands 24 = .ok (.iconst 0, 1) := by decide +kernel
theorem dX8_hands_25 : decode cX8_hands 25 = .ok (.istore 4, 2) := by decide +kernel
theorem dX8_hands_27 : decode cX8_hands 27 = .ok (.iload 4, 2) := by decide +kernel
theorem dX8_hands_29 : decode cX8_hands 29 = .ok (.iconst 1, 1) := by decide +kernel
theorem dX8_hands_30 : decode cX8_hands 30 = .ok (.iconst 2, 1) := by decide +kernel
theorem dX8_hands_31 : decode cX8_hands 31 = .ok (.aload_n 0, 1) := by decide +kernel
theorem dX8_hands_32 : decode cX8_hands 32 = .ok (.getfield 141, 3) := by decide +kernel
theorem dX8_hands_35 : decode cX8_hands 35 = .ok (.imul, 1) := by decide +kernel
theorem dX8_hands_36 : decode cX8_hands 36 = .ok (.ishl, 1) := by decide +kernel
theorem dX8_hands_37 : decode cX8_hands 37 = .ok (.if_icmp .ge 43, 3) := by decide +kernel
theorem dX8_hands_40 : decode cX8_hands 40 = .ok (.aload_n 0, 1) := by decide +kernel
theorem dX8_hands_41 : decode cX8_hands 41 = .ok (.iload 4, 2) := by decide +kernel
theorem dX8_hands_43 : decode cX8_hands 43 = .ok (.invokevirtual 276, 3) := by decide +kernel
theorem dX8_hands_46 : decode cX8_hands 46 = .ok (.istore 5, 2) := by decide +kernel
theorem dX8_hands_48 : decode cX8_hands 48 = .ok (.iload 5, 2) := by decide +kernel
theorem dX8_hands_50 : decode cX8_hands 50 = .ok (.iload_n 3, 1) := by decide +kernel
theorem dX8_hands_51 : decode cX8_hands 51 = .ok (.if_icmp .le 8, 3) := by decide +kernel
theorem dX8_hands_54 : decode cX8_hands 54 = .ok (.iload 4, 2) := by decide +kernel
theorem dX8_hands_56 : decode cX8_hands 56 = .ok (.goto 4, 3) := by decide +kernel
theorem dX8_hands_59 : decode cX8_hands 59 = .ok (.iload_n 2, 1) := by decide +kernel
theorem dX8_hands_60 : decode cX8_hands 60 = .ok (.istore_n 2, 1) := by decide +kernel
theorem dX8_hands_61 : decode cX8_hands 61 = .ok (.iload 5, 2) := by decide +kernel
theorem dX8_hands_63 : decode cX8_hands 63 = .ok (.iload_n 3, 1) := by decide +kernel
theorem dX8_hands_64 : decode cX8_hands 64 = .ok (.if_icmp .le 8, 3) := by decide +kernel
theorem dX8_hands_67 : decode cX8_hands 67 = .ok (.iload 5, 2) := by decide +kernel
theorem dX8_hands_69 : decode cX8_hands 69 = .ok (.goto 4, 3) := by decide +kernel
theorem dX8_hands_72 : decode cX8_hands 72 = .ok (.iload_n 3, 1) := by decide +kernel
theorem dX8_hands_73 : decode cX8_hands 73 = .ok (.istore_n 3, 1) := by decide +kernel
theorem dX8_hands_74 : decode cX8_hands 74 = .ok (.iinc 4 1, 3) := by decide +kernel
theorem dX8_hands_77 : decode cX8_hands 77 = .ok (.goto (-50), 3) := by decide +kernel
theorem dX8_hands_80 : decode cX8_hands 80 = .ok (.iload_n 1, 1) := by decide +kernel
theorem dX8_hands_81 : decode cX8_hands 81 = .ok (.iconst (-1), 1) := by decide +kernel
theorem dX8_hands_82 : decode cX8_hands 82 = .ok (.if_icmp .eq 7, 3) := by decide +kernel
theorem dX8_hands_85 : decode cX8_hands 85 = .ok (.iload_n 2, 1) := by decide +kernel
theorem dX8_hands_86 : decode cX8_hands 86 = .ok (.ifCond .ge 7, 3) := by decide +kernel
theorem dX8_hands_89 : decode cX8_hands 89 = .ok (.iload_n 3, 1) := by decide +kernel
theorem dX8_hands_90 : decode cX8_hands 90 = .ok (.goto 12, 3) := by decide +kernel
theorem dX8_hands_93 : decode cX8_hands 93 = .ok (.iload_n 2, 1) := by decide +kernel
theorem dX8_hands_94 : decode cX8_hands 94 = .ok (.aload_n 0, 1) := by decide +kernel
theorem dX8_hands_95 : decode cX8_hands 95 = .ok (.getfield 141, 3) := by decide +kernel
theorem dX8_hands_98 : decode cX8_hands 98 = .ok (.iload_n 1, 1) := by decide +kernel
theorem dX8_hands_99 : decode cX8_hands 99 = .ok (.invokestatic 270, 3) := by decide +kernel
theorem dX8_hands_102 : decode cX8_hands 102 = .ok (.ireturn, 1) := by decide +kernel
theorem dX8_forged_0 : decode cX8_forged 0 = .ok (.aload_n 0, 1) := by decide +kernel
theorem dX8_forged_1 : decode cX8_forged 1 = .ok (.iload_n 1, 1) := by decide +kernel
theorem dX8_forged_2 : decode cX8_forged 2 = .ok (.invokevirtual 166, 3) := by decide +kernel
theorem dX8_forged_5 : decode cX8_forged 5 = .ok (.ifCond .ne 6, 3) := by decide +kernel
theorem dX8_forged_8 : decode cX8_forged 8 = .ok (.ldc 198, 2) := by decide +kernel
theorem dX8_forged_10 : decode cX8_forged 10 = .ok (.ireturn, 1) := by decide +kernel
theorem dX8_forged_11 : decode cX8_forged 11 = .ok (.iload_n 2, 1) := by decide +kernel
theorem dX8_forged_12 : decode cX8_forged 12 = .ok (.i2l, 1) := by decide +kernel
theorem dX8_forged_13 : decode cX8_forged 13 = .ok (.lconst 0, 1) := by decide +kernel
theorem dX8_forged_14 : decode cX8_forged 14 = .ok (.lconst 1, 1) := by decide +kernel
theorem dX8_forged_15 : decode cX8_forged 15 = .ok (.invokestatic 71, 3) := by decide +kernel
theorem dX8_forged_18 : decode cX8_forged 18 = .ok (.ifCond .ne 6, 3) := by decide +kernel
theorem dX8_forged_21 : decode cX8_forged 21 = .ok (.ldc 75, 2) := by decide +kernel
theorem dX8_forged_23 : decode cX8_forged 23 = .ok (.ireturn, 1) := by decide +kernel
theorem dX8_forged_24 : decode cX8_forged 24 = .ok (.iconst 0, 1) := by decide +kernel
theorem dX8_forged_25 : decode cX8_forged 25 = .ok (.istore_n 3, 1) := by decide +kernel
theorem dX8_forged_26 : decode cX8_forged 26 = .ok (.iconst 0, 1) := by decide +kernel
theorem dX8_forged_27 : decode cX8_forged 27 = .ok (.istore 4, 2) := by decide +kernel
theorem dX8_forged_29 : decode cX8_forged 29 = .ok (.iconst 0, 1) := by decide +kernel
theorem dX8_forged_30 : decode cX8_forged 30 = .ok (.istore 5, 2) := by decide +kernel
theorem dX8_forged_32 : decode cX8_forged 32 = .ok (.iload 5, 2) := by decide +kernel
theorem dX8_forged_34 : decode cX8_forged 34 = .ok (.aload_n 0, 1) := by decide +kernel
theorem dX8_forged_35 : decode cX8_forged 35 = .ok (.getfield 7, 3) := by decide +kernel
theorem dX8_forged_38 : decode cX8_forged 38 = .ok (.bipush 48, 2) := by decide +kernel
theorem dX8_forged_40 : decode cX8_forged 40 = .ok (.iload_n 1, 1) := by decide +kernel
theorem dX8_forged_41 : decode cX8_forged 41 = .ok (.iadd, 1) := by decide +kernel
theorem dX8_forged_42 : decode cX8_forged 42 = .ok (.iaload, 1) := by decide +kernel
theorem dX8_forged_43 : decode cX8_forged 43 = .ok (.if_icmp .ge 83, 3) := by decide +kernel
theorem dX8_forged_46 : decode cX8_forged 46 = .ok (.aload_n 0, 1) := by decide +kernel
theorem dX8_forged_47 : decode cX8_forged 47 = .ok (.iload_n 1, 1) := by decide +kernel
theorem dX8_forged_48 : decode cX8_forged 48 = .ok (.iload 5, 2) := by decide +kernel
theorem dX8_forged_50 : decode cX8_forged 50 = .ok (.invokevirtual 203, 3) := by decide +kernel
theorem dX8_forged_53 : decode cX8_forged 53 = .ok (.ifCond .lt 67, 3) := by decide +kernel
theorem dX8_forged_56 : decode cX8_forged 56 = .ok (.aload_n 0, 1) := by decide +kernel
theorem dX8_forged_57 : decode cX8_forged 57 = .ok (.iload_n 1, 1) := by decide +kernel
theorem dX8_forged_58 : decode cX8_forged 58 = .ok (.iload 5, 2) := by decide +kernel
theorem dX8_forged_60 : decode cX8_forged 60 = .ok (.invokevirtual 222, 3) := by decide +kernel
theorem dX8_forged_63 : decode cX8_forged 63 = .ok (.aload_n 0, 1) := by decide +kernel
theorem dX8_forged_64 : decode cX8_forged 64 = .ok (.aload_n 0, 1) := by decide +kernel
theorem dX8_forged_65 : decode cX8_forged 65 = .ok (.iload_n 1, 1) := by decide +kernel
theorem dX8_forged_66 : decode cX8_forged 66 = .ok (.iload 5, 2) := by decide +kernel
theorem dX8_forged_68 : decode cX8_forged 68 = .ok (.invokevirtual 206, 3) := by decide +kernel
theorem dX8_forged_71 : decode cX8_forged 71 = .ok (.aload_n 0, 1) := by decide +kernel
theorem dX8_forged_72 : decode cX8_forged 72 = .ok (.iload_n 1, 1) := by decide +kernel
theorem dX8_forged_73 : decode cX8_forged 73 = .ok (.iload 5, 2) := by decide +kernel
theorem dX8_forged_75 : decode cX8_forged 75 = .ok (.invokevirtual 209, 3) := by decide +kernel
theorem dX8_forged_78 : decode cX8_forged 78 = .ok (.invokevirtual 212, 3) := by decide +kernel
theorem dX8_forged_81 : decode cX8_forged 81 = .ok (.if_icmp .ne 7, 3) := by decide +kernel
theorem dX8_forged_84 : decode cX8_forged 84 = .ok (.iconst 1, 1) := by decide +kernel
theorem dX8_forged_85 : decode cX8_forged 85 = .ok (.goto 4, 3) := by decide +kernel
theorem dX8_forged_88 : decode cX8_forged 88 = .ok (.iconst 0, 1) := by decide +kernel
theorem dX8_forged_89 : decode cX8_forged 89 = .ok (.istore 6, 2) := by decide +kernel
theorem dX8_forged_91 : decode cX8_forged 91 = .ok (.iload_n 3, 1) := by decide +kernel
theorem dX8_forged_92 : decode cX8_forged 92 = .ok (.iload 6, 2) := by decide +kernel
theorem dX8_forged_94 : decode cX8_forged 94 = .ok (.invokestatic 172, 3) := by decide +kernel
theorem dX8_forged_97 : decode cX8_forged 97 = .ok (.iadd, 1) := by decide +kernel
theorem dX8_forged_98 : decode cX8_forged 98 = .ok (.istore_n 3, 1) := by decide +kernel
theorem dX8_forged_99 : decode cX8_forged 99 = .ok (.iload 4, 2) := by decide +kernel
theorem dX8_forged_101 : decode cX8_forged 101 = .ok (.iload 6, 2) := by decide +kernel
theorem dX8_forged_103 : decode cX8_forged 103 = .ok (.ifCond .ne 7, 3) := by decide +kernel
theorem dX8_forged_106 : decode cX8_forged 106 = .ok (.iconst 1, 1) := by decide +kernel
theorem dX8_forged_107 : decode cX8_forged 107 = .ok (.goto 4, 3) := by decide +kernel
theorem dX8_forged_110 : decode cX8_forged 110 = .ok (.iconst 0, 1) := by decide +kernel
theorem dX8_forged_111 : decode cX8_forged 111 = .ok (.invokestatic 172, 3) := by decide +kernel
theorem dX8_forged_114 : decode cX8_forged 114 = .ok (.iload 5, 2) := by decide +kernel
theorem dX8_forged_116 : decode cX8_forged 116 = .ok (.ishl, 1) := by decide +kernel
theorem dX8_forged_117 : decode cX8_forged 117 = .ok (.ior, 1) := by decide +kernel
theorem dX8_forged_118 : decode cX8_forged 118 = .ok (.istore 4, 2) := by decide +kernel
theorem dX8_forged_120 : decode cX8_forged 120 = .ok (.iinc 5 1, 3) := by decide +kernel
theorem dX8_forged_123 : decode cX8_forged 123 = .ok (.goto (-91), 3) := by decide +kernel
theorem dX8_forged_126 : decode cX8_forged 126 = .ok (.iload_n 2, 1) := by decide +kernel
theorem dX8_forged_127 : decode cX8_forged 127 = .ok (.ifCond .ne 7, 3) := by decide +kernel
theorem dX8_forged_130 : decode cX8_forged 130 = .ok (.iload_n 3, 1) := by decide +kernel
theorem dX8_forged_131 : decode cX8_forged 131 = .ok (.goto 5, 3) := by decide +kernel
theorem dX8_forged_134 : decode cX8_forged 134 = .ok (.iload 4, 2) := by decide +kernel
theorem dX8_forged_136 : decode cX8_forged 136 = .ok (.ireturn, 1) := by decide +kernel
theorem dX8_air_0 : decode cX8_air 0 = .ok (.aload_n 0, 1) := by decide +kernel
theorem dX8_air_1 : decode cX8_air 1 = .ok (.iload_n 1, 1) := by decide +kernel
theorem dX8_air_2 : decode cX8_air 2 = .ok (.invokevirtual 195, 3) := by decide +kernel
theorem dX8_air_5 : decode cX8_air 5 = .ok (.ifCond .ne 6, 3) := by decide +kernel
theorem dX8_air_8 : decode cX8_air 8 = .ok (.ldc 198, 2) := by decide +kernel
theorem dX8_air_10 : decode cX8_air 10 = .ok (.ireturn, 1) := by decide +kernel
theorem dX8_air_11 : decode cX8_air 11 = .ok (.iload_n 2, 1) := by decide +kernel
theorem dX8_air_12 : decode cX8_air 12 = .ok (.invokestatic 179, 3) := by decide +kernel
theorem dX8_air_15 : decode cX8_air 15 = .ok (.ifCond .eq 18, 3) := by decide +kernel
theorem dX8_air_18 : decode cX8_air 18 = .ok (.aload_n 0, 1) := by decide +kernel
theorem dX8_air_19 : decode cX8_air 19 = .ok (.iload_n 1, 1) := by decide +kernel
theorem dX8_air_20 : decode cX8_air 20 = .ok (.aload_n 0, 1) := by decide +kernel
theorem dX8_air_21 : decode cX8_air 21 = .ok (.iload_n 1, 1) := by decide +kernel
theorem dX8_air_22 : decode cX8_air 22 = .ok (.iload_n 2, 1) := by decide +kernel
theorem dX8_air_23 : decode cX8_air 23 = .ok (.invokevirtual 212, 3) := by decide +kernel
theorem dX8_air_26 : decode cX8_air 26 = .ok (.iload_n 3, 1) := by decide +kernel
theorem dX8_air_27 : decode cX8_air 27 = .ok (.invokevirtual 244, 3) := by decide +kernel
theorem dX8_air_30 : decode cX8_air 30 = .ok (.goto 5, 3) := by decide +kernel
theorem dX8_air_33 : decode cX8_air 33 = .ok (.ldc 75, 2) := by decide +kernel
theorem dX8_air_35 : decode cX8_air 35 = .ok (.ireturn, 1) := by decide +kernel
theorem dX8_rained_0 : decode cX8_rained 0 = .ok (.iconst 1, 1) := by decide +kernel
theorem dX8_rained_1 : decode cX8_rained 1 = .ok (.istore_n 3, 1) := by decide +kernel
theorem dX8_rained_2 : decode cX8_rained 2 = .ok (.iconst 0, 1) := by decide +kernel
theorem dX8_rained_3 : decode cX8_rained 3 = .ok (.istore 4, 2) := by decide +kernel
theorem dX8_rained_5 : decode cX8_rained 5 = .ok (.iload 4, 2) := by decide +kernel
theorem dX8_rained_7 : decode cX8_rained 7 = .ok (.aload_n 0, 1) := by decide +kernel
theorem dX8_rained_8 : decode cX8_rained 8 = .ok (.getfield 141, 3) := by decide +kernel
theorem dX8_rained_11 : decode cX8_rained 11 = .ok (.if_icmp .ge 113, 3) := by decide +kernel
theorem dX8_rained_14 : decode cX8_rained 14 = .ok (.iconst 0, 1) := by decide +kernel
theorem dX8_rained_15 : decode cX8_rained 15 = .ok (.istore 5, 2) := by decide +kernel
theorem dX8_rained_17 : decode cX8_rained 17 = .ok (.iload 5, 2) := by decide +kernel
theorem dX8_rained_19 : decode cX8_rained 19 = .ok (.aload_n 0, 1) := by decide +kernel
theorem dX8_rained_20 : decode cX8_rained 20 = .ok (.getfield 7, 3) := by decide +kernel
theorem dX8_rained_23 : decode cX8_rained 23 = .ok (.bipush 48, 2) := by decide +kernel
theorem dX8_rained_25 : decode cX8_rained 25 = .ok (.iload 4, 2) := by decide +kernel
theorem dX8_rained_27 : decode cX8_rained 27 = .ok (.iadd, 1) := by decide +kernel
theorem dX8_rained_28 : decode cX8_rained 28 = .ok (.iaload, 1) := by decide +kernel
theorem dX8_rained_29 : decode cX8_rained 29 = .ok (.if_icmp .ge 89, 3) := by decide +kernel
theorem dX8_rained_32 : decode cX8_rained 32 = .ok (.iload_n 3, 1) := by decide +kernel
theorem dX8_rained_33 : decode cX8_rained 33 = .ok (.ifCond .eq 85, 3) := by decide +kernel
theorem dX8_rained_36 : decode cX8_rained 36 = .ok (.aload_n 0, 1) := by decide +kernel
theorem dX8_rained_37 : decode cX8_rained 37 = .ok (.iload 4, 2) := by decide +kernel
theorem dX8_rained_39 : decode cX8_rained 39 = .ok (.iload 5, 2) := by decide +kernel
theorem dX8_rained_41 : decode cX8_rained 41 = .ok (.invokevirtual 209, 3) := by decide +kernel
theorem dX8_rained_44 : decode cX8_rained 44 = .ok (.bipush 12, 2) := by decide +kernel
theorem dX8_rained_46 : decode cX8_rained 46 = .ok (.idiv, 1) := by decide +kernel
theorem dX8_rained_47 : decode cX8_rained 47 = .ok (.iload_n 1, 1) := by decide +kernel
theorem dX8_rained_48 : decode cX8_rained 48 = .ok (.if_icmp .ne 18, 3) := by decide +kernel
theorem dX8_rained_51 : decode cX8_rained 51 = .ok (.aload_n 0, 1) := by decide +kernel
theorem dX8_rained_52 : decode cX8_rained 52 = .ok (.iload 4, 2) := by decide +kernel
theorem dX8_rained_54 : decode cX8_rained 54 = .ok (.iload 5, 2) := by decide +kernel
theorem dX8_rained_56 : decode cX8_rained 56 = .ok (.invokevirtual 203, 3) := by decide +kernel
theorem dX8_rained_59 : decode cX8_rained 59 = .ok (.ifCond .ge 7, 3) := by decide +kernel
theorem dX8_rained_62 : decode cX8_rained 62 = .ok (.iconst 1, 1) := by decide +kernel
theorem dX8_rained_63 : decode cX8_rained 63 = .ok (.goto 4, 3) := by decide +kernel
theorem dX8_rained_66 : decode cX8_rained 66 = .ok (.iconst 0, 1) := by decide +kernel
theorem dX8_rained_67 : decode cX8_rained 67 = .ok (.istore 6, 2) := by decide +kernel
theorem dX8_rained_69 : decode cX8_rained 69 = .ok (.iload 6, 2) := by decide +kernel
theorem dX8_rained_71 : decode cX8_rained 71 = .ok (.ifCond .eq 35, 3) := by decide +kernel
theorem dX8_rained_74 : decode cX8_rained 74 = .ok (.aload_n 0, 1) := by decide +kernel
theorem dX8_rained_75 : decode cX8_rained 75 = .ok (.aload_n 0, 1) := by decide +kernel
theorem dX8_rained_76 : decode cX8_rained 76 = .ok (.iload 4, 2) := by decide +kernel
theorem dX8_rained_78 : decode cX8_rained 78 = .ok (.iload 5, 2) := by decide +kernel
theorem dX8_rained_80 : decode cX8_rained 80 = .ok (.invokevirtual 206, 3) := by decide +kernel
theorem dX8_rained_83 : decode cX8_rained 83 = .ok (.aload_n 0, 1) := by decide +kernel
theorem dX8_rained_84 : decode cX8_rained 84 = .ok (.iload 4, 2) := by decide +kernel
theorem dX8_rained_86 : decode cX8_rained 86 = .ok (.iload 5, 2) := by decide +kernel
theorem dX8_rained_88 : decode cX8_rained 88 = .ok (.invokevirtual 209, 3) := by decide +kernel
theorem dX8_rained_91 : decode cX8_rained 91 = .ok (.iload_n 2, 1) := by decide +kernel
theorem dX8_rained_92 : decode cX8_rained 92 = .ok (.invokevirtual 199, 3) := by decide +kernel
theorem dX8_rained_95 : decode cX8_rained 95 = .ok (.aload_n 0, 1) := by decide +kernel
theorem dX8_rained_96 : decode cX8_rained 96 = .ok (.iload 4, 2) := by decide +kernel
theorem dX8_rained_98 : decode cX8_rained 98 = .ok (.iload 5, 2) := by decide +kernel
theorem dX8_rained_100 : decode cX8_rained 100 = .ok (.invokevirtual 222, 3) := by decide +kernel
theorem dX8_rained_103 : decode cX8_rained 103 = .ok (.if_icmp .ne 7, 3) := by decide +kernel
theorem dX8_rained_106 : decode cX8_rained 106 = .ok (.iconst 1, 1) := by decide +kernel
theorem dX8_rained_107 : decode cX8_rained 107 = .ok (.goto 4, 3) := by decide +kernel
theorem dX8_rained_110 : decode cX8_rained 110 = .ok (.iconst 0, 1) := by decide +kernel
theorem dX8_rained_111 : decode cX8_rained 111 = .ok (.istore_n 3, 1) := by decide +kernel
theorem dX8_rained_112 : decode cX8_rained 112 = .ok (.iinc 5 1, 3) := by decide +kernel
theorem dX8_rained_115 : decode cX8_rained 115 = .ok (.goto (-98), 3) := by decide +kernel
theorem dX8_rained_118 : decode cX8_rained 118 = .ok (.iinc 4 1, 3) := by decide +kernel
theorem dX8_rained_121 : decode cX8_rained 121 = .ok (.goto (-116), 3) := by decide +kernel
theorem dX8_rained_124 : decode cX8_rained 124 = .ok (.iload_n 3, 1) := by decide +kernel
theorem dX8_rained_125 : decode cX8_rained 125 = .ok (.ireturn, 1) := by decide +kernel
theorem dX8_rain_0 : decode cX8_rain 0 = .ok (.iload_n 1, 1) := by decide +kernel
theorem dX8_rain_1 : decode cX8_rain 1 = .ok (.i2l, 1) := by decide +kernel
theorem dX8_rain_2 : decode cX8_rain 2 = .ok (.lconst 0, 1) := by decide +kernel
theorem dX8_rain_3 : decode cX8_rain 3 = .ok (.ldc2_w 279, 3) := by decide +kernel
theorem dX8_rain_6 : decode cX8_rain 6 = .ok (.invokestatic 71, 3) := by decide +kernel
theorem dX8_rain_9 : decode cX8_rain 9 = .ok (.ifCond .ne 6, 3) := by decide +kernel
theorem dX8_rain_12 : decode cX8_rain 12 = .ok (.ldc 75, 2) := by decide +kernel
theorem dX8_rain_14 : decode cX8_rain 14 = .ok (.ireturn, 1) := by decide +kernel
theorem dX8_rain_15 : decode cX8_rain 15 = .ok (.aload_n 0, 1) := by decide +kernel
theorem dX8_rain_16 : decode cX8_rain 16 = .ok (.getfield 144, 3) := by decide +kernel
theorem dX8_rain_19 : decode cX8_rain 19 = .ok (.ifCond .ne 6, 3) := by decide +kernel
theorem dX8_rain_22 : decode cX8_rain 22 = .ok (.ldc 184, 2) := by decide +kernel
theorem dX8_rain_24 : decode cX8_rain 24 = .ok (.ireturn, 1) := by decide +kernel
theorem dX8_rain_25 : decode cX8_rain 25 = .ok (.iconst 0, 1) := by decide +kernel
theorem dX8_rain_26 : decode cX8_rain 26 = .ok (.istore_n 2, 1) := by decide +kernel
theorem dX8_rain_27 : decode cX8_rain 27 = .ok (.iconst 0, 1) := by decide +kernel
theorem dX8_rain_28 : decode cX8_rain 28 = .ok (.istore_n 3, 1) := by decide +kernel
theorem dX8_rain_29 : decode cX8_rain 29 = .ok (.iload_n 3, 1) := by decide +kernel
theorem dX8_rain_30 : decode cX8_rain 30 = .ok (.bipush 10, 2) := by decide +kernel
theorem dX8_rain_32 : decode cX8_rain 32 = .ok (.if_icmp .ge 23, 3) := by decide +kernel
theorem dX8_rain_35 : decode cX8_rain 35 = .ok (.iload_n 2, 1) := by decide +kernel
theorem dX8_rain_36 : decode cX8_rain 36 = .ok (.aload_n 0, 1) := by decide +kernel
theorem dX8_rain_37 : decode cX8_rain 37 = .ok (.iload_n 1, 1) := by decide +kernel
theorem dX8_rain_38 : decode cX8_rain 38 = .ok (.iload_n 3, 1) := by decide +kernel
theorem dX8_rain_39 : decode cX8_rain 39 = .ok (.invokevirtual 281, 3) := by decide +kernel
theorem dX8_rain_42 : decode cX8_rain 42 = .ok (.invokestatic 172, 3) := by decide +kernel
theorem dX8_rain_45 : decode cX8_rain 45 = .ok (.iload_n 3, 1) := by decide +kernel
theorem dX8_rain_46 : decode cX8_rain 46 = .ok (.ishl, 1) := by decide +kernel
theorem dX8_rain_47 : decode cX8_rain 47 = .ok (.ior, 1) := by decide +kernel
theorem dX8_rain_48 : decode cX8_rain 48 = .ok (.istore_n 2, 1) := by decide +kernel
theorem dX8_rain_49 : decode cX8_rain 49 = .ok (.iinc 3 1, 3) := by decide +kernel
theorem dX8_rain_52 : decode cX8_rain 52 = .ok (.goto (-23), 3) := by decide +kernel
theorem dX8_rain_55 : decode cX8_rain 55 = .ok (.iload_n 2, 1) := by decide +kernel
theorem dX8_rain_56 : decode cX8_rain 56 = .ok (.ireturn, 1) := by decide +kernel
theorem dX8_measure_0 : decode cX8_measure 0 = .ok (.aload_n 0, 1) := by decide +kernel
theorem dX8_measure_1 : decode cX8_measure 1 = .ok (.iload_n 1, 1) := by decide +kernel
theorem dX8_measure_2 : decode cX8_measure 2 = .ok (.iload_n 2, 1) := by decide +kernel
theorem dX8_measure_3 : decode cX8_measure 3 = .ok (.invokevirtual 215, 3) := by decide +kernel
theorem dX8_measure_6 : decode cX8_measure 6 = .ok (.ifCond .ne 6, 3) := by decide +kernel
theorem dX8_measure_9 : decode cX8_measure 9 = .ok (.ldc 198, 2) := by decide +kernel
theorem dX8_measure_11 : decode cX8_measure 11 = .ok (.ireturn, 1) := by decide +kernel
theorem dX8_measure_12 : decode cX8_measure 12 = .ok (.aload_n 0, 1) := by decide +kernel
theorem dX8_measure_13 : decode cX8_measure 13 = .ok (.getfield 48, 3) := by decide +kernel
theorem dX8_measure_16 : decode cX8_measure 16 = .ok (.iload_n 1, 1) := by decide +kernel
theorem dX8_measure_17 : decode cX8_measure 17 = .ok (.dup2, 1) := by decide +kernel
theorem dX8_measure_18 : decode cX8_measure 18 = .ok (.iaload, 1) := by decide +kernel
theorem dX8_measure_19 : decode cX8_measure 19 = .ok (.iconst 1, 1) := by decide +kernel
theorem dX8_measure_20 : decode cX8_measure 20 = .ok (.iload_n 2, 1) := by decide +kernel
theorem dX8_measure_21 : decode cX8_measure 21 = .ok (.ishl, 1) := by decide +kernel
theorem dX8_measure_22 : decode cX8_measure 22 = .ok (.ior, 1) := by decide +kernel
theorem dX8_measure_23 : decode cX8_measure 23 = .ok (.iastore, 1) := by decide +kernel
theorem dX8_measure_24 : decode cX8_measure 24 = .ok (.aload_n 0, 1) := by decide +kernel
theorem dX8_measure_25 : decode cX8_measure 25 = .ok (.getfield 48, 3) := by decide +kernel
theorem dX8_measure_28 : decode cX8_measure 28 = .ok (.iload_n 1, 1) := by decide +kernel
theorem dX8_measure_29 : decode cX8_measure 29 = .ok (.iaload, 1) := by decide +kernel
theorem dX8_measure_30 : decode cX8_measure 30 = .ok (.invokestatic 284, 3) := by decide +kernel
theorem dX8_measure_33 : decode cX8_measure 33 = .ok (.ireturn, 1) := by decide +kernel
theorem dX8_write_0 : decode cX8_write 0 = .ok (.aload_n 0, 1) := by decide +kernel
theorem dX8_write_1 : decode cX8_write 1 = .ok (.iload_n 1, 1) := by decide +kernel
theorem dX8_write_2 : decode cX8_write 2 = .ok (.invokevirtual 166, 3) := by decide +kernel
theorem dX8_write_5 : decode cX8_write 5 = .ok (.ifCond .eq 15, 3) := by decide +kernel
theorem dX8_write_8 : decode cX8_write 8 = .ok (.iload_n 2, 1) := by decide +kernel
theorem dX8_write_9 : decode cX8_write 9 = .ok (.i2l, 1) := by decide +kernel
theorem dX8_write_10 : decode cX8_write 10 = .ok (.lconst 0, 1) := by decide +kernel
theorem dX8_write_11 : decode cX8_write 11 = .ok (.ldc2_w 287, 3) := by decide +kernel
theorem dX8_write_14 : decode cX8_write 14 = .ok (.invokestatic 71, 3) := by decide +kernel
theorem dX8_write_17 : decode cX8_write 17 = .ok (.ifCond .ne 6, 3) := by decide +kernel
theorem dX8_write_20 : decode cX8_write 20 = .ok (.ldc 198, 2) := by decide +kernel
theorem dX8_write_22 : decode cX8_write 22 = .ok (.ireturn, 1) := by decide +kernel
theorem dX8_write_23 : decode cX8_write 23 = .ok (.iload_n 3, 1) := by decide +kernel
theorem dX8_write_24 : decode cX8_write 24 = .ok (.i2l, 1) := by decide +kernel
theorem dX8_write_25 : decode cX8_write 25 = .ok (.lconst 0, 1) := by decide +kernel
theorem dX8_write_26 : decode cX8_write 26 = .ok (.ldc2_w 267, 3) := by decide +kernel
theorem dX8_write_29 : decode cX8_write 29 = .ok (.invokestatic 71, 3) := by decide +kernel
theorem dX8_write_32 : decode cX8_write 32 = .ok (.ifCond .ne 6, 3) := by decide +kernel
theorem dX8_write_35 : decode cX8_write 35 = .ok (.ldc 75, 2) := by decide +kernel
theorem dX8_write_37 : decode cX8_write 37 = .ok (.ireturn, 1) := by decide +kernel
theorem dX8_write_38 : decode cX8_write 38 = .ok (.aload_n 0, 1) := by decide +kernel
theorem dX8_write_39 : decode cX8_write 39 = .ok (.getfield 160, 3) := by decide +kernel
theorem dX8_write_42 : decode cX8_write 42 = .ok (.bipush 20, 2) := by decide +kernel
theorem dX8_write_44 : decode cX8_write 44 = .ok (.if_icmp .ne 6, 3) := by decide +kernel
theorem dX8_write_47 : decode cX8_write 47 = .ok (.ldc 79, 2) := by decide +kernel
theorem dX8_write_49 : decode cX8_write 49 = .ok (.ireturn, 1) := by decide +kernel
theorem dX8_write_50 : decode cX8_write 50 = .ok (.aload_n 0, 1) := by decide +kernel
theorem dX8_write_51 : decode cX8_write 51 = .ok (.getfield 60, 3) := by decide +kernel
theorem dX8_write_54 : decode cX8_write 54 = .ok (.aload_n 0, 1) := by decide +kernel
theorem dX8_write_55 : decode cX8_write 55 = .ok (.getfield 160, 3) := by decide +kernel
theorem dX8_write_58 : decode cX8_write 58 = .ok (.iload_n 1, 1) := by decide +kernel
theorem dX8_write_59 : decode cX8_write 59 = .ok (.iastore, 1) := by decide +kernel
theorem dX8_write_60 : decode cX8_write 60 = .ok (.aload_n 0, 1) := by decide +kernel
theorem dX8_write_61 : decode cX8_write 61 = .ok (.getfield 63, 3) := by decide +kernel
theorem dX8_write_64 : decode cX8_write 64 = .ok (.aload_n 0, 1) := by decide +kernel
theorem dX8_write_65 : decode cX8_write 65 = .ok (.getfield 160, 3) := by decide +kernel
theorem dX8_write_68 : decode cX8_write 68 = .ok (.iload_n 2, 1) := by decide +kernel
theorem dX8_write_69 : decode cX8_write 69 = .ok (.iastore, 1) := by decide +kernel
theorem dX8_write_70 : decode cX8_write 70 = .ok (.aload_n 0, 1) := by decide +kernel
theorem dX8_write_71 : decode cX8_write 71 = .ok (.getfield 66, 3) := by decide +kernel
theorem dX8_write_74 : decode cX8_write 74 = .ok (.aload_n 0, 1) := by decide +kernel
theorem dX8_write_75 : decode cX8_write 75 = .ok (.getfield 160, 3) := by decide +kernel
theorem dX8_write_78 : decode cX8_write 78 = .ok (.iload_n 3, 1) := by decide +kernel
theorem dX8_write_79 : decode cX8_write 79 = .ok (.iastore, 1) := by decide +kernel
theorem dX8_write_80 : decode cX8_write 80 = .ok (.aload_n 0, 1) := by decide +kernel
theorem dX8_write_81 : decode cX8_write 81 = .ok (.dup, 1) := by decide +kernel
theorem dX8_write_82 : decode cX8_write 82 = .ok (.getfield 160, 3) := by decide +kernel
theorem dX8_write_85 : decode cX8_write 85 = .ok (.iconst 1, 1) := by decide +kernel
theorem dX8_write_86 : decode cX8_write 86 = .ok (.iadd, 1) := by decide +kernel
theorem dX8_write_87 : decode cX8_write 87 = .ok (.putfield 160, 3) := by decide +kernel
theorem dX8_write_90 : decode cX8_write 90 = .ok (.aload_n 0, 1) := by decide +kernel
theorem dX8_write_91 : decode cX8_write 91 = .ok (.getfield 160, 3) := by decide +kernel
theorem dX8_write_94 : decode cX8_write 94 = .ok (.ireturn, 1) := by decide +kernel
theorem dX8_judge_0 : decode cX8_judge 0 = .ok (.iconst 0, 1) := by decide +kernel
theorem dX8_judge_1 : decode cX8_judge 1 = .ok (.istore_n 1, 1) := by decide +kernel
theorem dX8_judge_2 : decode cX8_judge 2 = .ok (.iload_n 1, 1) := by decide +kernel
theorem dX8_judge_3 : decode cX8_judge 3 = .ok (.aload_n 0, 1) := by decide +kernel
theorem dX8_judge_4 : decode cX8_judge 4 = .ok (.getfield 160, 3) := by decide +kernel
theorem dX8_judge_7 : decode cX8_judge 7 = .ok (.if_icmp .ge 55, 3) := by decide +kernel
theorem dX8_judge_10 : decode cX8_judge 10 = .ok (.aload_n 0, 1) := by decide +kernel
theorem dX8_judge_11 : decode cX8_judge 11 = .ok (.aload_n 0, 1) := by decide +kernel
theorem dX8_judge_12 : decode cX8_judge 12 = .ok (.getfield 60, 3) := by decide +kernel
theorem dX8_judge_15 : decode cX8_judge 15 = .ok (.iload_n 1, 1) := by decide +kernel
theorem dX8_judge_16 : decode cX8_judge 16 = .ok (.iaload, 1) := by decide +kernel
theorem dX8_judge_17 : decode cX8_judge 17 = .ok (.aload_n 0, 1) := by decide +kernel
theorem dX8_judge_18 : decode cX8_judge 18 = .ok (.getfield 63, 3) := by decide +kernel
theorem dX8_judge_21 : decode cX8_judge 21 = .ok (.iload_n 1, 1) := by decide +kernel
theorem dX8_judge_22 : decode cX8_judge 22 = .ok (.iaload, 1) := by decide +kernel
theorem dX8_judge_23 : decode cX8_judge 23 = .ok (.invokevirtual 215, 3) := by decide +kernel
theorem dX8_judge_26 : decode cX8_judge 26 = .ok (.ifCond .eq 28, 3) := by decide +kernel
theorem dX8_judge_29 : decode cX8_judge 29 = .ok (.aload_n 0, 1) := by decide +kernel
theorem dX8_judge_30 : decode cX8_judge 30 = .ok (.aload_n 0, 1) := by decide +kernel
theorem dX8_judge_31 : decode cX8_judge 31 = .ok (.getfield 60, 3) := by decide +kernel
theorem dX8_judge_34 : decode cX8_judge 34 = .ok (.iload_n 1, 1) := by decide +kernel
theorem dX8_judge_35 : decode cX8_judge 35 = .ok (.iaload, 1) := by decide +kernel
theorem dX8_judge_36 : decode cX8_judge 36 = .ok (.aload_n 0, 1) := by decide +kernel
theorem dX8_judge_37 : decode cX8_judge 37 = .ok (.getfield 63, 3) := by decide +kernel
theorem dX8_judge_40 : decode cX8_judge 40 = .ok (.iload_n 1, 1) := by decide +kernel
theorem dX8_judge_41 : decode cX8_judge 41 = .ok (.iaload, 1) := by decide +kernel
theorem dX8_judge_42 : decode cX8_judge 42 = .ok (.invokevirtual 222, 3) := by decide +kernel
theorem dX8_judge_45 : decode cX8_judge 45 = .ok (.aload_n 0, 1) := by decide +kernel
theorem dX8_judge_46 : decode cX8_judge 46 = .ok (.getfield 66, 3) := by decide +kernel
theorem dX8_judge_49 : decode cX8_judge 49 = .ok (.iload_n 1, 1) := by decide +kernel
theorem dX8_judge_50 : decode cX8_judge 50 = .ok (.iaload, 1) := by decide +kernel
theorem dX8_judge_51 : decode cX8_judge 51 = .ok (.if_icmp .eq 5, 3) := by decide +kernel
theorem dX8_judge_54 : decode cX8_judge 54 = .ok (.iload_n 1, 1) := by decide +kernel
theorem dX8_judge_55 : decode cX8_judge 55 = .ok (.ireturn, 1) := by decide +kernel
theorem dX8_judge_56 : decode cX8_judge 56 = .ok (.iinc 1 1, 3) := by decide +kernel
theorem dX8_judge_59 : decode cX8_judge 59 = .ok (.goto (-57), 3) := by decide +kernel
theorem dX8_judge_62 : decode cX8_judge 62 = .ok (.iconst (-1), 1) := by decide +kernel
theorem dX8_judge_63 : decode cX8_judge 63 = .ok (.ireturn, 1) := by decide +kernel
theorem dX8_tear_0 : decode cX8_tear 0 = .ok (.aload_n 0, 1) := by decide +kernel
theorem dX8_tear_1 : decode cX8_tear 1 = .ok (.getfield 160, 3) := by decide +kernel
theorem dX8_tear_4 : decode cX8_tear 4 = .ok (.istore_n 1, 1) := by decide +kernel
theorem dX8_tear_5 : decode cX8_tear 5 = .ok (.iconst 0, 1) := by decide +kernel
theorem dX8_tear_6 : decode cX8_tear 6 = .ok (.istore_n 2, 1) := by decide +kernel
theorem dX8_tear_7 : decode cX8_tear 7 = .ok (.iload_n 2, 1) := by decide +kernel
theorem dX8_tear_8 : decode cX8_tear 8 = .ok (.iconst 4, 1) := by decide +kernel
theorem dX8_tear_9 : decode cX8_tear 9 = .ok (.if_icmp .ge 28, 3) := by decide +kernel
theorem dX8_tear_12 : decode cX8_tear 12 = .ok (.iload_n 1, 1) := by decide +kernel
theorem dX8_tear_13 : decode cX8_tear 13 = .ok (.aload_n 0, 1) := by decide +kernel
theorem dX8_tear_14 : decode cX8_tear 14 = .ok (.getfield 48, 3) := by decide +kernel
theorem dX8_tear_17 : decode cX8_tear 17 = .ok (.iload_n 2, 1) := by decide +kernel
theorem dX8_tear_18 : decode cX8_tear 18 = .ok (.iaload, 1) := by decide +kernel
theorem dX8_tear_19 : decode cX8_tear 19 = .ok (.invokestatic 284, 3) := by decide +kernel
theorem dX8_tear_22 : decode cX8_tear 22 = .ok (.iadd, 1) := by decide +kernel
theorem dX8_tear_23 : decode cX8_tear 23 = .ok (.istore_n 1, 1) := by decide +kernel
theorem dX8_tear_24 : decode cX8_tear 24 = .ok (.aload_n 0, 1) := by decide +kernel
theorem dX8_tear_25 : decode cX8_tear 25 = .ok (.getfield 48, 3) := by decide +kernel
theorem dX8_tear_28 : decode cX8_tear 28 = .ok (.iload_n 2, 1) := by decide +kernel
theorem dX8_tear_29 : decode cX8_tear 29 = .ok (.iconst 0, 1) := by decide +kernel
theorem dX8_tear_30 : decode cX8_tear 30 = .ok (.iastore, 1) := by decide +kernel
theorem dX8_tear_31 : decode cX8_tear 31 = .ok (.iinc 2 1, 3) := by decide +kernel
theorem dX8_tear_34 : decode cX8_tear 34 = .ok (.goto (-27), 3) := by decide +kernel
theorem dX8_tear_37 : decode cX8_tear 37 = .ok (.aload_n 0, 1) := by decide +kernel
theorem dX8_tear_38 : decode cX8_tear 38 = .ok (.iconst 0, 1) := by decide +kernel
theorem dX8_tear_39 : decode cX8_tear 39 = .ok (.putfield 160, 3) := by decide +kernel
theorem dX8_tear_42 : decode cX8_tear 42 = .ok (.iload_n 1, 1) := by decide +kernel
theorem dX8_tear_43 : decode cX8_tear 43 = .ok (.ireturn, 1) := by decide +kernel
theorem dX8_seed_0 : decode cX8_seed 0 = .ok (.iload_n 1, 1) := by decide +kernel
theorem dX8_seed_1 : decode cX8_seed 1 = .ok (.ifCond .ge 6, 3) := by decide +kernel
theorem dX8_seed_4 : decode cX8_seed 4 = .ok (.ldc 75, 2) := by decide +kernel
theorem dX8_seed_6 : decode cX8_seed 6 = .ok (.ireturn, 1) := by decide +kernel
theorem dX8_seed_7 : decode cX8_seed 7 = .ok (.aload_n 0, 1) := by decide +kernel
theorem dX8_seed_8 : decode cX8_seed 8 = .ok (.getfield 7, 3) := by decide +kernel
theorem dX8_seed_11 : decode cX8_seed 11 = .ok (.bipush 53, 2) := by decide +kernel
theorem dX8_seed_13 : decode cX8_seed 13 = .ok (.iaload, 1) := by decide +kernel
theorem dX8_seed_14 : decode cX8_seed 14 = .ok (.istore_n 2, 1) := by decide +kernel
theorem dX8_seed_15 : decode cX8_seed 15 = .ok (.aload_n 0, 1) := by decide +kernel
theorem dX8_seed_16 : decode cX8_seed 16 = .ok (.getfield 7, 3) := by decide +kernel
theorem dX8_seed_19 : decode cX8_seed 19 = .ok (.bipush 53, 2) := by decide +kernel
theorem dX8_seed_21 : decode cX8_seed 21 = .ok (.iload_n 1, 1) := by decide +kernel
theorem dX8_seed_22 : decode cX8_seed 22 = .ok (.iastore, 1) := by decide +kernel
theorem dX8_seed_23 : decode cX8_seed 23 = .ok (.iload_n 2, 1) := by decide +kernel
theorem dX8_seed_24 : decode cX8_seed 24 = .ok (.ireturn, 1) := by decide +kernel
theorem dX8_keep_0 : decode cX8_keep 0 = .ok (.iload_n 1, 1) := by decide +kernel
theorem dX8_keep_1 : decode cX8_keep 1 = .ok (.i2l, 1) := by decide +kernel
theorem dX8_keep_2 : decode cX8_keep 2 = .ok (.lconst 0, 1) := by decide +kernel
theorem dX8_keep_3 : decode cX8_keep 3 = .ok (.lconst 1, 1) := by decide +kernel
theorem dX8_keep_4 : decode cX8_keep 4 = .ok (.invokestatic 71, 3) := by decide +kernel
theorem dX8_keep_7 : decode cX8_keep 7 = .ok (.ifCond .ne 6, 3) := by decide +kernel
theorem dX8_keep_10 : decode cX8_keep 10 = .ok (.ldc 198, 2) := by decide +kernel
theorem dX8_keep_12 : decode cX8_keep 12 = .ok (.ireturn, 1) := by decide +kernel
theorem dX8_keep_13 : decode cX8_keep 13 = .ok (.aload_n 0, 1) := by decide +kernel
theorem dX8_keep_14 : decode cX8_keep 14 = .ok (.iconst 0, 1) := by decide +kernel
theorem dX8_keep_15 : decode cX8_keep 15 = .ok (.bipush 54, 2) := by decide +kernel
theorem dX8_keep_17 : decode cX8_keep 17 = .ok (.bipush 54, 2) := by decide +kernel
theorem dX8_keep_19 : decode cX8_keep 19 = .ok (.iload_n 1, 1) := by decide +kernel
theorem dX8_keep_20 : decode cX8_keep 20 = .ok (.imul, 1) := by decide +kernel
theorem dX8_keep_21 : decode cX8_keep 21 = .ok (.iadd, 1) := by decide +kernel
theorem dX8_keep_22 : decode cX8_keep 22 = .ok (.invokevirtual 225, 3) := by decide +kernel
theorem dX8_keep_25 : decode cX8_keep 25 = .ok (.aload_n 0, 1) := by decide +kernel
theorem dX8_keep_26 : decode cX8_keep 26 = .ok (.getfield 13, 3) := by decide +kernel
theorem dX8_keep_29 : decode cX8_keep 29 = .ok (.iload_n 1, 1) := by decide +kernel
theorem dX8_keep_30 : decode cX8_keep 30 = .ok (.iconst 1, 1) := by decide +kernel
theorem dX8_keep_31 : decode cX8_keep 31 = .ok (.bastore, 1) := by decide +kernel
theorem dX8_keep_32 : decode cX8_keep 32 = .ok (.aload_n 0, 1) := by decide +kernel
theorem dX8_keep_33 : decode cX8_keep 33 = .ok (.iconst 0, 1) := by decide +kernel
theorem dX8_keep_34 : decode cX8_keep 34 = .ok (.putfield 163, 3) := by decide +kernel
theorem dX8_keep_37 : decode cX8_keep 37 = .ok (.iconst 1, 1) := by decide +kernel
theorem dX8_keep_38 : decode cX8_keep 38 = .ok (.ireturn, 1) := by decide +kernel
theorem dX8_goBack_0 : decode cX8_goBack 0 = .ok (.iload_n 1, 1) := by decide +kernel
theorem dX8_goBack_1 : decode cX8_goBack 1 = .ok (.i2l, 1) := by decide +kernel
theorem dX8_goBack_2 : decode cX8_goBack 2 = .ok (.lconst 0, 1) := by decide +kernel
theorem dX8_goBack_3 : decode cX8_goBack 3 = .ok (.lconst 1, 1) := by decide +kernel
theorem dX8_goBack_4 : decode cX8_goBack 4 = .ok (.invokestatic 71, 3) := by decide +kernel
theorem dX8_goBack_7 : decode cX8_goBack 7 = .ok (.ifCond .ne 6, 3) := by decide +kernel
theorem dX8_goBack_10 : decode cX8_goBack 10 = .ok (.ldc 198, 2) := by decide +kernel
theorem dX8_goBack_12 : decode cX8_goBack 12 = .ok (.ireturn, 1) := by decide +kernel
theorem dX8_goBack_13 : decode cX8_goBack 13 = .ok (.aload_n 0, 1) := by decide +kernel
theorem dX8_goBack_14 : decode cX8_goBack 14 = .ok (.getfield 13, 3) := by decide +kernel
theorem dX8_goBack_17 : decode cX8_goBack 17 = .ok (.iload_n 1, 1) := by decide +kernel
theorem dX8_goBack_18 : decode cX8_goBack 18 = .ok (.baload, 1) := by decide +kernel
theorem dX8_goBack_19 : decode cX8_goBack 19 = .ok (.ifCond .ne 6, 3) := by decide +kernel
theorem dX8_goBack_22 : decode cX8_goBack 22 = .ok (.ldc 184, 2) := by decide +kernel
theorem dX8_goBack_24 : decode cX8_goBack 24 = .ok (.ireturn, 1) := by decide +kernel
theorem dX8_goBack_25 : decode cX8_goBack 25 = .ok (.aload_n 0, 1) := by decide +kernel
theorem dX8_goBack_26 : decode cX8_goBack 26 = .ok (.bipush 54, 2) := by decide +kernel
theorem dX8_goBack_28 : decode cX8_goBack 28 = .ok (.bipush 54, 2) := by decide +kernel
theorem dX8_goBack_30 : decode cX8_goBack 30 = .ok (.iload_n 1, 1) := by decide +kernel
theorem dX8_goBack_31 : decode cX8_goBack 31 = .ok (.imul, 1) := by decide +kernel
theorem dX8_goBack_32 : decode cX8_goBack 32 = .ok (.iadd, 1) := by decide +kernel
theorem dX8_goBack_33 : decode cX8_goBack 33 = .ok (.iconst 0, 1) := by decide +kernel
theorem dX8_goBack_34 : decode cX8_goBack 34 = .ok (.invokevirtual 225, 3) := by decide +kernel
theorem dX8_goBack_37 : decode cX8_goBack 37 = .ok (.aload_n 0, 1) := by decide +kernel
theorem dX8_goBack_38 : decode cX8_goBack 38 = .ok (.iconst 0, 1) := by decide +kernel
theorem dX8_goBack_39 : decode cX8_goBack 39 = .ok (.putfield 163, 3) := by decide +kernel
theorem dX8_goBack_42 : decode cX8_goBack 42 = .ok (.iconst 1, 1) := by decide +kernel
theorem dX8_goBack_43 : decode cX8_goBack 43 = .ok (.ireturn, 1) := by decide +kernel
end
section
/-! THE ABSTRACT MACHINE: all cells of the run (73 of them) as one heap of ints; a method's run over it (Rn), a call (Ev); a rule an instruction. Nothing here speaks of one method. -/
/-- the tables' words that a callee may be handed on -/
def aT : List Cond := lw_tbl.filter goodWord
theorem aT_in {w : Cond} (h : w ∈ lw_tbl) (g : goodWord w = true) : w ∈ aT := List.mem_filter.mpr ⟨h, g⟩
theorem aT_lw {w : Cond} (h : w ∈ aT) : w ∈ lw_tbl := (List.mem_filter.mp h).1
theorem aT_ok {w : Cond} (h : w ∈ aT) : goodWord w = true := (List.mem_filter.mp h).2
/-- the one link between nest mates: Valley calls isHour -/
def nW : Cond := .methodLinkNest RX6 89 yX7_isHour "WeatherHand"
abbrev aH : Type := Nat → Nat → Int32
abbrev aM : Type := MethodName × ByteArray × Nat × Option FieldType × String × Room
abbrev mY (M : aM) : MethodName := M.1
abbrev mB (M : aM) : ByteArray := M.2.1
abbrev mL (M : aM) : Nat := M.2.2.1
abbrev mR (M : aM) : Option FieldType := M.2.2.2.1
abbrev mO (M : aM) : String := M.2.2.2.2.1
abbrev mRm (M : aM) : Room := M.2.2.2.2.2
/-- the cells in the order in which they are made: (class, or 100 ints, 101 booleans; fields or length) -/
def kT : List (Nat × Nat) := [(7, 12), (5, 5), (100, 230), (0, 7), (100, 4), (100, 48), (100, 48), (100, 48), (0, 7), (100, 4), (100, 48), (100, 48), (100, 48), (0, 7), (100, 4), (100, 48), (100, 48), (100, 48), (3, 7), (100, 30), (100, 30), (100, 30), (100, 30), (100, 30), (2, 4), (100, 20), (100, 20), (100, 20), (1, 5), (100, 384), (100, 384), (100, 384), (100, 1440), (4, 3), (100, 16), (100, 4), (6, 15), (100, 8), (100, 4), (100, 4), (100, 4), (100, 4), (100, 4), (100, 4), (100, 384), (6, 15), (100, 8), (100, 4), (100, 4), (100, 4), (100, 4), (100, 4), (100, 4), (100, 384), (8, 33), (100, 1782), (101, 2), (100, 6), (100, 16), (100, 8), (100, 8), (100, 8), (100, 8), (100, 8), (100, 8), (100, 230), (100, 4), (101, 384), (100, 10000), (100, 16), (100, 20), (100, 20), (100, 20)]
def kC (k : Nat) : Nat := (kT.getD k (200, 0)).1
def kN (k : Nat) : Nat := (kT.getD k (200, 0)).2
/-- a field: 0 a number, 1 a final reference, 2 a reference that changes -/
def fkT : List (List Nat) := [[1, 1, 1, 1, 0, 0, 0], [1, 1, 1, 1, 0], [1, 1, 1, 0], [1, 1, 1, 1, 1, 0, 0], [1, 0, 0], [1, 0, 0, 0, 0], [0, 0, 0, 0, 0, 0, 0, 1, 1, 1, 1, 1, 1, 1, 1], [1, 1, 1, 1, 1, 1, 1, 1, 1, 2, 2, 0], [1, 1, 0, 0, 1, 1, 0, 0, 1, 1, 1, 0, 0, 1, 1, 1, 0, 0, 1, 0, 0, 0, 0, 0, 1, 0, 1, 1, 1, 1, 1, 1, 0]]
/-- where a final reference points, from its object on -/
def roT : List (List Nat) := [[1, 2, 3, 4], [1, 2, 3, 4], [1, 2, 3], [1, 2, 3, 4, 5], [1], [1], [0, 0, 0, 0, 0, 0, 0, 1, 2, 3, 4, 5, 6, 7, 8], [1, 3, 8, 13, 18, 24, 28, 33, 35], [1, 2, 0, 0, 3, 4, 0, 0, 5, 6, 7, 0, 0, 8, 9, 10, 0, 0, 11, 0, 0, 0, 0, 0, 12, 0, 13, 14, 15, 16, 17, 18, 0]]
def fk (c j : Nat) : Nat := (fkT.getD c []).getD j 0
def ro (c j : Nat) : Nat := (roT.getD c []).getD j 0
def fv (ad : Nat → Nat) (k c j : Nat) (x : Int32) : Value := if fk c j = 0 then .int x else if fk c j = 1 then .ref (ad (k + ro c j)) else .ref (ad x.toNatClampNeg)
def fl (ad : Nat → Nat) (k : Nat) (f : Nat → Int32) : List Value := (List.range (kN k)).map (fun j => fv ad k (kC k) j (f j))
def ce (ad : Nat → Nat) (cA : Nat → ClassId) (h : aH) (k : Nat) : va_E := if kC k < 100 then .inr (kC k, fl ad k (h k)) else .inl (cA k, kN k, .inl (h k))
def wd (ad : Nat → Nat) (cA : Nat → ClassId) (h : aH) : va_W := (List.range 73).map (fun k => (ad k, ce ad cA h k))
def tyw (cA : Nat → ClassId) : List (ClassId × FieldType) := (List.range 73).map (fun k => (cA k, if kC k = 101 then .boolean else .int))
def aU (h : aH) (k j : Nat) (x : Int32) : aH := fun q => if q = k then upd (h k) j x else h q
def aV (h : aH) (k : Nat) (f : Nat → Int32) : aH := fun q => if q = k then f else h q
def lf (ad : Nat → Nat) (v : Value) : Value := match v with
  | .ref r => .ref (ad r)
  | v => v
theorem lf_cat (ad : Nat → Nat) (v : Value) : (lf ad v).category = v.category := by cases v <;> rfl
theorem lf_cats (ad : Nat → Nat) (st : List Value) : ((st.map (lf ad)).map fun v => v.category) = st.map fun v => v.category := by
  induction st with
  | nil => rfl
  | cons v t ih => simp only [List.map_cons, ih, lf_cat]
def lsR (ad : Nat → Nat) (L : List Value) (nL : Nat) (ls : Array Slot) : Prop := ls.size = nL ∧ lv_wf ls ∧ ∀ (i : Nat) (v : Value), L[i]? = some v → v ≠ .null → ls[i]? = some (.val (lf ad v))
theorem kC_lt {k : Nat} (h : kC k ≠ 200) : k < 73 := by
  rcases Nat.lt_or_ge k 73 with q | q
  · exact q
  · exact absurd (by unfold kC; rw [List.getD_eq_getElem?_getD, List.getElem?_eq_none (by show 73 ≤ k; exact q)]; rfl) h
theorem wd_at {ad : Nat → Nat} {cA : Nat → ClassId} {h : aH} {k : Nat} (hk : k < 73) : (wd ad cA h)[k]? = some (ad k, ce ad cA h k) := by
  unfold wd
  rw [List.getElem?_map, List.getElem?_range hk]
  rfl
theorem wd_obj {ad : Nat → Nat} {cA : Nat → ClassId} {h : aH} {k c : Nat} (hk : kC k = c) (hc : c < 100) : (wd ad cA h)[k]? = some (ad k, .inr (c, fl ad k (h k))) := by
  rw [wd_at (kC_lt (by omega))]
  unfold ce
  rw [if_pos (by omega), hk]
theorem wd_arr {ad : Nat → Nat} {cA : Nat → ClassId} {h : aH} {k : Nat} (hk : kC k = 100 ∨ kC k = 101) : (wd ad cA h)[k]? = some (ad k, .inl (cA k, kN k, .inl (h k))) := by
  rw [wd_at (kC_lt (by omega))]
  unfold ce
  rw [if_neg (by omega)]
theorem tyw_at {cA : Nat → ClassId} {k : Nat} (hk : k < 73) : (tyw cA)[k]? = some (cA k, if kC k = 101 then .boolean else .int) := by
  unfold tyw
  rw [List.getElem?_map, List.getElem?_range hk]
  rfl
theorem fl_at {ad : Nat → Nat} {k j : Nat} {f : Nat → Int32} (hj : j < kN k) : (fl ad k f)[j]? = some (fv ad k (kC k) j (f j)) := by
  unfold fl
  rw [List.getElem?_map, List.getElem?_range hj]
  rfl
theorem fl_len {ad : Nat → Nat} {k : Nat} {f : Nat → Int32} : (fl ad k f).length = kN k := by simp [fl]
theorem wd_len {ad : Nat → Nat} {cA : Nat → ClassId} {h : aH} : (wd ad cA h).length = 73 := by simp [wd]
/-- a cell is put anew -/
theorem wd_set {ad : Nat → Nat} {cA : Nat → ClassId} {h h2 : aH} {k : Nat} (hk : k < 73) (ho : ∀ q, q ≠ k → h2 q = h q) : (wd ad cA h).set k (ad k, ce ad cA h2 k) = wd ad cA h2 := by
  apply List.ext_getElem?
  intro i
  rcases Nat.lt_or_ge i 73 with q | q
  · rw [List.getElem?_set, wd_at (h := h2) q]
    by_cases e : k = i
    · subst e
      rw [if_pos rfl, if_pos (by rw [wd_len]; exact hk)]
    · rw [if_neg e, wd_at q]
      unfold ce
      rw [ho i (fun z => e z.symm)]
  · rw [List.getElem?_eq_none (by rw [List.length_set, wd_len]; exact q), List.getElem?_eq_none (by rw [wd_len]; exact q)]
theorem fl_set {ad : Nat → Nat} {k j : Nat} {f : Nat → Int32} {x : Int32} (hj : j < kN k) : (fl ad k f).set j (fv ad k (kC k) j x) = fl ad k (upd f j x) := by
  apply List.ext_getElem?
  intro i
  rcases Nat.lt_or_ge i (kN k) with q | q
  · rw [List.getElem?_set, fl_at (f := upd f j x) q]
    by_cases e : j = i
    · subst e
      rw [if_pos rfl, if_pos (by rw [fl_len]; exact hj)]
      simp [upd]
    · rw [if_neg e, fl_at q]
      have : upd f j x i = f i := by simp [upd]; intro z; exact absurd z.symm e
      rw [this]
  · rw [List.getElem?_eq_none (by rw [List.length_set, fl_len]; exact q), List.getElem?_eq_none (by rw [fl_len]; exact q)]
theorem aU_same {h : aH} {k j : Nat} {x : Int32} : aU h k j x k = upd (h k) j x := by simp [aU]
theorem aU_ne {h : aH} {k j q : Nat} {x : Int32} (hq : q ≠ k) : aU h k j x q = h q := by simp [aU, hq]
theorem wd_put {ad : Nat → Nat} {cA : Nat → ClassId} {h : aH} {k c j : Nat} {x : Int32} (hk : kC k = c) (hc : c < 100) (hj : j < kN k) : (wd ad cA h).set k (ad k, .inr (c, (fl ad k (h k)).set j (fv ad k c j x))) = wd ad cA (aU h k j x) := by
  have h1 : ce ad cA (aU h k j x) k = .inr (c, (fl ad k (h k)).set j (fv ad k c j x)) := by
    unfold ce
    rw [if_pos (by omega), aU_same, ← hk, fl_set hj]
  rw [← h1]
  exact wd_set (kC_lt (by omega)) (fun q hq => aU_ne hq)
theorem wd_ast {ad : Nat → Nat} {cA : Nat → ClassId} {h : aH} {k j : Nat} {x : Int32} (hk : kC k = 100 ∨ kC k = 101) : (wd ad cA h).set k (ad k, .inl (cA k, kN k, .inl (upd (h k) j x))) = wd ad cA (aU h k j x) := by
  have h1 : ce ad cA (aU h k j x) k = .inl (cA k, kN k, .inl (upd (h k) j x)) := by
    unfold ce
    rw [if_neg (by omega), aU_same]
  rw [← h1]
  exact wd_set (kC_lt (by omega)) (fun q hq => aU_ne hq)
theorem wd_arv {ad : Nat → Nat} {cA : Nat → ClassId} {h : aH} {k : Nat} {f : Nat → Int32} (hk : kC k = 100 ∨ kC k = 101) : (wd ad cA h).set k (ad k, .inl (cA k, kN k, .inl f)) = wd ad cA (aV h k f) := by
  have h1 : ce ad cA (aV h k f) k = .inl (cA k, kN k, .inl f) := by
    unfold ce aV
    rw [if_neg (by omega), if_pos rfl]
  rw [← h1]
  exact wd_set (kC_lt (by omega)) (fun q hq => by simp [aV, hq])
/-- where a run of a method stands -/
def cX (D : va_G) (ad : Nat → Nat) (cA : Nat → ClassId) (A : Nat → Prop) (sp : Nat × (Nat → Int32)) (M : aM) (p : Program) (s : State) (m : MethodId) (args : Array Value) (c : Code) (cells slots : Nat) : Prop :=
  p.tables.exec = Jvm.exec ∧ c.code = mB M ∧ c.maxLocals = mL M ∧ s.vm.findClass (mO M) = some m.cls ∧ (∀ w ∈ aT, w.before args s = true) ∧ va_K D vwCl (tyw cA) s ∧ (∀ h, va_D A (wd ad cA h)) ∧ (∀ q, s.heap.size ≤ q → A q) ∧ (cells ≤ (mRm M).cells ∧ slots ≤ (mRm M).slots) ∧ (mO M = RL → va_X (ad 73) sp.1 sp.2 s s.heap ∧ ad 73 < s.heap.size ∧ ¬ A (ad 73)) ∧ va_Nw nW s
def rI (o : Option Value) : Instr := match o with
  | none => .return_
  | some (.ref _) => .areturn
  | some _ => .ireturn
def rOk (M : aM) (o : Option Value) : Prop := match o with
  | none => mR M = none
  | some (.int x) => mR M = some .int ∨ (mR M = some .boolean ∧ (x = 0 ∨ x = 1))
  | some (.ref _) => ∃ n, mR M = some (.object n)
  | some _ => False
/-- from pc, with these locals, this stack, this heap, the method returns o, and the heap is h2 then -/
def Rn (sp : Nat × (Nat → Int32)) (M : aM) (pc : Nat) (ls st : List Value) (h : aH) (o : Option Value) (h2 : aH) : Prop :=
  ∀ (l : Launch) (p : Program) (e : Env) (s : State) (m : MethodId) (args : Array Value) (below : List Frame) (meth : Method) (c : Code) (D : va_G) (ad : Nat → Nat) (cA : Nat → ClassId) (A : Nat → Prop) (cells slots : Nat) (Q : State → Prop),
    cX D ad cA A sp M p s m args c cells slots →
    (∀ (pc' : Nat) (ls' : Array Slot) (H : Heap) (locs : List Loc), decode (mB M) pc' = .ok (rI o, 1) → rOk M o → va_P D vwCl (wd ad cA h2) H → va_S A s.heap H locs → W p l e (mRm M) s m args below meth c H locs cells slots Q (F0 m pc' ls' (o.toList.map (lf ad)))) →
    ∀ (H : Heap) (locs : List Loc) (lc : Array Slot), lsR ad ls (mL M) lc → va_P D vwCl (wd ad cA h) H → va_S A s.heap H locs → W p l e (mRm M) s m args below meth c H locs cells slots Q (F0 m pc lc (st.map (lf ad)))
end
section
section Rules
variable {sp : Nat × (Nat → Int32)} {M : aM} {pc : Nat} {ls st : List Value} {h h2 : aH} {o : Option Value}
theorem R_iconst {n : Int} {v : Int32} (hd : decode (mB M) pc = .ok (.iconst n, 1)) (hv : Int32.ofInt n = v) (k : Rn sp M (pc + 1) ls (.int v :: st) h o h2) : Rn sp M pc ls st h o h2 := by
  intro l p e s m args below meth c D ad cA A cells slots Q C F H locs lc hl hP hS
  exact lv_iconst C.1 C.2.1 hd hv (k l p e s m args below meth c D ad cA A cells slots Q C F H locs lc hl hP hS)
theorem R_bipush {n : Int} {v : Int32} (hd : decode (mB M) pc = .ok (.bipush n, 2)) (hv : (Int8.ofInt n).toInt32 = v) (k : Rn sp M (pc + 2) ls (.int v :: st) h o h2) : Rn sp M pc ls st h o h2 := by
  intro l p e s m args below meth c D ad cA A cells slots Q C F H locs lc hl hP hS
  exact lv_bipush C.1 C.2.1 hd hv (k l p e s m args below meth c D ad cA A cells slots Q C F H locs lc hl hP hS)
theorem R_sipush {n : Int} {v : Int32} (hd : decode (mB M) pc = .ok (.sipush n, 3)) (hv : (Int16.ofInt n).toInt32 = v) (k : Rn sp M (pc + 3) ls (.int v :: st) h o h2) : Rn sp M pc ls st h o h2 := by
  intro l p e s m args below meth c D ad cA A cells slots Q C F H locs lc hl hP hS
  exact lv_sipush C.1 C.2.1 hd hv (k l p e s m args below meth c D ad cA A cells slots Q C F H locs lc hl hP hS)
theorem R_lconst {n : Fin 2} {v : Int64} (hd : decode (mB M) pc = .ok (.lconst n, 1)) (hv : Int64.ofNat (n : Nat) = v) (k : Rn sp M (pc + 1) ls (.long v :: st) h o h2) : Rn sp M pc ls st h o h2 := by
  intro l p e s m args below meth c D ad cA A cells slots Q C F H locs lc hl hP hS
  exact lv_lconst C.1 C.2.1 hd hv (k l p e s m args below meth c D ad cA A cells slots Q C F H locs lc hl hP hS)
theorem R_ldc {i : Nat} {v : Int32} (hd : decode (mB M) pc = .ok (.ldc i, 2)) (hc : Cond.constant (mO M) i v ∈ aT) (k : Rn sp M (pc + 2) ls (.int v :: st) h o h2) : Rn sp M pc ls st h o h2 := by
  intro l p e s m args below meth c D ad cA A cells slots Q C F H locs lc hl hP hS
  exact lv_ldc C.1 C.2.1 C.2.2.2.1 (C.2.2.2.2.1 _ hc) hd (k l p e s m args below meth c D ad cA A cells slots Q C F H locs lc hl hP hS)
theorem R_ldcw {i : Nat} {v : Int32} (hd : decode (mB M) pc = .ok (.ldc_w i, 3)) (hc : Cond.constant (mO M) i v ∈ aT) (k : Rn sp M (pc + 3) ls (.int v :: st) h o h2) : Rn sp M pc ls st h o h2 := by
  intro l p e s m args below meth c D ad cA A cells slots Q C F H locs lc hl hP hS
  exact lv_ldcw C.1 C.2.1 C.2.2.2.1 (C.2.2.2.2.1 _ hc) hd (k l p e s m args below meth c D ad cA A cells slots Q C F H locs lc hl hP hS)
theorem R_ldc2 {i : Nat} {v : Int64} (hd : decode (mB M) pc = .ok (.ldc2_w i, 3)) (hc : Cond.constantLong (mO M) i v ∈ aT) (k : Rn sp M (pc + 3) ls (.long v :: st) h o h2) : Rn sp M pc ls st h o h2 := by
  intro l p e s m args below meth c D ad cA A cells slots Q C F H locs lc hl hP hS
  exact lv_ldc2 C.1 C.2.1 C.2.2.2.1 (C.2.2.2.2.1 _ hc) hd (k l p e s m args below meth c D ad cA A cells slots Q C F H locs lc hl hP hS)
theorem R_iload_n {n : Fin 4} {i : Nat} {x : Int32} (hd : decode (mB M) pc = .ok (.iload_n n, 1)) (hi : (n : Nat) = i) (hx : ls[i]? = some (.int x)) (k : Rn sp M (pc + 1) ls (.int x :: st) h o h2) : Rn sp M pc ls st h o h2 := by
  intro l p e s m args below meth c D ad cA A cells slots Q C F H locs lc hl hP hS
  exact lv_iload_n C.1 C.2.1 hd hi (hl.2.2 i (.int x) hx (fun z => by cases z)) (k l p e s m args below meth c D ad cA A cells slots Q C F H locs lc hl hP hS)
theorem R_iload {i : Nat} {x : Int32} (hd : decode (mB M) pc = .ok (.iload i, 2)) (hx : ls[i]? = some (.int x)) (k : Rn sp M (pc + 2) ls (.int x :: st) h o h2) : Rn sp M pc ls st h o h2 := by
  intro l p e s m args below meth c D ad cA A cells slots Q C F H locs lc hl hP hS
  exact lv_iload C.1 C.2.1 hd (hl.2.2 i (.int x) hx (fun z => by cases z)) (k l p e s m args below meth c D ad cA A cells slots Q C F H locs lc hl hP hS)
theorem R_lload_n {n : Fin 4} {i : Nat} {x : Int64} (hd : decode (mB M) pc = .ok (.lload_n n, 1)) (hi : (n : Nat) = i) (hx : ls[i]? = some (.long x)) (k : Rn sp M (pc + 1) ls (.long x :: st) h o h2) : Rn sp M pc ls st h o h2 := by
  intro l p e s m args below meth c D ad cA A cells slots Q C F H locs lc hl hP hS
  exact lv_lload_n C.1 C.2.1 hd hi (hl.2.2 i (.long x) hx (fun z => by cases z)) (k l p e s m args below meth c D ad cA A cells slots Q C F H locs lc hl hP hS)
theorem R_lload {i : Nat} {x : Int64} (hd : decode (mB M) pc = .ok (.lload i, 2)) (hx : ls[i]? = some (.long x)) (k : Rn sp M (pc + 2) ls (.long x :: st) h o h2) : Rn sp M pc ls st h o h2 := by
  intro l p e s m args below meth c D ad cA A cells slots Q C F H locs lc hl hP hS
  exact lv_lload C.1 C.2.1 hd (hl.2.2 i (.long x) hx (fun z => by cases z)) (k l p e s m args below meth c D ad cA A cells slots Q C F H locs lc hl hP hS)
theorem R_aload_n {n : Fin 4} {i x : Nat} (hd : decode (mB M) pc = .ok (.aload_n n, 1)) (hi : (n : Nat) = i) (hx : ls[i]? = some (.ref x)) (k : Rn sp M (pc + 1) ls (.ref x :: st) h o h2) : Rn sp M pc ls st h o h2 := by
  intro l p e s m args below meth c D ad cA A cells slots Q C F H locs lc hl hP hS
  exact lv_aload_n C.1 C.2.1 hd hi (hl.2.2 i (.ref x) hx (fun z => by cases z)) (k l p e s m args below meth c D ad cA A cells slots Q C F H locs lc hl hP hS)
theorem R_iadd {x y : Int32} (hd : decode (mB M) pc = .ok (.iadd, 1))  (k : Rn sp M (pc + 1) ls (.int (x + y) :: st) h o h2) : Rn sp M pc ls (.int y :: .int x :: st) h o h2 := by
  intro l p e s m args below meth c D ad cA A cells slots Q C F H locs lc hl hP hS
  exact lv_iadd C.1 C.2.1 hd (k l p e s m args below meth c D ad cA A cells slots Q C F H locs lc hl hP hS)
theorem R_isub {x y : Int32} (hd : decode (mB M) pc = .ok (.isub, 1))  (k : Rn sp M (pc + 1) ls (.int (x - y) :: st) h o h2) : Rn sp M pc ls (.int y :: .int x :: st) h o h2 := by
  intro l p e s m args below meth c D ad cA A cells slots Q C F H locs lc hl hP hS
  exact lv_isub C.1 C.2.1 hd (k l p e s m args below meth c D ad cA A cells slots Q C F H locs lc hl hP hS)
theorem R_imul {x y : Int32} (hd : decode (mB M) pc = .ok (.imul, 1))  (k : Rn sp M (pc + 1) ls (.int (x * y) :: st) h o h2) : Rn sp M pc ls (.int y :: .int x :: st) h o h2 := by
  intro l p e s m args below meth c D ad cA A cells slots Q C F H locs lc hl hP hS
  exact lv_imul C.1 C.2.1 hd (k l p e s m args below meth c D ad cA A cells slots Q C F H locs lc hl hP hS)
theorem R_iand {x y : Int32} (hd : decode (mB M) pc = .ok (.iand, 1))  (k : Rn sp M (pc + 1) ls (.int (x &&& y) :: st) h o h2) : Rn sp M pc ls (.int y :: .int x :: st) h o h2 := by
  intro l p e s m args below meth c D ad cA A cells slots Q C F H locs lc hl hP hS
  exact lv_iand C.1 C.2.1 hd (k l p e s m args below meth c D ad cA A cells slots Q C F H locs lc hl hP hS)
theorem R_ior {x y : Int32} (hd : decode (mB M) pc = .ok (.ior, 1))  (k : Rn sp M (pc + 1) ls (.int (x ||| y) :: st) h o h2) : Rn sp M pc ls (.int y :: .int x :: st) h o h2 := by
  intro l p e s m args below meth c D ad cA A cells slots Q C F H locs lc hl hP hS
  exact lv_ior C.1 C.2.1 hd (k l p e s m args below meth c D ad cA A cells slots Q C F H locs lc hl hP hS)
theorem R_ishl {x y : Int32} (hd : decode (mB M) pc = .ok (.ishl, 1))  (k : Rn sp M (pc + 1) ls (.int (x <<< (y &&& 31)) :: st) h o h2) : Rn sp M pc ls (.int y :: .int x :: st) h o h2 := by
  intro l p e s m args below meth c D ad cA A cells slots Q C F H locs lc hl hP hS
  exact lv_ishl C.1 C.2.1 hd (k l p e s m args below meth c D ad cA A cells slots Q C F H locs lc hl hP hS)
theorem R_ishr {x y : Int32} (hd : decode (mB M) pc = .ok (.ishr, 1))  (k : Rn sp M (pc + 1) ls (.int (x >>> (y &&& 31)) :: st) h o h2) : Rn sp M pc ls (.int y :: .int x :: st) h o h2 := by
  intro l p e s m args below meth c D ad cA A cells slots Q C F H locs lc hl hP hS
  exact lv_ishr C.1 C.2.1 hd (k l p e s m args below meth c D ad cA A cells slots Q C F H locs lc hl hP hS)
theorem R_iushr {x y v : Int32} (hd : decode (mB M) pc = .ok (.iushr, 1)) (hv : (x.toUInt32 >>> (y.toUInt32 &&& Int32.toUInt32 31)).toInt32 = v) (k : Rn sp M (pc + 1) ls (.int v :: st) h o h2) : Rn sp M pc ls (.int y :: .int x :: st) h o h2 := by
  intro l p e s m args below meth c D ad cA A cells slots Q C F H locs lc hl hP hS
  exact lv_iushr C.1 C.2.1 hd hv (k l p e s m args below meth c D ad cA A cells slots Q C F H locs lc hl hP hS)
theorem R_idiv {x y : Int32} (hd : decode (mB M) pc = .ok (.idiv, 1)) (hne : ¬ y = 0) (k : Rn sp M (pc + 1) ls (.int (x / y) :: st) h o h2) : Rn sp M pc ls (.int y :: .int x :: st) h o h2 := by
  intro l p e s m args below meth c D ad cA A cells slots Q C F H locs lc hl hP hS
  exact lv_idiv C.1 C.2.1 hd hne (k l p e s m args below meth c D ad cA A cells slots Q C F H locs lc hl hP hS)
theorem R_irem {x y : Int32} (hd : decode (mB M) pc = .ok (.irem, 1)) (hne : ¬ y = 0) (k : Rn sp M (pc + 1) ls (.int (x - x / y * y) :: st) h o h2) : Rn sp M pc ls (.int y :: .int x :: st) h o h2 := by
  intro l p e s m args below meth c D ad cA A cells slots Q C F H locs lc hl hP hS
  exact lv_irem C.1 C.2.1 hd hne (k l p e s m args below meth c D ad cA A cells slots Q C F H locs lc hl hP hS)
theorem R_ladd {x y : Int64} (hd : decode (mB M) pc = .ok (.ladd, 1))  (k : Rn sp M (pc + 1) ls (.long (x + y) :: st) h o h2) : Rn sp M pc ls (.long y :: .long x :: st) h o h2 := by
  intro l p e s m args below meth c D ad cA A cells slots Q C F H locs lc hl hP hS
  exact lv_ladd C.1 C.2.1 hd (k l p e s m args below meth c D ad cA A cells slots Q C F H locs lc hl hP hS)
theorem R_lmul {x y : Int64} (hd : decode (mB M) pc = .ok (.lmul, 1))  (k : Rn sp M (pc + 1) ls (.long (x * y) :: st) h o h2) : Rn sp M pc ls (.long y :: .long x :: st) h o h2 := by
  intro l p e s m args below meth c D ad cA A cells slots Q C F H locs lc hl hP hS
  exact lv_lmul C.1 C.2.1 hd (k l p e s m args below meth c D ad cA A cells slots Q C F H locs lc hl hP hS)
theorem R_lrem {x y : Int64} (hd : decode (mB M) pc = .ok (.lrem, 1)) (hne : ¬ y = 0) (k : Rn sp M (pc + 1) ls (.long (x - x / y * y) :: st) h o h2) : Rn sp M pc ls (.long y :: .long x :: st) h o h2 := by
  intro l p e s m args below meth c D ad cA A cells slots Q C F H locs lc hl hP hS
  exact lv_lrem C.1 C.2.1 hd hne (k l p e s m args below meth c D ad cA A cells slots Q C F H locs lc hl hP hS)
theorem R_i2l {x : Int32} (hd : decode (mB M) pc = .ok (.i2l, 1))  (k : Rn sp M (pc + 1) ls (.long x.toInt64 :: st) h o h2) : Rn sp M pc ls (.int x :: st) h o h2 := by
  intro l p e s m args below meth c D ad cA A cells slots Q C F H locs lc hl hP hS
  exact lv_i2l C.1 C.2.1 hd rfl (k l p e s m args below meth c D ad cA A cells slots Q C F H locs lc hl hP hS)
theorem R_l2i {x : Int64} (hd : decode (mB M) pc = .ok (.l2i, 1))  (k : Rn sp M (pc + 1) ls (.int x.toInt32 :: st) h o h2) : Rn sp M pc ls (.long x :: st) h o h2 := by
  intro l p e s m args below meth c D ad cA A cells slots Q C F H locs lc hl hP hS
  exact lv_l2i C.1 C.2.1 hd rfl (k l p e s m args below meth c D ad cA A cells slots Q C F H locs lc hl hP hS)
theorem R_lcmp {x y : Int64} (hd : decode (mB M) pc = .ok (.lcmp, 1))  (k : Rn sp M (pc + 1) ls (.int (lg_cmp x y) :: st) h o h2) : Rn sp M pc ls (.long y :: .long x :: st) h o h2 := by
  intro l p e s m args below meth c D ad cA A cells slots Q C F H locs lc hl hP hS
  exact W.lcmp C.1 C.2.1 hd (k l p e s m args below meth c D ad cA A cells slots Q C F H locs lc hl hP hS)
theorem R_dup {v : Value} (hd : decode (mB M) pc = .ok (.dup, 1)) (hc : v.category = 1) (k : Rn sp M (pc + 1) ls (v :: v :: st) h o h2) : Rn sp M pc ls (v :: st) h o h2 := by
  intro l p e s m args below meth c D ad cA A cells slots Q C F H locs lc hl hP hS
  exact lv_dup C.1 C.2.1 hd (by rw [lf_cat]; exact hc) (k l p e s m args below meth c D ad cA A cells slots Q C F H locs lc hl hP hS)
theorem R_pop {v : Value} (hd : decode (mB M) pc = .ok (.pop, 1)) (hc : v.category = 1) (k : Rn sp M (pc + 1) ls st h o h2) : Rn sp M pc ls (v :: st) h o h2 := by
  intro l p e s m args below meth c D ad cA A cells slots Q C F H locs lc hl hP hS
  exact lv_pop C.1 C.2.1 hd (by rw [lf_cat]; exact hc) (k l p e s m args below meth c D ad cA A cells slots Q C F H locs lc hl hP hS)
theorem R_dup2 {v w : Value} (hd : decode (mB M) pc = .ok (.dup2, 1)) (hc : v.category = 1) (hc2 : w.category = 1) (k : Rn sp M (pc + 1) ls (v :: w :: v :: w :: st) h o h2) : Rn sp M pc ls (v :: w :: st) h o h2 := by
  intro l p e s m args below meth c D ad cA A cells slots Q C F H locs lc hl hP hS
  exact lv_dup2_11 C.1 C.2.1 hd (by rw [lf_cat]; exact hc) (by rw [lf_cat]; exact hc2) (k l p e s m args below meth c D ad cA A cells slots Q C F H locs lc hl hP hS)
theorem R_goto {off : Int} {tgt : Nat} (hd : decode (mB M) pc = .ok (.goto off, 3)) (ht : (pc : Int) + off = (tgt : Int)) (k : Rn sp M (tgt) ls st h o h2) : Rn sp M pc ls st h o h2 := by
  intro l p e s m args below meth c D ad cA A cells slots Q C F H locs lc hl hP hS
  exact lv_goto C.1 C.2.1 hd ht (k l p e s m args below meth c D ad cA A cells slots Q C F H locs lc hl hP hS)
theorem R_icmp_eq_t {x y : Int32} {off : Int} {tgt : Nat} (hd : decode (mB M) pc = .ok (.if_icmp .eq off, 3)) (ht : (pc : Int) + off = (tgt : Int)) (hc : x = y) (k : Rn sp M tgt ls st h o h2) : Rn sp M pc ls (.int y :: .int x :: st) h o h2 := by
  intro l p e s m args below meth c D ad cA A cells slots Q C F H locs lc hl hP hS
  exact lv_icmp_eq C.1 C.2.1 hd ht (fun _ => k l p e s m args below meth c D ad cA A cells slots Q C F H locs lc hl hP hS) (fun z => absurd hc z)
theorem R_icmp_eq_f {x y : Int32} {off : Int} {tgt : Nat} (hd : decode (mB M) pc = .ok (.if_icmp .eq off, 3)) (ht : (pc : Int) + off = (tgt : Int)) (hc : ¬ x = y) (k : Rn sp M (pc + 3) ls st h o h2) : Rn sp M pc ls (.int y :: .int x :: st) h o h2 := by
  intro l p e s m args below meth c D ad cA A cells slots Q C F H locs lc hl hP hS
  exact lv_icmp_eq C.1 C.2.1 hd ht (fun z => absurd z hc) (fun _ => k l p e s m args below meth c D ad cA A cells slots Q C F H locs lc hl hP hS)
theorem R_icmp_ne_t {x y : Int32} {off : Int} {tgt : Nat} (hd : decode (mB M) pc = .ok (.if_icmp .ne off, 3)) (ht : (pc : Int) + off = (tgt : Int)) (hc : ¬ x = y) (k : Rn sp M tgt ls st h o h2) : Rn sp M pc ls (.int y :: .int x :: st) h o h2 := by
  intro l p e s m args below meth c D ad cA A cells slots Q C F H locs lc hl hP hS
  exact lv_icmp_ne C.1 C.2.1 hd ht (fun _ => k l p e s m args below meth c D ad cA A cells slots Q C F H locs lc hl hP hS) (fun z => absurd z hc)
theorem R_icmp_ne_f {x y : Int32} {off : Int} {tgt : Nat} (hd : decode (mB M) pc = .ok (.if_icmp .ne off, 3)) (ht : (pc : Int) + off = (tgt : Int)) (hc : x = y) (k : Rn sp M (pc + 3) ls st h o h2) : Rn sp M pc ls (.int y :: .int x :: st) h o h2 := by
  intro l p e s m args below meth c D ad cA A cells slots Q C F H locs lc hl hP hS
  exact lv_icmp_ne C.1 C.2.1 hd ht (fun z => absurd hc z) (fun _ => k l p e s m args below meth c D ad cA A cells slots Q C F H locs lc hl hP hS)
theorem R_icmp_lt_t {x y : Int32} {off : Int} {tgt : Nat} (hd : decode (mB M) pc = .ok (.if_icmp .lt off, 3)) (ht : (pc : Int) + off = (tgt : Int)) (hc : x < y) (k : Rn sp M tgt ls st h o h2) : Rn sp M pc ls (.int y :: .int x :: st) h o h2 := by
  intro l p e s m args below meth c D ad cA A cells slots Q C F H locs lc hl hP hS
  exact lv_icmp_lt C.1 C.2.1 hd ht (fun _ => k l p e s m args below meth c D ad cA A cells slots Q C F H locs lc hl hP hS) (fun z => absurd hc z)
theorem R_icmp_lt_f {x y : Int32} {off : Int} {tgt : Nat} (hd : decode (mB M) pc = .ok (.if_icmp .lt off, 3)) (ht : (pc : Int) + off = (tgt : Int)) (hc : ¬ x < y) (k : Rn sp M (pc + 3) ls st h o h2) : Rn sp M pc ls (.int y :: .int x :: st) h o h2 := by
  intro l p e s m args below meth c D ad cA A cells slots Q C F H locs lc hl hP hS
  exact lv_icmp_lt C.1 C.2.1 hd ht (fun z => absurd z hc) (fun _ => k l p e s m args below meth c D ad cA A cells slots Q C F H locs lc hl hP hS)
theorem R_icmp_ge_t {x y : Int32} {off : Int} {tgt : Nat} (hd : decode (mB M) pc = .ok (.if_icmp .ge off, 3)) (ht : (pc : Int) + off = (tgt : Int)) (hc : y ≤ x) (k : Rn sp M tgt ls st h o h2) : Rn sp M pc ls (.int y :: .int x :: st) h o h2 := by
  intro l p e s m args below meth c D ad cA A cells slots Q C F H locs lc hl hP hS
  exact lv_icmp_ge C.1 C.2.1 hd ht (fun _ => k l p e s m args below meth c D ad cA A cells slots Q C F H locs lc hl hP hS) (fun z => absurd hc z)
theorem R_icmp_ge_f {x y : Int32} {off : Int} {tgt : Nat} (hd : decode (mB M) pc = .ok (.if_icmp .ge off, 3)) (ht : (pc : Int) + off = (tgt : Int)) (hc : ¬ y ≤ x) (k : Rn sp M (pc + 3) ls st h o h2) : Rn sp M pc ls (.int y :: .int x :: st) h o h2 := by
  intro l p e s m args below meth c D ad cA A cells slots Q C F H locs lc hl hP hS
  exact lv_icmp_ge C.1 C.2.1 hd ht (fun z => absurd z hc) (fun _ => k l p e s m args below meth c D ad cA A cells slots Q C F H locs lc hl hP hS)
theorem R_icmp_gt_t {x y : Int32} {off : Int} {tgt : Nat} (hd : decode (mB M) pc = .ok (.if_icmp .gt off, 3)) (ht : (pc : Int) + off = (tgt : Int)) (hc : y < x) (k : Rn sp M tgt ls st h o h2) : Rn sp M pc ls (.int y :: .int x :: st) h o h2 := by
  intro l p e s m args below meth c D ad cA A cells slots Q C F H locs lc hl hP hS
  exact lv_icmp_gt C.1 C.2.1 hd ht (fun _ => k l p e s m args below meth c D ad cA A cells slots Q C F H locs lc hl hP hS) (fun z => absurd hc z)
theorem R_icmp_gt_f {x y : Int32} {off : Int} {tgt : Nat} (hd : decode (mB M) pc = .ok (.if_icmp .gt off, 3)) (ht : (pc : Int) + off = (tgt : Int)) (hc : ¬ y < x) (k : Rn sp M (pc + 3) ls st h o h2) : Rn sp M pc ls (.int y :: .int x :: st) h o h2 := by
  intro l p e s m args below meth c D ad cA A cells slots Q C F H locs lc hl hP hS
  exact lv_icmp_gt C.1 C.2.1 hd ht (fun z => absurd z hc) (fun _ => k l p e s m args below meth c D ad cA A cells slots Q C F H locs lc hl hP hS)
theorem R_icmp_le_t {x y : Int32} {off : Int} {tgt : Nat} (hd : decode (mB M) pc = .ok (.if_icmp .le off, 3)) (ht : (pc : Int) + off = (tgt : Int)) (hc : x ≤ y) (k : Rn sp M tgt ls st h o h2) : Rn sp M pc ls (.int y :: .int x :: st) h o h2 := by
  intro l p e s m args below meth c D ad cA A cells slots Q C F H locs lc hl hP hS
  exact lv_icmp_le C.1 C.2.1 hd ht (fun _ => k l p e s m args below meth c D ad cA A cells slots Q C F H locs lc hl hP hS) (fun z => absurd hc z)
theorem R_icmp_le_f {x y : Int32} {off : Int} {tgt : Nat} (hd : decode (mB M) pc = .ok (.if_icmp .le off, 3)) (ht : (pc : Int) + off = (tgt : Int)) (hc : ¬ x ≤ y) (k : Rn sp M (pc + 3) ls st h o h2) : Rn sp M pc ls (.int y :: .int x :: st) h o h2 := by
  intro l p e s m args below meth c D ad cA A cells slots Q C F H locs lc hl hP hS
  exact lv_icmp_le C.1 C.2.1 hd ht (fun z => absurd z hc) (fun _ => k l p e s m args below meth c D ad cA A cells slots Q C F H locs lc hl hP hS)
theorem R_if_eq_t {x : Int32} {off : Int} {tgt : Nat} (hd : decode (mB M) pc = .ok (.ifCond .eq off, 3)) (ht : (pc : Int) + off = (tgt : Int)) (hc : x = 0) (k : Rn sp M tgt ls st h o h2) : Rn sp M pc ls (.int x :: st) h o h2 := by
  intro l p e s m args below meth c D ad cA A cells slots Q C F H locs lc hl hP hS
  exact lv_if_eq C.1 C.2.1 hd ht (fun _ => k l p e s m args below meth c D ad cA A cells slots Q C F H locs lc hl hP hS) (fun z => absurd hc z)
theorem R_if_eq_f {x : Int32} {off : Int} {tgt : Nat} (hd : decode (mB M) pc = .ok (.ifCond .eq off, 3)) (ht : (pc : Int) + off = (tgt : Int)) (hc : ¬ x = 0) (k : Rn sp M (pc + 3) ls st h o h2) : Rn sp M pc ls (.int x :: st) h o h2 := by
  intro l p e s m args below meth c D ad cA A cells slots Q C F H locs lc hl hP hS
  exact lv_if_eq C.1 C.2.1 hd ht (fun z => absurd z hc) (fun _ => k l p e s m args below meth c D ad cA A cells slots Q C F H locs lc hl hP hS)
theorem R_if_ne_t {x : Int32} {off : Int} {tgt : Nat} (hd : decode (mB M) pc = .ok (.ifCond .ne off, 3)) (ht : (pc : Int) + off = (tgt : Int)) (hc : ¬ x = 0) (k : Rn sp M tgt ls st h o h2) : Rn sp M pc ls (.int x :: st) h o h2 := by
  intro l p e s m args below meth c D ad cA A cells slots Q C F H locs lc hl hP hS
  exact lv_if_ne C.1 C.2.1 hd ht (fun _ => k l p e s m args below meth c D ad cA A cells slots Q C F H locs lc hl hP hS) (fun z => absurd z hc)
theorem R_if_ne_f {x : Int32} {off : Int} {tgt : Nat} (hd : decode (mB M) pc = .ok (.ifCond .ne off, 3)) (ht : (pc : Int) + off = (tgt : Int)) (hc : x = 0) (k : Rn sp M (pc + 3) ls st h o h2) : Rn sp M pc ls (.int x :: st) h o h2 := by
  intro l p e s m args below meth c D ad cA A cells slots Q C F H locs lc hl hP hS
  exact lv_if_ne C.1 C.2.1 hd ht (fun z => absurd hc z) (fun _ => k l p e s m args below meth c D ad cA A cells slots Q C F H locs lc hl hP hS)
theorem R_if_lt_t {x : Int32} {off : Int} {tgt : Nat} (hd : decode (mB M) pc = .ok (.ifCond .lt off, 3)) (ht : (pc : Int) + off = (tgt : Int)) (hc : x < 0) (k : Rn sp M tgt ls st h o h2) : Rn sp M pc ls (.int x :: st) h o h2 := by
  intro l p e s m args below meth c D ad cA A cells slots Q C F H locs lc hl hP hS
  exact lv_if_lt C.1 C.2.1 hd ht (fun _ => k l p e s m args below meth c D ad cA A cells slots Q C F H locs lc hl hP hS) (fun z => absurd hc z)
theorem R_if_lt_f {x : Int32} {off : Int} {tgt : Nat} (hd : decode (mB M) pc = .ok (.ifCond .lt off, 3)) (ht : (pc : Int) + off = (tgt : Int)) (hc : ¬ x < 0) (k : Rn sp M (pc + 3) ls st h o h2) : Rn sp M pc ls (.int x :: st) h o h2 := by
  intro l p e s m args below meth c D ad cA A cells slots Q C F H locs lc hl hP hS
  exact lv_if_lt C.1 C.2.1 hd ht (fun z => absurd z hc) (fun _ => k l p e s m args below meth c D ad cA A cells slots Q C F H locs lc hl hP hS)
theorem R_if_ge_t {x : Int32} {off : Int} {tgt : Nat} (hd : decode (mB M) pc = .ok (.ifCond .ge off, 3)) (ht : (pc : Int) + off = (tgt : Int)) (hc : 0 ≤ x) (k : Rn sp M tgt ls st h o h2) : Rn sp M pc ls (.int x :: st) h o h2 := by
  intro l p e s m args below meth c D ad cA A cells slots Q C F H locs lc hl hP hS
  exact lv_if_ge C.1 C.2.1 hd ht (fun _ => k l p e s m args below meth c D ad cA A cells slots Q C F H locs lc hl hP hS) (fun z => absurd hc z)
theorem R_if_ge_f {x : Int32} {off : Int} {tgt : Nat} (hd : decode (mB M) pc = .ok (.ifCond .ge off, 3)) (ht : (pc : Int) + off = (tgt : Int)) (hc : ¬ 0 ≤ x) (k : Rn sp M (pc + 3) ls st h o h2) : Rn sp M pc ls (.int x :: st) h o h2 := by
  intro l p e s m args below meth c D ad cA A cells slots Q C F H locs lc hl hP hS
  exact lv_if_ge C.1 C.2.1 hd ht (fun z => absurd z hc) (fun _ => k l p e s m args below meth c D ad cA A cells slots Q C F H locs lc hl hP hS)
theorem R_if_gt_t {x : Int32} {off : Int} {tgt : Nat} (hd : decode (mB M) pc = .ok (.ifCond .gt off, 3)) (ht : (pc : Int) + off = (tgt : Int)) (hc : 0 < x) (k : Rn sp M tgt ls st h o h2) : Rn sp M pc ls (.int x :: st) h o h2 := by
  intro l p e s m args below meth c D ad cA A cells slots Q C F H locs lc hl hP hS
  exact lv_if_gt C.1 C.2.1 hd ht (fun _ => k l p e s m args below meth c D ad cA A cells slots Q C F H locs lc hl hP hS) (fun z => absurd hc z)
theorem R_if_gt_f {x : Int32} {off : Int} {tgt : Nat} (hd : decode (mB M) pc = .ok (.ifCond .gt off, 3)) (ht : (pc : Int) + off = (tgt : Int)) (hc : ¬ 0 < x) (k : Rn sp M (pc + 3) ls st h o h2) : Rn sp M pc ls (.int x :: st) h o h2 := by
  intro l p e s m args below meth c D ad cA A cells slots Q C F H locs lc hl hP hS
  exact lv_if_gt C.1 C.2.1 hd ht (fun z => absurd z hc) (fun _ => k l p e s m args below meth c D ad cA A cells slots Q C F H locs lc hl hP hS)
theorem R_if_le_t {x : Int32} {off : Int} {tgt : Nat} (hd : decode (mB M) pc = .ok (.ifCond .le off, 3)) (ht : (pc : Int) + off = (tgt : Int)) (hc : x ≤ 0) (k : Rn sp M tgt ls st h o h2) : Rn sp M pc ls (.int x :: st) h o h2 := by
  intro l p e s m args below meth c D ad cA A cells slots Q C F H locs lc hl hP hS
  exact lv_if_le C.1 C.2.1 hd ht (fun _ => k l p e s m args below meth c D ad cA A cells slots Q C F H locs lc hl hP hS) (fun z => absurd hc z)
theorem R_if_le_f {x : Int32} {off : Int} {tgt : Nat} (hd : decode (mB M) pc = .ok (.ifCond .le off, 3)) (ht : (pc : Int) + off = (tgt : Int)) (hc : ¬ x ≤ 0) (k : Rn sp M (pc + 3) ls st h o h2) : Rn sp M pc ls (.int x :: st) h o h2 := by
  intro l p e s m args below meth c D ad cA A cells slots Q C F H locs lc hl hP hS
  exact lv_if_le C.1 C.2.1 hd ht (fun z => absurd z hc) (fun _ => k l p e s m args below meth c D ad cA A cells slots Q C F H locs lc hl hP hS)
theorem R_tableIn {dflt lo hi : Int} {offs : Array Int} {len : Nat} {x : Int32} {off : Int} {tgt : Nat} (hd : decode (mB M) pc = .ok (.tableswitch dflt lo hi offs, len)) (h1 : ¬ x.toInt < lo) (h3 : ¬ hi < x.toInt) (ho : offs[(x.toInt - lo).toNat]? = some off) (ht : (pc : Int) + off = (tgt : Int)) (k : Rn sp M (tgt) ls st h o h2) : Rn sp M pc ls (.int x :: st) h o h2 := by
  intro l p e s m args below meth c D ad cA A cells slots Q C F H locs lc hl hP hS
  exact lv_tableIn C.1 C.2.1 hd h1 h3 ho ht (k l p e s m args below meth c D ad cA A cells slots Q C F H locs lc hl hP hS)
theorem R_tableOut {dflt lo hi : Int} {offs : Array Int} {len : Nat} {x : Int32} {tgt : Nat} (hd : decode (mB M) pc = .ok (.tableswitch dflt lo hi offs, len)) (h1 : x.toInt < lo ∨ hi < x.toInt) (ht : (pc : Int) + dflt = (tgt : Int)) (k : Rn sp M (tgt) ls st h o h2) : Rn sp M pc ls (.int x :: st) h o h2 := by
  intro l p e s m args below meth c D ad cA A cells slots Q C F H locs lc hl hP hS
  exact lv_tableOut C.1 C.2.1 hd h1 ht (k l p e s m args below meth c D ad cA A cells slots Q C F H locs lc hl hP hS)
theorem R_lookup {dflt : Int} {ps : Array (Int × Int)} {len : Nat} {x : Int32} {off : Int} {tgt : Nat} (hd : decode (mB M) pc = .ok (.lookupswitch dflt ps, len)) (hp : (ps.toList.zip (ps.toList.drop 1)).all (fun (a, next) => a.1 < next.1) = true) (ho : Op.lookupswitch.offset ps.toList dflt x.toInt = off) (ht : (pc : Int) + off = (tgt : Int)) (k : Rn sp M (tgt) ls st h o h2) : Rn sp M pc ls (.int x :: st) h o h2 := by
  intro l p e s m args below meth c D ad cA A cells slots Q C F H locs lc hl hP hS
  exact lv_lookup C.1 C.2.1 hd hp ho ht (k l p e s m args below meth c D ad cA A cells slots Q C F H locs lc hl hP hS)
theorem R_ret (hd : decode (mB M) pc = .ok (rI o, 1)) (hr : rOk M o) : Rn sp M pc ls o.toList h o h := by
  intro l p e s m args below meth c D ad cA A cells slots Q C F H locs lc hl hP hS
  exact F pc lc H locs hd hr hP hS
/-- storing: no long stands in the locals -/
theorem lsR_store {ad : Nat → Nat} {nL i : Nat} {lc : Array Slot} {v : Value} (hl : lsR ad ls nL lc) (hc : ls.all (fun w => w.category == 1) = true) : lv_has lc nL ((List.range ls.length).filterMap (fun j => (ls[j]?).bind (fun w => if w = .null then none else some (j, lf ad w)))) := by
  refine ⟨hl.1, hl.2.1, fun q hq => ?_⟩
  obtain ⟨j, -, hj⟩ := List.mem_filterMap.mp hq
  cases hw : ls[j]? with
  | none => rw [hw] at hj; cases hj
  | some w =>
    rw [hw] at hj
    by_cases hn : w = .null
    · simp [hn] at hj
    · simp only [Option.bind_some, if_neg hn, Option.some.injEq] at hj
      rw [← hj]
      exact hl.2.2 j w hw hn
theorem lsR_set {ad : Nat → Nat} {nL i : Nat} {lc lc' : Array Slot} {v : Value} (hl : lsR ad ls nL lc) (hc : ls.all (fun w => w.category == 1) = true) (hs : lv_has lc' nL ((i, lf ad v) :: ((List.range ls.length).filterMap (fun j => (ls[j]?).bind (fun w => if w = .null then none else some (j, lf ad w)))).filter (fun q => !(q.1 == i) && !(q.1 + 1 == i && q.2.category == 2)))) : lsR ad (ls.set i v) nL lc' := by
  refine ⟨hs.1, hs.2.1, fun j w hj hn => ?_⟩
  by_cases e : i = j
  · subst e
    rw [List.getElem?_set, if_pos rfl] at hj
    by_cases hlt : i < ls.length
    · rw [if_pos hlt] at hj
      cases hj
      exact hs.2.2 _ List.mem_cons_self
    · rw [if_neg hlt] at hj
      cases hj
  · rw [List.getElem?_set, if_neg e] at hj
    have hcat : w.category = 1 := by
      have := List.all_eq_true.mp hc w (List.mem_of_getElem? hj)
      simpa using this
    refine hs.2.2 (j, lf ad w) (List.mem_cons_of_mem _ (List.mem_filter.mpr ⟨List.mem_filterMap.mpr ⟨j, List.mem_range.mpr (List.getElem?_eq_some_iff.mp hj).1, by rw [hj]; simp [hn]⟩, ?_⟩))
    simp [lf_cat, hcat]
    exact fun z => e z.symm
theorem R_istore_n {n : Fin 4} {i : Nat} {x : Int32} (hd : decode (mB M) pc = .ok (.istore_n n, 1)) (hn : (n : Nat) = i) (hi : i < mL M) (hc : ls.all (fun w => w.category == 1) = true) (k : Rn sp M (pc + 1) (ls.set i (.int x)) st h o h2) : Rn sp M pc ls ((.int x) :: st) h o h2 := by
  intro l p e s m args below meth c D ad cA A cells slots Q C F H locs lc hl hP hS
  exact lv_istore_n C.1 C.2.1 hd hn (lsR_store (i := i) (v := (.int x)) hl hc) hi rfl (fun lc2 hs => k l p e s m args below meth c D ad cA A cells slots Q C F H locs lc2 (lsR_set hl hc hs) hP hS)
theorem R_istore {i : Nat} {x : Int32} (hd : decode (mB M) pc = .ok (.istore i, 2))  (hi : i < mL M) (hc : ls.all (fun w => w.category == 1) = true) (k : Rn sp M (pc + 2) (ls.set i (.int x)) st h o h2) : Rn sp M pc ls ((.int x) :: st) h o h2 := by
  intro l p e s m args below meth c D ad cA A cells slots Q C F H locs lc hl hP hS
  exact lv_istore C.1 C.2.1 hd (lsR_store (i := i) (v := (.int x)) hl hc) hi rfl (fun lc2 hs => k l p e s m args below meth c D ad cA A cells slots Q C F H locs lc2 (lsR_set hl hc hs) hP hS)
theorem R_astore_n {n : Fin 4} {i x : Nat} (hd : decode (mB M) pc = .ok (.astore_n n, 1)) (hn : (n : Nat) = i) (hi : i < mL M) (hc : ls.all (fun w => w.category == 1) = true) (k : Rn sp M (pc + 1) (ls.set i (.ref x)) st h o h2) : Rn sp M pc ls ((.ref x) :: st) h o h2 := by
  intro l p e s m args below meth c D ad cA A cells slots Q C F H locs lc hl hP hS
  exact lv_astore_n C.1 C.2.1 hd hn (lsR_store (i := i) (v := (.ref x)) hl hc) hi rfl (fun lc2 hs => k l p e s m args below meth c D ad cA A cells slots Q C F H locs lc2 (lsR_set hl hc hs) hP hS)
theorem R_iinc {i : Nat} {n : Int} {x v : Int32} (hd : decode (mB M) pc = .ok (.iinc i n, 3)) (hx : ls[i]? = some (.int x)) (hv : x + Int32.ofInt n = v) (hi : i < mL M) (hc : ls.all (fun w => w.category == 1) = true) (k : Rn sp M (pc + 3) (ls.set i (.int v)) st h o h2) : Rn sp M pc ls st h o h2 := by
  intro l p e s m args below meth c D ad cA A cells slots Q C F H locs lc hl hP hS
  have hb := lsR_store (i := i) (v := .int v) hl hc
  have hm : (i, Value.int x) ∈ (List.range ls.length).filterMap (fun j => (ls[j]?).bind (fun w => if w = .null then none else some (j, lf ad w))) := List.mem_filterMap.mpr ⟨i, List.mem_range.mpr (List.getElem?_eq_some_iff.mp hx).1, by rw [hx]; rfl⟩
  obtain ⟨q, hq⟩ := List.getElem?_of_mem hm
  exact lv_iinc C.1 C.2.1 hd hb hq hv hi rfl (fun lc2 hs => k l p e s m args below meth c D ad cA A cells slots Q C F H locs lc2 (lsR_set hl hc hs) hP hS)
end Rules
end
section
/-! rules of fields, arrays, calls -/
def aF (own : String) (idx c j : Nat) (ds : String) (fin : Bool) : Prop := ∃ (C nm : String) (T : u_T) (N : Nat), vwCl[c]? = some (C, T, N) ∧ j < N ∧ T j = (C, nm, ds, fin) ∧ Cond.fieldLink own idx C nm ds ∈ aT
def aCf (c : Nat) : Prop := ∃ (C : String) (T : u_T) (N : Nat) (ty : Nat → FieldType), vwCl[c]? = some (C, T, N) ∧ (∀ w ∈ u_ws C T N, w ∈ aT) ∧ (∀ k, k < N → parseFieldDescriptor (T k).2.2.1 = some (ty k)) ∧ (∀ a, a < N → ∀ b, b < N → a ≠ b → (T a).2.1 ≠ (T b).2.1)
theorem aCf_0 : aCf 0 := ⟨RX0, TX0, 7, tyX0, rfl, by decide +kernel, tyX0_ok, nmX0⟩
theorem aCf_1 : aCf 1 := ⟨RX1, TX1, 5, tyX1, rfl, by decide +kernel, tyX1_ok, nmX1⟩
theorem aCf_2 : aCf 2 := ⟨RX2, TX2, 4, tyX2, rfl, by decide +kernel, tyX2_ok, nmX2⟩
theorem aCf_3 : aCf 3 := ⟨RX3, TX3, 7, tyX3, rfl, by decide +kernel, tyX3_ok, nmX3⟩
theorem aCf_4 : aCf 4 := ⟨RX4, TX4, 3, tyX4, rfl, by decide +kernel, tyX4_ok, nmX4⟩
theorem aCf_5 : aCf 5 := ⟨RX5, TX5, 5, tyX5, rfl, by decide +kernel, tyX5_ok, nmX5⟩
theorem aCf_6 : aCf 6 := ⟨RX6, TX6, 15, tyX6, rfl, by decide +kernel, tyX6_ok, nmX6⟩
theorem aCf_7 : aCf 7 := ⟨RX7, TX7, 12, tyX7, rfl, by decide +kernel, tyX7_ok, nmX7⟩
theorem aCf_8 : aCf 8 := ⟨RX8, TX8, 33, tyX8, rfl, by decide +kernel, tyX8_ok, nmX8⟩
theorem aCf_all {c : Nat} {q : vw_C} (h : vwCl[c]? = some q) : aCf c := by
  have hc : c < 9 := (List.getElem?_eq_some_iff.mp h).1
  match c, hc with
  | 0, _ => exact aCf_0
  | 1, _ => exact aCf_1
  | 2, _ => exact aCf_2
  | 3, _ => exact aCf_3
  | 4, _ => exact aCf_4
  | 5, _ => exact aCf_5
  | 6, _ => exact aCf_6
  | 7, _ => exact aCf_7
  | 8, _ => exact aCf_8
theorem kN_all : ∀ k, k < 73 → kC k < 9 → (vwCl[kC k]?).map (fun q => q.2.2) = some (kN k) := by decide +kernel
theorem kN_of {k c : Nat} {C : String} {T : u_T} {N : Nat} (hk : kC k = c) (h : vwCl[c]? = some (C, T, N)) : kN k = N := by
  have hc : c < 9 := (List.getElem?_eq_some_iff.mp h).1
  have h1 := kN_all k (kC_lt (by omega)) (by omega)
  rw [hk, h] at h1
  exact (Option.some.inj h1).symm
theorem cl_lt {c : Nat} {q : vw_C} (h : vwCl[c]? = some q) : c < 9 := (List.getElem?_eq_some_iff.mp h).1
section HRules
variable {sp : Nat × (Nat → Int32)} {M : aM} {pc : Nat} {ls st : List Value} {h h2 : aH} {o : Option Value}
theorem R_getV {idx c j r : Nat} {ds : String} {fin : Bool} {v : Value} (hd : decode (mB M) pc = .ok (.getfield idx, 3)) (hf : aF (mO M) idx c j ds fin) (hk : kC r = c) (hv : ∀ ad : Nat → Nat, fv ad r c j (h r j) = lf ad v) (k : Rn sp M (pc + 3) ls (v :: st) h o h2) : Rn sp M pc ls (.ref r :: st) h o h2 := by
  intro l p e s m args below meth c' D ad cA A cells slots Q C F H locs lc hl hP hS
  obtain ⟨Cn, nm, T, N, h1, h3, h4, h5⟩ := hf
  obtain ⟨C', T', N', ty, g1, g2, g3, g4⟩ := aCf_all h1
  rw [h1] at g1
  cases g1
  have hN := kN_of hk h1
  refine va_get (D := D) (ref := Cn) (v := lf ad v) C.1 C.2.1 C.2.2.2.2.1 g2 C.2.2.2.1 C.2.2.2.2.2.1 hP r (wd_obj hk (by have := cl_lt h1; omega)) h1 j h3 (C.2.2.2.2.1 _ ?_) ?_ ?_ hd (k l p e s m args below meth c' D ad cA A cells slots Q C F H locs lc hl hP hS)
  · rw [h4]; exact h5
  · rw [h4]; exact fun _ z => z
  · rw [fl_at (by omega), hk, hv ad]
theorem R_getI {idx c j r : Nat} {ds : String} {fin : Bool} (hd : decode (mB M) pc = .ok (.getfield idx, 3)) (hf : aF (mO M) idx c j ds fin) (hk : kC r = c) (ht : fk c j = 0) (k : Rn sp M (pc + 3) ls (.int (h r j) :: st) h o h2) : Rn sp M pc ls (.ref r :: st) h o h2 :=
  R_getV hd hf hk (fun ad => by simp [fv, ht, lf]) k
theorem R_getF {idx c j r q : Nat} {ds : String} {fin : Bool} (hd : decode (mB M) pc = .ok (.getfield idx, 3)) (hf : aF (mO M) idx c j ds fin) (hk : kC r = c) (ht : fk c j = 1) (hq : r + ro c j = q) (k : Rn sp M (pc + 3) ls (.ref q :: st) h o h2) : Rn sp M pc ls (.ref r :: st) h o h2 :=
  R_getV hd hf hk (fun ad => by simp [fv, ht, lf, hq]) k
theorem R_getM {idx c j r : Nat} {ds : String} {fin : Bool} (hd : decode (mB M) pc = .ok (.getfield idx, 3)) (hf : aF (mO M) idx c j ds fin) (hk : kC r = c) (ht : fk c j = 2) (k : Rn sp M (pc + 3) ls (.ref (h r j).toNatClampNeg :: st) h o h2) : Rn sp M pc ls (.ref r :: st) h o h2 :=
  R_getV hd hf hk (fun ad => by simp [fv, ht, lf]) k
theorem R_putV {idx c j r : Nat} {ds : String} {v : Value} {x : Int32} {ty : FieldType} (hd : decode (mB M) pc = .ok (.putfield idx, 3)) (hf : aF (mO M) idx c j ds false) (hk : kC r = c) (hp : parseFieldDescriptor ds = some ty) (hn : ∀ ad : Nat → Nat, narrow ty (lf ad v) = lf ad v) (hfit : ∀ ad : Nat → Nat, fits ty (lf ad v) = true) (hv : ∀ ad : Nat → Nat, fv ad r c j x = lf ad v) (k : Rn sp M (pc + 3) ls st (aU h r j x) o h2) : Rn sp M pc ls (v :: .ref r :: st) h o h2 := by
  intro l p e s m args below meth c' D ad cA A cells slots Q C F H locs lc hl hP hS
  obtain ⟨Cn, nm, T, N, h1, h3, h4, h5⟩ := hf
  obtain ⟨C', T', N', ty', g1, g2, g3, g4⟩ := aCf_all h1
  rw [h1] at g1
  cases g1
  have hN := kN_of hk h1
  refine va_put (D := D) (ref := Cn) (v := lf ad v) (ty := ty) C.1 C.2.1 C.2.2.2.2.1 g2 ty' g3 g4 C.2.2.2.1 C.2.2.2.2.2.1 hP (C.2.2.2.2.2.2.1 h) hS r (wd_obj hk (by have := cl_lt h1; omega)) h1 j h3 (C.2.2.2.2.1 _ ?_) ?_ ?_ ?_ (hn ad) (hfit ad) (by rw [fl_len]; omega) hd (fun H1 locs1 hP1 hD1 hS1 => ?_)
  · rw [h4]; exact h5
  · rw [h4]; exact fun _ z => z
  · rw [h4]
  · rw [h4]; exact hp
  · rw [← hv ad, wd_put hk (by have := cl_lt h1; omega) (by omega)] at hP1
    exact k l p e s m args below meth c' D ad cA A cells slots Q C F H1 locs1 lc hl hP1 hS1
theorem R_putI {idx c j r : Nat} {x : Int32} (hd : decode (mB M) pc = .ok (.putfield idx, 3)) (hf : aF (mO M) idx c j "I" false) (hk : kC r = c) (ht : fk c j = 0) (k : Rn sp M (pc + 3) ls st (aU h r j x) o h2) : Rn sp M pc ls (.int x :: .ref r :: st) h o h2 :=
  R_putV (ty := .int) hd hf hk (by decide +kernel) (fun _ => rfl) (fun _ => rfl) (fun ad => by simp [fv, ht, lf]) k
theorem R_putZ {idx c j r : Nat} {x : Int32} (hd : decode (mB M) pc = .ok (.putfield idx, 3)) (hf : aF (mO M) idx c j "Z" false) (hk : kC r = c) (ht : fk c j = 0) (hx : x = 0 ∨ x = 1) (k : Rn sp M (pc + 3) ls st (aU h r j x) o h2) : Rn sp M pc ls (.int x :: .ref r :: st) h o h2 :=
  R_putV (ty := .boolean) hd hf hk (by decide +kernel) (fun _ => by rcases hx with rfl | rfl <;> rfl) (fun _ => by rcases hx with rfl | rfl <;> rfl) (fun ad => by simp [fv, ht, lf]) k
theorem R_putM {idx c j r q : Nat} (hd : decode (mB M) pc = .ok (.putfield idx, 3)) (hf : aF (mO M) idx c j "LWeatherHand$Valley;" false) (hk : kC r = c) (ht : fk c j = 2) (hq : q < 73) (k : Rn sp M (pc + 3) ls st (aU h r j (nI q)) o h2) : Rn sp M pc ls (.ref q :: .ref r :: st) h o h2 :=
  R_putV (ty := .object "WeatherHand$Valley") hd hf hk (by decide +kernel) (fun _ => rfl) (fun _ => rfl) (fun ad => by simp [fv, ht, lf, nI_clamp (show q < 2 ^ 31 by omega)]) k
theorem R_iald {i : Int32} {r n : Nat} (hd : decode (mB M) pc = .ok (.iaload, 1)) (hk : kC r = 100) (hn : kN r = n) (hin : vp_in i n) (k : Rn sp M (pc + 1) ls (.int (h r i.toNatClampNeg) :: st) h o h2) : Rn sp M pc ls (.int i :: .ref r :: st) h o h2 := by
  intro l p e s m args below meth c D ad cA A cells slots Q C F H locs lc hl hP hS
  have ht := tyw_at (cA := cA) (kC_lt (show kC r ≠ 200 by omega))
  rw [if_neg (by omega)] at ht
  exact va_iald C.1 C.2.1 C.2.2.2.2.2.1 hP r r (wd_arr (Or.inl hk)) ht (by rw [hn]; exact hin) hd (k l p e s m args below meth c D ad cA A cells slots Q C F H locs lc hl hP hS)
theorem R_zald {i : Int32} {r n : Nat} (hd : decode (mB M) pc = .ok (.baload, 1)) (hk : kC r = 101) (hn : kN r = n) (hin : vp_in i n) (k : Rn sp M (pc + 1) ls (.int (h r i.toNatClampNeg) :: st) h o h2) : Rn sp M pc ls (.int i :: .ref r :: st) h o h2 := by
  intro l p e s m args below meth c D ad cA A cells slots Q C F H locs lc hl hP hS
  have ht := tyw_at (cA := cA) (kC_lt (show kC r ≠ 200 by omega))
  rw [if_pos hk] at ht
  exact va_zald C.1 C.2.1 C.2.2.2.2.2.1 hP r r (wd_arr (Or.inr hk)) ht (by rw [hn]; exact hin) hd (k l p e s m args below meth c D ad cA A cells slots Q C F H locs lc hl hP hS)
theorem R_iast {i x : Int32} {r n : Nat} (hd : decode (mB M) pc = .ok (.iastore, 1)) (hk : kC r = 100) (hn : kN r = n) (hin : vp_in i n) (k : Rn sp M (pc + 1) ls st (aU h r i.toNatClampNeg x) o h2) : Rn sp M pc ls (.int x :: .int i :: .ref r :: st) h o h2 := by
  intro l p e s m args below meth c D ad cA A cells slots Q C F H locs lc hl hP hS
  have ht := tyw_at (cA := cA) (kC_lt (show kC r ≠ 200 by omega))
  rw [if_neg (by omega)] at ht
  refine va_iast C.1 C.2.1 C.2.2.2.2.2.1 hP (C.2.2.2.2.2.2.1 h) hS r r (wd_arr (Or.inl hk)) ht (by rw [hn]; exact hin) hd (fun H1 locs1 hP1 hD1 hS1 => ?_)
  rw [wd_ast (Or.inl hk)] at hP1
  exact k l p e s m args below meth c D ad cA A cells slots Q C F H1 locs1 lc hl hP1 hS1
theorem R_zast {i x : Int32} {r n : Nat} (hd : decode (mB M) pc = .ok (.bastore, 1)) (hk : kC r = 101) (hn : kN r = n) (hin : vp_in i n) (hx : x = 0 ∨ x = 1) (k : Rn sp M (pc + 1) ls st (aU h r i.toNatClampNeg x) o h2) : Rn sp M pc ls (.int x :: .int i :: .ref r :: st) h o h2 := by
  intro l p e s m args below meth c D ad cA A cells slots Q C F H locs lc hl hP hS
  have ht := tyw_at (cA := cA) (kC_lt (show kC r ≠ 200 by omega))
  rw [if_pos hk] at ht
  have hz : vp_nar .boolean x = x := by rcases hx with rfl | rfl <;> rfl
  refine va_zast C.1 C.2.1 C.2.2.2.2.2.1 hP (C.2.2.2.2.2.2.1 h) hS r r (wd_arr (Or.inr hk)) ht (by rw [hn]; exact hin) hd (fun H1 locs1 hP1 hD1 hS1 => ?_)
  rw [hz, wd_ast (Or.inr hk)] at hP1
  exact k l p e s m args below meth c D ad cA A cells slots Q C F H1 locs1 lc hl hP1 hS1
theorem R_sld {i : Int32} (hd : decode (mB M) pc = .ok (.iaload, 1)) (hO : mO M = RL) (hin : vp_in i sp.1) (k : Rn sp M (pc + 1) ls (.int (sp.2 i.toNatClampNeg) :: st) h o h2) : Rn sp M pc ls (.int i :: .ref 73 :: st) h o h2 := by
  intro l p e s m args below meth c D ad cA A cells slots Q C F H locs lc hl hP hS
  obtain ⟨hX, hb, hbA⟩ := C.2.2.2.2.2.2.2.2.2.1 hO
  exact va_sld C.1 C.2.1 hX hb hbA hS hin hd (k l p e s m args below meth c D ad cA A cells slots Q C F H locs lc hl hP hS)
theorem R_slen (hd : decode (mB M) pc = .ok (.arraylength, 1)) (hO : mO M = RL) (k : Rn sp M (pc + 1) ls (.int (nI sp.1) :: st) h o h2) : Rn sp M pc ls (.ref 73 :: st) h o h2 := by
  intro l p e s m args below meth c D ad cA A cells slots Q C F H locs lc hl hP hS
  obtain ⟨hX, hb, hbA⟩ := C.2.2.2.2.2.2.2.2.2.1 hO
  exact va_slen C.1 C.2.1 hX hb hbA hS hd (k l p e s m args below meth c D ad cA A cells slots Q C F H locs lc hl hP hS)
theorem R_max {x y : Int32} {idx : Nat} (hd : decode (mB M) pc = .ok (.invokestatic idx, 3)) (hk : Cond.methodLink (mO M) idx Lib.Math.max.name ∈ aT) (hf : 1 ≤ (mRm M).frames) (hw : (st.map fun v => v.category).sum + 13 ≤ (mRm M).locals) (k : Rn sp M (pc + 3) ls (.int (if x < y then y else x) :: st) h o h2) : Rn sp M pc ls (.int y :: .int x :: st) h o h2 := by
  intro l p e s m args below meth c D ad cA A cells slots Q C F H locs lc hl hP hS
  exact va_mmax C.1 C.2.1 (C.2.2.1.trans hl.1.symm) C.2.2.2.1 (C.2.2.2.2.1 _ hk) (C.2.2.2.2.1 _ (aT_in (by decide +kernel) rfl)) (C.2.2.2.2.1 _ (aT_in (by decide +kernel) rfl)) (C.2.2.2.2.1 _ (aT_in (by decide +kernel) rfl)) hf (by rw [lf_cats]; exact hw) C.2.2.2.2.2.2.2.2.1.1 C.2.2.2.2.2.2.2.2.1.2 hd (k l p e s m args below meth c D ad cA A cells slots Q C F H locs lc hl hP hS)
theorem R_min {x y : Int32} {idx : Nat} (hd : decode (mB M) pc = .ok (.invokestatic idx, 3)) (hk : Cond.methodLink (mO M) idx Lib.Math.min.name ∈ aT) (hf : 1 ≤ (mRm M).frames) (hw : (st.map fun v => v.category).sum + 13 ≤ (mRm M).locals) (k : Rn sp M (pc + 3) ls (.int (if y < x then y else x) :: st) h o h2) : Rn sp M pc ls (.int y :: .int x :: st) h o h2 := by
  intro l p e s m args below meth c D ad cA A cells slots Q C F H locs lc hl hP hS
  exact va_mmin C.1 C.2.1 (C.2.2.1.trans hl.1.symm) C.2.2.2.1 (C.2.2.2.2.1 _ hk) (C.2.2.2.2.1 _ (aT_in (by decide +kernel) rfl)) (C.2.2.2.2.1 _ (aT_in (by decide +kernel) rfl)) (C.2.2.2.2.1 _ (aT_in (by decide +kernel) rfl)) hf (by rw [lf_cats]; exact hw) C.2.2.2.2.2.2.2.2.1.1 C.2.2.2.2.2.2.2.2.1.2 hd (k l p e s m args below meth c D ad cA A cells slots Q C F H locs lc hl hP hS)
theorem R_copy {sq dq n : Int32} {idx r q n0 n1 : Nat} (hd : decode (mB M) pc = .ok (.invokestatic idx, 3)) (hlk : Cond.methodLink (mO M) idx arraycopyName ∈ aT) (hkr : kC r = 100) (hkq : kC q = 100) (hnr : kN r = n0) (hnq : kN q = n1) (h1 : ¬ sq < 0) (h2' : ¬ dq < 0) (h3 : ¬ n < 0) (h4 : sq.toNatClampNeg + n.toNatClampNeg ≤ n0) (h5 : dq.toNatClampNeg + n.toNatClampNeg ≤ n1) (hf : 1 ≤ (mRm M).frames) (hw : (st.map fun v => v.category).sum + (nativeFrameWords "java/lang/System" "arraycopy" 5 + 11) ≤ (mRm M).locals) (k : Rn sp M (pc + 3) ls st (aV h q (va_cpy (h r) (h q) sq.toNatClampNeg dq.toNatClampNeg n.toNatClampNeg)) o h2) : Rn sp M pc ls (.int n :: .int dq :: .ref q :: .int sq :: .ref r :: st) h o h2 := by
  intro l p e s m args below meth c D ad cA A cells slots Q C F H locs lc hl hP hS
  have ht := tyw_at (cA := cA) (kC_lt (show kC r ≠ 200 by omega))
  have ht2 := tyw_at (cA := cA) (kC_lt (show kC q ≠ 200 by omega))
  rw [if_neg (by omega)] at ht ht2
  refine va_copyi (ty := .int) C.1 C.2.1 (C.2.2.1.trans hl.1.symm) C.2.2.2.1 (C.2.2.2.2.1 _ hlk) (C.2.2.2.2.1 _ (aT_in (by decide +kernel) rfl)) (C.2.2.2.2.1 _ (aT_in (by decide +kernel) rfl)) (C.2.2.2.2.1 _ (aT_in (by decide +kernel) rfl)) C.2.2.2.2.2.1 hP (C.2.2.2.2.2.2.1 h) hS r q r q (wd_arr (Or.inl hkr)) (wd_arr (Or.inl hkq)) ht ht2 rfl h1 h2' h3 (by rw [hnr]; exact h4) (by rw [hnq]; exact h5) (fun _ _ => rfl) hf (by rw [lf_cats]; exact hw) hd (fun H1 locs1 hP1 hD1 hS1 => ?_)
  rw [wd_arv (Or.inl hkq)] at hP1
  exact k l p e s m args below meth c D ad cA A cells slots Q C F H1 locs1 lc hl hP1 hS1
end HRules
end
section
/-! a call -/
def aOk (M : aM) (n : Nat) : Prop := Cond.code (mY M) (mB M) (mL M) (mR M) ∈ aT ∧ (mY M).cls = mO M ∧ plainName (mO M) = true ∧ ((mO M) ≠ "java/lang/invoke/MethodHandle" ∧ (mO M) ≠ "java/lang/invoke/VarHandle") ∧ ((mRm M).cells = 0 ∧ (mRm M).slots = 0) ∧ (parseMethodDescriptor (mY M).desc).map (fun d => d.parameters.length) = some n ∧ Cond.initialized (mO M) ∈ aT
def aRo (M M' : aM) : Prop := (mRm M').frames + 1 ≤ (mRm M).frames ∧ 8 + (mL M' + 11) + (mRm M').locals ≤ (mRm M).locals
def Ev (M : aM) (av : List Value) (h : aH) (o : Option Value) (h1 : aH) : Prop :=
  ∀ (l : Launch) (D : va_G) (ad : Nat → Nat) (cA : Nat → ClassId) (sz : Nat), Met l (mY M) (Cond.code (mY M) (mB M) (mL M) (mR M) :: aT) (mRm M)
    (va_Pc (av.map (lf ad)) (fun U => U.heap.size = sz ∧ va_P D vwCl (wd ad cA h) U.heap ∧ va_K D vwCl (tyw cA) U ∧ va_Nw nW U ∧ ∀ h, va_D (fun _ => True) (wd ad cA h)))
    (fun _ st oc t => oc = .returned (o.map (lf ad)) ∧ va_P D vwCl (wd ad cA h1) t.heap ∧ va_F (va_A (wd ad cA h) sz) st t) 0 0 (va_A (wd ad cA h) sz)
def lay (n : Nat) (av : List Value) : List Value := (av.flatMap fun v => if v.category = 2 then [v, .null] else [v]) ++ List.replicate (n - (av.flatMap fun v => if v.category = 2 then [v, .null] else [v]).length) .null
theorem lay_at {ad : Nat → Nat} : ∀ (av : List Value) (i0 n i : Nat) (v : Value), ((av.flatMap fun v => if v.category = 2 then [v, .null] else [v]) ++ List.replicate n .null)[i]? = some v → v ≠ .null → (i0 + i, lf ad v) ∈ lv_args i0 (av.map (lf ad)) := by
  intro av
  induction av with
  | nil =>
    intro i0 n i v hi hv
    simp only [List.flatMap_nil, List.nil_append] at hi
    exact absurd (List.eq_of_mem_replicate (List.mem_of_getElem? hi)) hv
  | cons w t ih =>
    intro i0 n i v hi hv
    simp only [List.map_cons, lv_args, lf_cat]
    by_cases hc : w.category = 2
    · rw [List.flatMap_cons, if_pos hc] at hi
      rw [if_pos hc]
      match i with
      | 0 => simp at hi; subst hi; exact List.mem_cons_self
      | 1 => simp at hi; exact absurd hi.symm hv
      | i + 2 =>
        have := ih (i0 + 2) n i v (by simpa using hi) hv
        rw [show i0 + (i + 2) = i0 + 2 + i by omega]
        exact List.mem_cons_of_mem _ this
    · rw [List.flatMap_cons, if_neg hc] at hi
      rw [if_neg hc]
      match i with
      | 0 => simp at hi; subst hi; exact List.mem_cons_self
      | i + 1 =>
        have := ih (i0 + 1) n i v (by simpa using hi) hv
        rw [show i0 + (i + 1) = i0 + 1 + i by omega]
        exact List.mem_cons_of_mem _ this
theorem lg_sl_len (av : List Value) (ad : Nat → Nat) : (lg_sl (av.map (lf ad))).length = (av.flatMap fun v => if v.category = 2 then [v, .null] else [v]).length := by
  induction av with
  | nil => rfl
  | cons v t ih =>
    simp only [List.map_cons, lg_sl, List.flatMap_cons, List.length_append, lf_cat] at ih ⊢
    rw [ih]
    by_cases hc : v.category = 2
    · rw [if_pos hc, if_pos hc]; rfl
    · rw [if_neg hc, if_neg hc]; rfl
/-- a method's run from its entry is its contract -/
theorem Ev_of {sp : Nat × (Nat → Int32)} {M : aM} {n : Nat} {av ls0 : List Value} {h h1 : aH} {o : Option Value} (hok : aOk M n) (hnl : mO M ≠ RL) (hlen : (av.flatMap fun v => if v.category = 2 then [v, .null] else [v]).length ≤ mL M) (hl0 : lay (mL M) av = ls0) (k : Rn sp M 0 ls0 [] h o h1) : Ev M av h o h1 := by
  intro l D ad cA sz
  obtain ⟨hcd, hcl, hpn, -, hcs, -, -⟩ := hok
  refine Met.ofW (cc := mB M) (maxL := mL M) (ret := mR M) (by rw [hcl]; exact hpn) rfl ?_
  intro p e s m args below meth c s₁ B hml hv
  obtain ⟨rfl, hsz, hP, hK, hNw, hD0⟩ := hv
  have hts : ∀ w ∈ aT, w.before (av.map (lf ad)).toArray s = true := fun w hw => atoms_spec (ws := Cond.code (mY M) (mB M) (mL M) (mR M) :: aT) B.pre w (List.mem_cons_of_mem _ hw)
  have hown : s.vm.findClass (mO M) = some m.cls := by rw [← hcl]; exact findClass_of_methodNamed B.named
  have hr := B.returns
  have hlocks := B.notSynchronized
  subst hsz
  have hl := lv_entry (av.map (lf ad)) (n := mL M) (by rw [lg_sl_len]; exact hlen)
  rw [lg_entry_eq]
  have hADr : ∀ q, va_A (wd ad cA h) s.heap.size q ↔ (∃ k, k < 73 ∧ q = ad k) ∨ s.heap.size ≤ q := by
    intro q
    constructor
    · rintro (⟨k, e, hk⟩ | hq)
      · have hlt : k < 73 := by
          have := (List.getElem?_eq_some_iff.mp hk).1
          rw [wd_len] at this; exact this
        rw [wd_at hlt] at hk
        cases hk
        exact Or.inl ⟨k, hlt, rfl⟩
      · exact Or.inr hq
    · rintro (⟨k, hk, rfl⟩ | hq)
      · exact Or.inl ⟨k, _, wd_at hk⟩
      · exact Or.inr hq
  have C : cX D ad cA (va_A (wd ad cA h) s.heap.size) sp M p s m (av.map (lf ad)).toArray c 0 0 := by
    refine ⟨B.exec, B.bytes, hml, hown, hts, hK, fun h' => ⟨(hD0 h').1, fun k q hk => ?_⟩, fun q hq => Or.inr hq, ⟨Nat.zero_le _, Nat.zero_le _⟩, fun z => absurd z hnl, hNw⟩
    have hlt : k < 73 := by
      have := (List.getElem?_eq_some_iff.mp hk).1
      rw [wd_len] at this; exact this
    rw [wd_at hlt] at hk
    cases hk
    exact (hADr _).mpr (Or.inl ⟨k, hlt, rfl⟩)
  refine k l p e s m _ below meth c D ad cA _ 0 0 _ C (fun pc' ls' H locs hd hrk hP2 hS2 => ?_) s.heap [] _ ⟨hl.1, hl.2.1, fun i v hi hv => ?_⟩ hP va_S.rf
  · match o, hd, hrk with
    | none, hd, hrk =>
      exact W.vret B.exec B.bytes (hr.trans hrk) (fun t ht hW => ⟨rfl, by rw [ht]; exact hP2, hS2.F ht⟩) hS2.2.2 hd
    | some (.int x), hd, hrk =>
      rcases hrk with hrk | ⟨hrk, hx⟩
      · exact W.zret (ty := .int) B.exec B.bytes (hr.trans hrk) rfl (fun t ht hW => ⟨rfl, by rw [ht]; exact hP2, hS2.F ht⟩) hS2.2.2 hd
      · exact W.zret (ty := .boolean) B.exec B.bytes (hr.trans hrk) (by rcases hx with rfl | rfl <;> rfl) (fun t ht hW => ⟨rfl, by rw [ht]; exact hP2, hS2.F ht⟩) hS2.2.2 hd
    | some (.ref r), hd, hrk =>
      obtain ⟨nm, hrk⟩ := hrk
      exact W.aret B.exec B.bytes (hr.trans hrk) (Or.inl ⟨nm, rfl⟩) (Or.inr ⟨_, rfl⟩) (fun t ht hW => ⟨rfl, by rw [ht]; exact hP2, hS2.F ht⟩) hS2.2.2 hd
  · rw [← hl0] at hi
    have := lay_at (ad := ad) av 0 _ i v hi hv
    rw [Nat.zero_add] at this
    exact hl.2.2 _ this
section Calls
variable {sp : Nat × (Nat → Int32)} {M : aM} {pc : Nat} {ls st : List Value} {h h2 : aH} {o : Option Value}
theorem goodTbl {M' : aM} (hc : Cond.code (mY M') (mB M') (mL M') (mR M') ∈ aT) : GoodIn aT (Cond.code (mY M') (mB M') (mL M') (mR M') :: aT) := by
  intro w hw
  have hm : w ∈ aT := by
    rcases List.mem_cons.mp hw with rfl | q
    · exact hc
    · exact q
  exact ⟨hm, good_of_word (aT_ok hm)⟩
/-- behind a call -/
theorem R_back {p : Program} {l : Launch} {e : Env} {s : State} {m : MethodId} {args : Array Value} {below : List Frame} {meth : Method} {c : Code} {D : va_G} {ad : Nat → Nat} {cA : Nat → ClassId} {A : Nat → Prop} {cells slots : Nat} {Q : State → Prop} {H : Heap} {locs : List Loc} {lc : Array Slot} {st0 : List Value} {o1 : Option Value} {h1 : aH} {R : Room}
    (hD : va_D A (wd ad cA h)) (hA : ∀ q, s.heap.size ≤ q → A q) (hS : va_S A s.heap H locs)
    (run : va_Run p l e R s m args below meth c H locs cells slots 0 0 (F0 m pc lc st0) (st.map (lf ad)) (fun st oc t => oc = .returned (o1.map (lf ad)) ∧ va_P D vwCl (wd ad cA h1) t.heap ∧ va_F (va_A (wd ad cA h) H.size) st t) (va_A (wd ad cA h) H.size))
    (k : ∀ (H1 : Heap) (locs1 : List Loc), va_P D vwCl (wd ad cA h1) H1 → va_S A s.heap H1 locs1 → W p l e R s m args below meth c H1 locs1 cells slots Q (F0 m (pc + 3) lc ((o1.toList ++ st).map (lf ad)))) : W p l e R s m args below meth c H locs cells slots Q (F0 m pc lc st0) := by
  have hf : ∀ q, va_A (wd ad cA h) H.size q → A q := by
    rintro q (⟨k, e, hk⟩ | hq)
    · exact hD.2 k (q, e) hk
    · exact hA q (Nat.le_trans hS.1 hq)
  intro T hT X
  obtain ⟨v, st₀, t, T', L, h0, X', hL, e1, e2, ⟨hv, hP1, hz, hk⟩, stp⟩ := run T hT X
  have hv2 : v = o1.map (lf ad) := by
    cases hv; rfl
  subst hv2
  rw [h0] at hz hk
  have hS1 : va_S A s.heap T'.heap (locs ++ L) := ⟨Nat.le_trans hS.1 (by rw [e1]; exact hz), fun q q1 q2 => by rw [e1, hk q (Nat.lt_of_lt_of_le q1 hS.1) (fun z => q2 (hf q z))]; exact hS.2.1 q q1 q2, fun q hq => by
    rcases List.mem_append.mp hq with z | z
    · exact hS.2.2 q z
    · exact hf _ (hL q z)⟩
  obtain ⟨t2, a1, b1⟩ := k T'.heap (locs ++ L) (by rw [e1]; exact hP1) hS1 T' rfl X'
  refine ⟨t2, stp t2 ?_, b1⟩
  have e3 : (o1.toList ++ st).map (lf ad) = (o1.map (lf ad)).toList ++ st.map (lf ad) := by cases o1 <;> rfl
  rw [e3] at a1
  exact a1
theorem pre_blind {D : va_G} {ad : Nat → Nat} {cA : Nat → ClassId} {sz : Nat} {av : List Value} {h : aH} : FrameBlind (va_Pc av (fun U => U.heap.size = sz ∧ va_P D vwCl (wd ad cA h) U.heap ∧ va_K D vwCl (tyw cA) U ∧ va_Nw nW U ∧ ∀ h, va_D (fun _ => True) (wd ad cA h))) :=
  fun a U g mk q => by obtain ⟨q0, q1, qP, qK, qN, qD⟩ := q; exact ⟨q0, q1, qP, va_K.moved (u := U) (U := U.calling g mk a) (Vm.Alike.refl U.vm) qK, va_Nw.same rfl rfl qN, qD⟩
theorem R_callV {M' : aM} {idx r c n : Nat} {av st0 : List Value} {o1 : Option Value} {h1 : aH} {q : vw_C} (hd : decode (mB M) pc = .ok (.invokevirtual idx, 3)) (hok : aOk M' n) (hro : aRo M M') (hcl : vwCl[c]? = some q) (hcn : q.1 = mO M')
    (hli : Cond.methodLink (mO M) idx (mY M') ∈ aT) (hin : Cond.instanceMethod (mY M') ∈ aT) (hse : Cond.selects (mO M') (mY M') (mY M') ∈ aT) (hk : kC r = c) (hst : st0 = av.reverse ++ .ref r :: st) (hn : av.length = n) (hw : (st.map fun v => v.category).sum ≤ 8)
    (hE : Ev M' (.ref r :: av) h o1 h1) (k : Rn sp M (pc + 3) ls (o1.toList ++ st) h1 o h2) : Rn sp M pc ls st0 h o h2 := by
  intro l p e s m args below meth c' D ad cA A cells slots Q C F H locs lc hl hP hS
  obtain ⟨hcd, hyc, hpn, hmh, hcs, hnp, hini⟩ := hok
  have hts := C.2.2.2.2.1
  refine R_back (st := st) (C.2.2.2.2.2.2.1 h) C.2.2.2.2.2.2.2.1 hS ?_ (fun H1 locs1 hP1 hS1 => k l p e s m args below meth c' D ad cA A cells slots Q C F H1 locs1 lc hl hP1 hS1)
  refine va_runV (C := mO M') (As := av.map (lf ad)) (ret := mR M') (bytes := mB M') (maxL := mL M') (n := n) (index := idx) (b := ad r) ⟨C.1, C.2.1, C.2.2.1, C.2.2.2.1, hts⟩ (hE l D ad cA H.size) ⟨callB_of n hts (goodTbl hcd) rfl hcs.1 hcs.2 (by rw [hyc]; exact hts _ hini) (hts _ hli) ⟨by rw [hyc]; exact hmh.1, by rw [hyc]; exact hmh.2, hnp⟩ hro, hts _ hin, hts _ hse⟩ ⟨pre_blind, ?_, fun U hU hW => ⟨rfl, by rw [hU], by rw [hU]; exact hP, va_K.moved hW.alike C.2.2.2.2.2.1, va_Nw.warmM hW C.2.2.2.2.2.2.2.2.2.2, fun h => (C.2.2.2.2.2.2.1 h).weaken (fun _ _ _ _ => trivial)⟩⟩ rfl (by rw [List.length_map]; exact hn) hl.1 ?_ ?_ hd ⟨C.2.2.2.2.2.2.2.2.1.1, C.2.2.2.2.2.2.2.2.1.2⟩
  · rw [← hcn]
    exact va_recv C.2.2.2.2.2.1 hP hcl (wd_obj hk (by have := cl_lt hcl; omega))
  · show st0.map (lf ad) = _
    rw [hst]
    simp [lf]
  · exact lv_room (by rw [lf_cats]; exact hw)
theorem R_callS {M' : aM} {idx n : Nat} {av st0 : List Value} {o1 : Option Value} {h1 : aH} (hd : decode (mB M) pc = .ok (.invokestatic idx, 3)) (hok : aOk M' n) (hro : aRo M M')
    (hli : Cond.methodLink (mO M) idx (mY M') ∈ aT) (hin : Cond.static (mY M') ∈ aT) (hst : st0 = av.reverse ++ st) (hn : av.length = n) (hw : (st.map fun v => v.category).sum ≤ 8)
    (hE : Ev M' av h o1 h1) (k : Rn sp M (pc + 3) ls (o1.toList ++ st) h1 o h2) : Rn sp M pc ls st0 h o h2 := by
  intro l p e s m args below meth c' D ad cA A cells slots Q C F H locs lc hl hP hS
  obtain ⟨hcd, hyc, hpn, hmh, hcs, hnp, hini⟩ := hok
  have hts := C.2.2.2.2.1
  refine R_back (st := st) (C.2.2.2.2.2.2.1 h) C.2.2.2.2.2.2.2.1 hS ?_ (fun H1 locs1 hP1 hS1 => k l p e s m args below meth c' D ad cA A cells slots Q C F H1 locs1 lc hl hP1 hS1)
  refine va_runS (As := av.map (lf ad)) (ret := mR M') (bytes := mB M') (maxL := mL M') (n := n) (index := idx) ⟨C.1, C.2.1, C.2.2.1, C.2.2.2.1, hts⟩ (hE l D ad cA H.size) ⟨callB_of n hts (goodTbl hcd) rfl hcs.1 hcs.2 (by rw [hyc]; exact hts _ hini) (hts _ hli) ⟨by rw [hyc]; exact hmh.1, by rw [hyc]; exact hmh.2, hnp⟩ hro, hts _ hin⟩ ⟨pre_blind, fun U hU hW => ⟨rfl, by rw [hU], by rw [hU]; exact hP, va_K.moved hW.alike C.2.2.2.2.2.1, va_Nw.warmM hW C.2.2.2.2.2.2.2.2.2.2, fun h => (C.2.2.2.2.2.2.1 h).weaken (fun _ _ _ _ => trivial)⟩⟩ rfl (by rw [List.length_map]; exact hn) hl.1 ?_ ?_ hd ⟨C.2.2.2.2.2.2.2.2.1.1, C.2.2.2.2.2.2.2.2.1.2⟩
  · show st0.map (lf ad) = _
    rw [hst]
    simp
  · exact lv_room (by rw [lf_cats]; exact hw)
theorem R_callSN {M' : aM} {idx n : Nat} {av st0 : List Value} {o1 : Option Value} {h1 : aH} {host : String} (hd : decode (mB M) pc = .ok (.invokestatic idx, 3)) (hok : aOk M' n) (hro : aRo M M')
    (hli : Cond.methodLinkNest (mO M) idx (mY M') host ∈ aT) (hin : Cond.static (mY M') ∈ aT) (hst : st0 = av.reverse ++ st) (hn : av.length = n) (hw : (st.map fun v => v.category).sum ≤ 8)
    (hE : Ev M' av h o1 h1) (k : Rn sp M (pc + 3) ls (o1.toList ++ st) h1 o h2) : Rn sp M pc ls st0 h o h2 := by
  intro l p e s m args below meth c' D ad cA A cells slots Q C F H locs lc hl hP hS
  obtain ⟨hcd, hyc, hpn, hmh, hcs, hnp, hini⟩ := hok
  have hts := C.2.2.2.2.1
  refine R_back (st := st) (C.2.2.2.2.2.2.1 h) C.2.2.2.2.2.2.2.1 hS ?_ (fun H1 locs1 hP1 hS1 => k l p e s m args below meth c' D ad cA A cells slots Q C F H1 locs1 lc hl hP1 hS1)
  refine va_runSN (host := host) (As := av.map (lf ad)) (ret := mR M') (bytes := mB M') (maxL := mL M') (n := n) (index := idx) ⟨C.1, C.2.1, C.2.2.1, C.2.2.2.1, hts⟩ (hE l D ad cA H.size) ⟨va_cnB n hts (goodTbl hcd) rfl hcs.1 hcs.2 (va_Nw.of rfl (hts _ hli)) (by rw [hyc]; exact hts _ hini) ⟨by rw [hyc]; exact hmh.1, by rw [hyc]; exact hmh.2, hnp⟩ hro, hts _ hin, trivial⟩ ⟨pre_blind, fun U hU hW => ⟨rfl, by rw [hU], by rw [hU]; exact hP, va_K.moved hW.alike C.2.2.2.2.2.1, va_Nw.warmM hW C.2.2.2.2.2.2.2.2.2.2, fun h => (C.2.2.2.2.2.2.1 h).weaken (fun _ _ _ _ => trivial)⟩⟩ rfl (by rw [List.length_map]; exact hn) hl.1 ?_ ?_ hd ⟨C.2.2.2.2.2.2.2.2.1.1, C.2.2.2.2.2.2.2.2.1.2⟩
  · show st0.map (lf ad) = _
    rw [hst]
    simp
  · exact lv_room (by rw [lf_cats]; exact hw)
end Calls
end
