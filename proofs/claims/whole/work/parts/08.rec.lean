theorem nlJ6 : RJ6 ≠ RL := by decide +kernel
theorem nlX0 : RX0 ≠ RL := by decide +kernel
theorem nlX1 : RX1 ≠ RL := by decide +kernel
theorem nlX2 : RX2 ≠ RL := by decide +kernel
theorem nlX3 : RX3 ≠ RL := by decide +kernel
theorem nlX4 : RX4 ≠ RL := by decide +kernel
theorem nlX5 : RX5 ≠ RL := by decide +kernel
theorem nlX6 : RX6 ≠ RL := by decide +kernel
theorem nlX7 : RX7 ≠ RL := by decide +kernel
theorem nlX8 : RX8 ≠ RL := by decide +kernel
theorem pnJ6 : plainName RJ6 = true := by decide +kernel
theorem mhJ6 : RJ6 ≠ "java/lang/invoke/MethodHandle" ∧ RJ6 ≠ "java/lang/invoke/VarHandle" := ⟨by decide +kernel, by decide +kernel⟩
theorem pnX0 : plainName RX0 = true := by decide +kernel
theorem mhX0 : RX0 ≠ "java/lang/invoke/MethodHandle" ∧ RX0 ≠ "java/lang/invoke/VarHandle" := ⟨by decide +kernel, by decide +kernel⟩
theorem pnX1 : plainName RX1 = true := by decide +kernel
theorem mhX1 : RX1 ≠ "java/lang/invoke/MethodHandle" ∧ RX1 ≠ "java/lang/invoke/VarHandle" := ⟨by decide +kernel, by decide +kernel⟩
theorem pnX2 : plainName RX2 = true := by decide +kernel
theorem mhX2 : RX2 ≠ "java/lang/invoke/MethodHandle" ∧ RX2 ≠ "java/lang/invoke/VarHandle" := ⟨by decide +kernel, by decide +kernel⟩
theorem pnX3 : plainName RX3 = true := by decide +kernel
theorem mhX3 : RX3 ≠ "java/lang/invoke/MethodHandle" ∧ RX3 ≠ "java/lang/invoke/VarHandle" := ⟨by decide +kernel, by decide +kernel⟩
theorem pnX4 : plainName RX4 = true := by decide +kernel
theorem mhX4 : RX4 ≠ "java/lang/invoke/MethodHandle" ∧ RX4 ≠ "java/lang/invoke/VarHandle" := ⟨by decide +kernel, by decide +kernel⟩
theorem pnX5 : plainName RX5 = true := by decide +kernel
theorem mhX5 : RX5 ≠ "java/lang/invoke/MethodHandle" ∧ RX5 ≠ "java/lang/invoke/VarHandle" := ⟨by decide +kernel, by decide +kernel⟩
theorem pnX6 : plainName RX6 = true := by decide +kernel
theorem mhX6 : RX6 ≠ "java/lang/invoke/MethodHandle" ∧ RX6 ≠ "java/lang/invoke/VarHandle" := ⟨by decide +kernel, by decide +kernel⟩
theorem pnX7 : plainName RX7 = true := by decide +kernel
theorem mhX7 : RX7 ≠ "java/lang/invoke/MethodHandle" ∧ RX7 ≠ "java/lang/invoke/VarHandle" := ⟨by decide +kernel, by decide +kernel⟩
theorem pnX8 : plainName RX8 = true := by decide +kernel
theorem mhX8 : RX8 ≠ "java/lang/invoke/MethodHandle" ∧ RX8 ≠ "java/lang/invoke/VarHandle" := ⟨by decide +kernel, by decide +kernel⟩
def mX6_hasPaper : aM := (yX6_hasPaper, cX6_hasPaper, 2, (some .boolean), RX6, { frames := 0, cells := 0, slots := 0, locals := 0 })
theorem oX6_hasPaper : aOk mX6_hasPaper 1 := ⟨aT_in (List.mem_of_getElem? (i := 453) (by decide +kernel)) rfl, rfl, pnX6, mhX6, ⟨rfl, rfl⟩, by decide +kernel, aT_in (List.mem_of_getElem? (i := 65) (by decide +kernel)) rfl⟩
theorem ivX6_hasPaper : Cond.instanceMethod (mY mX6_hasPaper) ∈ aT ∧ Cond.selects (mO mX6_hasPaper) (mY mX6_hasPaper) (mY mX6_hasPaper) ∈ aT := ⟨aT_in (List.mem_of_getElem? (i := 451) (by decide +kernel)) rfl, aT_in (List.mem_of_getElem? (i := 452) (by decide +kernel)) rfl⟩
def mX0_put : aM := (yX0_put, cX0_put, 6, none, RX0, { frames := 0, cells := 0, slots := 0, locals := 0 })
theorem oX0_put : aOk mX0_put 4 := ⟨aT_in (List.mem_of_getElem? (i := 461) (by decide +kernel)) rfl, rfl, pnX0, mhX0, ⟨rfl, rfl⟩, by decide +kernel, aT_in (List.mem_of_getElem? (i := 60) (by decide +kernel)) rfl⟩
theorem ivX0_put : Cond.instanceMethod (mY mX0_put) ∈ aT ∧ Cond.selects (mO mX0_put) (mY mX0_put) (mY mX0_put) ∈ aT := ⟨aT_in (List.mem_of_getElem? (i := 459) (by decide +kernel)) rfl, aT_in (List.mem_of_getElem? (i := 460) (by decide +kernel)) rfl⟩
def mX0_beginPaper : aM := (yX0_beginPaper, cX0_beginPaper, 6, none, RX0, { frames := 1, cells := 0, slots := 0, locals := 25 })
theorem oX0_beginPaper : aOk mX0_beginPaper 4 := ⟨aT_in (List.mem_of_getElem? (i := 457) (by decide +kernel)) rfl, rfl, pnX0, mhX0, ⟨rfl, rfl⟩, by decide +kernel, aT_in (List.mem_of_getElem? (i := 60) (by decide +kernel)) rfl⟩
theorem ivX0_beginPaper : Cond.instanceMethod (mY mX0_beginPaper) ∈ aT ∧ Cond.selects (mO mX0_beginPaper) (mY mX0_beginPaper) (mY mX0_beginPaper) ∈ aT := ⟨aT_in (List.mem_of_getElem? (i := 456) (by decide +kernel)) rfl, aT_in (List.mem_of_getElem? (i := 10) (by decide +kernel)) rfl⟩
def mX0_beginAs : aM := (yX0_beginAs, cX0_beginAs, 3, none, RX0, { frames := 2, cells := 0, slots := 0, locals := 50 })
theorem oX0_beginAs : aOk mX0_beginAs 1 := ⟨aT_in (List.mem_of_getElem? (i := 449) (by decide +kernel)) rfl, rfl, pnX0, mhX0, ⟨rfl, rfl⟩, by decide +kernel, aT_in (List.mem_of_getElem? (i := 60) (by decide +kernel)) rfl⟩
theorem ivX0_beginAs : Cond.instanceMethod (mY mX0_beginAs) ∈ aT ∧ Cond.selects (mO mX0_beginAs) (mY mX0_beginAs) (mY mX0_beginAs) ∈ aT := ⟨aT_in (List.mem_of_getElem? (i := 447) (by decide +kernel)) rfl, aT_in (List.mem_of_getElem? (i := 448) (by decide +kernel)) rfl⟩
def mX0_copyFrom : aM := (yX0_copyFrom, cX0_copyFrom, 2, none, RX0, { frames := 1, cells := 0, slots := 0, locals := 40 })
theorem oX0_copyFrom : aOk mX0_copyFrom 1 := ⟨aT_in (List.mem_of_getElem? (i := 806) (by decide +kernel)) rfl, rfl, pnX0, mhX0, ⟨rfl, rfl⟩, by decide +kernel, aT_in (List.mem_of_getElem? (i := 60) (by decide +kernel)) rfl⟩
theorem ivX0_copyFrom : Cond.instanceMethod (mY mX0_copyFrom) ∈ aT ∧ Cond.selects (mO mX0_copyFrom) (mY mX0_copyFrom) (mY mX0_copyFrom) ∈ aT := ⟨aT_in (List.mem_of_getElem? (i := 804) (by decide +kernel)) rfl, aT_in (List.mem_of_getElem? (i := 805) (by decide +kernel)) rfl⟩
def mX0_countOf : aM := (yX0_countOf, cX0_countOf, 2, (some .int), RX0, { frames := 0, cells := 0, slots := 0, locals := 0 })
theorem oX0_countOf : aOk mX0_countOf 1 := ⟨aT_in (List.mem_of_getElem? (i := 518) (by decide +kernel)) rfl, rfl, pnX0, mhX0, ⟨rfl, rfl⟩, by decide +kernel, aT_in (List.mem_of_getElem? (i := 60) (by decide +kernel)) rfl⟩
theorem ivX0_countOf : Cond.instanceMethod (mY mX0_countOf) ∈ aT ∧ Cond.selects (mO mX0_countOf) (mY mX0_countOf) (mY mX0_countOf) ∈ aT := ⟨aT_in (List.mem_of_getElem? (i := 516) (by decide +kernel)) rfl, aT_in (List.mem_of_getElem? (i := 517) (by decide +kernel)) rfl⟩
def mX0_countAll : aM := (yX0_countAll, cX0_countAll, 3, (some .int), RX0, { frames := 0, cells := 0, slots := 0, locals := 0 })
theorem oX0_countAll : aOk mX0_countAll 0 := ⟨aT_in (List.mem_of_getElem? (i := 487) (by decide +kernel)) rfl, rfl, pnX0, mhX0, ⟨rfl, rfl⟩, by decide +kernel, aT_in (List.mem_of_getElem? (i := 60) (by decide +kernel)) rfl⟩
theorem ivX0_countAll : Cond.instanceMethod (mY mX0_countAll) ∈ aT ∧ Cond.selects (mO mX0_countAll) (mY mX0_countAll) (mY mX0_countAll) ∈ aT := ⟨aT_in (List.mem_of_getElem? (i := 485) (by decide +kernel)) rfl, aT_in (List.mem_of_getElem? (i := 486) (by decide +kernel)) rfl⟩
def mX0_hasLetter : aM := (yX0_hasLetter, cX0_hasLetter, 3, (some .boolean), RX0, { frames := 0, cells := 0, slots := 0, locals := 0 })
theorem oX0_hasLetter : aOk mX0_hasLetter 2 := ⟨aT_in (List.mem_of_getElem? (i := 535) (by decide +kernel)) rfl, rfl, pnX0, mhX0, ⟨rfl, rfl⟩, by decide +kernel, aT_in (List.mem_of_getElem? (i := 60) (by decide +kernel)) rfl⟩
theorem ivX0_hasLetter : Cond.instanceMethod (mY mX0_hasLetter) ∈ aT ∧ Cond.selects (mO mX0_hasLetter) (mY mX0_hasLetter) (mY mX0_hasLetter) ∈ aT := ⟨aT_in (List.mem_of_getElem? (i := 533) (by decide +kernel)) rfl, aT_in (List.mem_of_getElem? (i := 534) (by decide +kernel)) rfl⟩
def mX0_airOf : aM := (yX0_airOf, cX0_airOf, 3, (some .int), RX0, { frames := 1, cells := 0, slots := 0, locals := 22 })
theorem oX0_airOf : aOk mX0_airOf 2 := ⟨aT_in (List.mem_of_getElem? (i := 531) (by decide +kernel)) rfl, rfl, pnX0, mhX0, ⟨rfl, rfl⟩, by decide +kernel, aT_in (List.mem_of_getElem? (i := 60) (by decide +kernel)) rfl⟩
theorem ivX0_airOf : Cond.instanceMethod (mY mX0_airOf) ∈ aT ∧ Cond.selects (mO mX0_airOf) (mY mX0_airOf) (mY mX0_airOf) ∈ aT := ⟨aT_in (List.mem_of_getElem? (i := 529) (by decide +kernel)) rfl, aT_in (List.mem_of_getElem? (i := 530) (by decide +kernel)) rfl⟩
def mX0_isForged : aM := (yX0_isForged, cX0_isForged, 3, (some .boolean), RX0, { frames := 2, cells := 0, slots := 0, locals := 44 })
theorem oX0_isForged : aOk mX0_isForged 2 := ⟨aT_in (List.mem_of_getElem? (i := 527) (by decide +kernel)) rfl, rfl, pnX0, mhX0, ⟨rfl, rfl⟩, by decide +kernel, aT_in (List.mem_of_getElem? (i := 60) (by decide +kernel)) rfl⟩
theorem ivX0_isForged : Cond.instanceMethod (mY mX0_isForged) ∈ aT ∧ Cond.selects (mO mX0_isForged) (mY mX0_isForged) (mY mX0_isForged) ∈ aT := ⟨aT_in (List.mem_of_getElem? (i := 525) (by decide +kernel)) rfl, aT_in (List.mem_of_getElem? (i := 526) (by decide +kernel)) rfl⟩
def mX0_countForged : aM := (yX0_countForged, cX0_countForged, 5, (some .int), RX0, { frames := 3, cells := 0, slots := 0, locals := 66 })
theorem oX0_countForged : aOk mX0_countForged 1 := ⟨aT_in (List.mem_of_getElem? (i := 522) (by decide +kernel)) rfl, rfl, pnX0, mhX0, ⟨rfl, rfl⟩, by decide +kernel, aT_in (List.mem_of_getElem? (i := 60) (by decide +kernel)) rfl⟩
theorem ivX0_countForged : Cond.instanceMethod (mY mX0_countForged) ∈ aT ∧ Cond.selects (mO mX0_countForged) (mY mX0_countForged) (mY mX0_countForged) ∈ aT := ⟨aT_in (List.mem_of_getElem? (i := 520) (by decide +kernel)) rfl, aT_in (List.mem_of_getElem? (i := 521) (by decide +kernel)) rfl⟩
def mX0_isFull : aM := (yX0_isFull, cX0_isFull, 2, (some .boolean), RX0, { frames := 1, cells := 0, slots := 0, locals := 21 })
theorem oX0_isFull : aOk mX0_isFull 1 := ⟨aT_in (List.mem_of_getElem? (i := 566) (by decide +kernel)) rfl, rfl, pnX0, mhX0, ⟨rfl, rfl⟩, by decide +kernel, aT_in (List.mem_of_getElem? (i := 60) (by decide +kernel)) rfl⟩
theorem ivX0_isFull : Cond.instanceMethod (mY mX0_isFull) ∈ aT ∧ Cond.selects (mO mX0_isFull) (mY mX0_isFull) (mY mX0_isFull) ∈ aT := ⟨aT_in (List.mem_of_getElem? (i := 564) (by decide +kernel)) rfl, aT_in (List.mem_of_getElem? (i := 565) (by decide +kernel)) rfl⟩
def mX0_hourOf : aM := (yX0_hourOf, cX0_hourOf, 3, (some .int), RX0, { frames := 1, cells := 0, slots := 0, locals := 22 })
theorem oX0_hourOf : aOk mX0_hourOf 2 := ⟨aT_in (List.mem_of_getElem? (i := 549) (by decide +kernel)) rfl, rfl, pnX0, mhX0, ⟨rfl, rfl⟩, by decide +kernel, aT_in (List.mem_of_getElem? (i := 60) (by decide +kernel)) rfl⟩
theorem ivX0_hourOf : Cond.instanceMethod (mY mX0_hourOf) ∈ aT ∧ Cond.selects (mO mX0_hourOf) (mY mX0_hourOf) (mY mX0_hourOf) ∈ aT := ⟨aT_in (List.mem_of_getElem? (i := 547) (by decide +kernel)) rfl, aT_in (List.mem_of_getElem? (i := 548) (by decide +kernel)) rfl⟩
def mX0_writerOf : aM := (yX0_writerOf, cX0_writerOf, 3, (some .int), RX0, { frames := 1, cells := 0, slots := 0, locals := 22 })
theorem oX0_writerOf : aOk mX0_writerOf 2 := ⟨aT_in (List.mem_of_getElem? (i := 553) (by decide +kernel)) rfl, rfl, pnX0, mhX0, ⟨rfl, rfl⟩, by decide +kernel, aT_in (List.mem_of_getElem? (i := 60) (by decide +kernel)) rfl⟩
theorem ivX0_writerOf : Cond.instanceMethod (mY mX0_writerOf) ∈ aT ∧ Cond.selects (mO mX0_writerOf) (mY mX0_writerOf) (mY mX0_writerOf) ∈ aT := ⟨aT_in (List.mem_of_getElem? (i := 551) (by decide +kernel)) rfl, aT_in (List.mem_of_getElem? (i := 552) (by decide +kernel)) rfl⟩
def mX6_hasHand : aM := (yX6_hasHand, cX6_hasHand, 2, (some .boolean), RX6, { frames := 0, cells := 0, slots := 0, locals := 0 })
theorem oX6_hasHand : aOk mX6_hasHand 1 := ⟨aT_in (List.mem_of_getElem? (i := 427) (by decide +kernel)) rfl, rfl, pnX6, mhX6, ⟨rfl, rfl⟩, by decide +kernel, aT_in (List.mem_of_getElem? (i := 65) (by decide +kernel)) rfl⟩
theorem ivX6_hasHand : Cond.instanceMethod (mY mX6_hasHand) ∈ aT ∧ Cond.selects (mO mX6_hasHand) (mY mX6_hasHand) (mY mX6_hasHand) ∈ aT := ⟨aT_in (List.mem_of_getElem? (i := 425) (by decide +kernel)) rfl, aT_in (List.mem_of_getElem? (i := 426) (by decide +kernel)) rfl⟩
def mX7_isHour : aM := (yX7_isHour, cX7_isHour, 1, (some .boolean), RX7, { frames := 0, cells := 0, slots := 0, locals := 0 })
theorem oX7_isHour : aOk mX7_isHour 1 := ⟨aT_in (List.mem_of_getElem? (i := 494) (by decide +kernel)) rfl, rfl, pnX7, mhX7, ⟨rfl, rfl⟩, by decide +kernel, aT_in (List.mem_of_getElem? (i := 58) (by decide +kernel)) rfl⟩
theorem isX7_isHour : Cond.static (mY mX7_isHour) ∈ aT := aT_in (List.mem_of_getElem? (i := 493) (by decide +kernel)) rfl
def mX6_lookAt : aM := (yX6_lookAt, cX6_lookAt, 3, (some .int), RX6, { frames := 1, cells := 0, slots := 0, locals := 21 })
theorem oX6_lookAt : aOk mX6_lookAt 2 := ⟨aT_in (List.mem_of_getElem? (i := 544) (by decide +kernel)) rfl, rfl, pnX6, mhX6, ⟨rfl, rfl⟩, by decide +kernel, aT_in (List.mem_of_getElem? (i := 65) (by decide +kernel)) rfl⟩
theorem ivX6_lookAt : Cond.instanceMethod (mY mX6_lookAt) ∈ aT ∧ Cond.selects (mO mX6_lookAt) (mY mX6_lookAt) (mY mX6_lookAt) ∈ aT := ⟨aT_in (List.mem_of_getElem? (i := 542) (by decide +kernel)) rfl, aT_in (List.mem_of_getElem? (i := 543) (by decide +kernel)) rfl⟩
def mX0_lookOf : aM := (yX0_lookOf, cX0_lookOf, 5, (some .int), RX0, { frames := 2, cells := 0, slots := 0, locals := 43 })
theorem oX0_lookOf : aOk mX0_lookOf 3 := ⟨aT_in (List.mem_of_getElem? (i := 540) (by decide +kernel)) rfl, rfl, pnX0, mhX0, ⟨rfl, rfl⟩, by decide +kernel, aT_in (List.mem_of_getElem? (i := 60) (by decide +kernel)) rfl⟩
theorem ivX0_lookOf : Cond.instanceMethod (mY mX0_lookOf) ∈ aT ∧ Cond.selects (mO mX0_lookOf) (mY mX0_lookOf) (mY mX0_lookOf) ∈ aT := ⟨aT_in (List.mem_of_getElem? (i := 538) (by decide +kernel)) rfl, aT_in (List.mem_of_getElem? (i := 539) (by decide +kernel)) rfl⟩
def mX0_looksAsBy : aM := (yX0_looksAsBy, cX0_looksAsBy, 5, (some .boolean), RX0, { frames := 3, cells := 0, slots := 0, locals := 67 })
theorem oX0_looksAsBy : aOk mX0_looksAsBy 4 := ⟨aT_in (List.mem_of_getElem? (i := 724) (by decide +kernel)) rfl, rfl, pnX0, mhX0, ⟨rfl, rfl⟩, by decide +kernel, aT_in (List.mem_of_getElem? (i := 60) (by decide +kernel)) rfl⟩
theorem ivX0_looksAsBy : Cond.instanceMethod (mY mX0_looksAsBy) ∈ aT ∧ Cond.selects (mO mX0_looksAsBy) (mY mX0_looksAsBy) (mY mX0_looksAsBy) ∈ aT := ⟨aT_in (List.mem_of_getElem? (i := 722) (by decide +kernel)) rfl, aT_in (List.mem_of_getElem? (i := 723) (by decide +kernel)) rfl⟩
def mX0_countAsBy : aM := (yX0_countAsBy, cX0_countAsBy, 7, (some .int), RX0, { frames := 4, cells := 0, slots := 0, locals := 91 })
theorem oX0_countAsBy : aOk mX0_countAsBy 3 := ⟨aT_in (List.mem_of_getElem? (i := 720) (by decide +kernel)) rfl, rfl, pnX0, mhX0, ⟨rfl, rfl⟩, by decide +kernel, aT_in (List.mem_of_getElem? (i := 60) (by decide +kernel)) rfl⟩
theorem ivX0_countAsBy : Cond.instanceMethod (mY mX0_countAsBy) ∈ aT ∧ Cond.selects (mO mX0_countAsBy) (mY mX0_countAsBy) (mY mX0_countAsBy) ∈ aT := ⟨aT_in (List.mem_of_getElem? (i := 718) (by decide +kernel)) rfl, aT_in (List.mem_of_getElem? (i := 719) (by decide +kernel)) rfl⟩
def mX0_dropLast : aM := (yX0_dropLast, cX0_dropLast, 2, none, RX0, { frames := 1, cells := 0, slots := 0, locals := 21 })
theorem oX0_dropLast : aOk mX0_dropLast 1 := ⟨aT_in (List.mem_of_getElem? (i := 594) (by decide +kernel)) rfl, rfl, pnX0, mhX0, ⟨rfl, rfl⟩, by decide +kernel, aT_in (List.mem_of_getElem? (i := 60) (by decide +kernel)) rfl⟩
theorem ivX0_dropLast : Cond.instanceMethod (mY mX0_dropLast) ∈ aT ∧ Cond.selects (mO mX0_dropLast) (mY mX0_dropLast) (mY mX0_dropLast) ∈ aT := ⟨aT_in (List.mem_of_getElem? (i := 592) (by decide +kernel)) rfl, aT_in (List.mem_of_getElem? (i := 593) (by decide +kernel)) rfl⟩
def mX0_draw : aM := (yX0_draw, cX0_draw, 2, (some .int), RX0, { frames := 0, cells := 0, slots := 0, locals := 0 })
theorem oX0_draw : aOk mX0_draw 1 := ⟨aT_in (List.mem_of_getElem? (i := 610) (by decide +kernel)) rfl, rfl, pnX0, mhX0, ⟨rfl, rfl⟩, by decide +kernel, aT_in (List.mem_of_getElem? (i := 60) (by decide +kernel)) rfl⟩
theorem ivX0_draw : Cond.instanceMethod (mY mX0_draw) ∈ aT ∧ Cond.selects (mO mX0_draw) (mY mX0_draw) (mY mX0_draw) ∈ aT := ⟨aT_in (List.mem_of_getElem? (i := 608) (by decide +kernel)) rfl, aT_in (List.mem_of_getElem? (i := 609) (by decide +kernel)) rfl⟩
def mX0_rowFrom : aM := (yX0_rowFrom, cX0_rowFrom, 8, (some .int), RX0, { frames := 3, cells := 0, slots := 0, locals := 67 })
theorem oX0_rowFrom : aOk mX0_rowFrom 5 := ⟨aT_in (List.mem_of_getElem? (i := 654) (by decide +kernel)) rfl, rfl, pnX0, mhX0, ⟨rfl, rfl⟩, by decide +kernel, aT_in (List.mem_of_getElem? (i := 60) (by decide +kernel)) rfl⟩
theorem ivX0_rowFrom : Cond.instanceMethod (mY mX0_rowFrom) ∈ aT ∧ Cond.selects (mO mX0_rowFrom) (mY mX0_rowFrom) (mY mX0_rowFrom) ∈ aT := ⟨aT_in (List.mem_of_getElem? (i := 652) (by decide +kernel)) rfl, aT_in (List.mem_of_getElem? (i := 653) (by decide +kernel)) rfl⟩
def mX0_longestRow : aM := (yX0_longestRow, cX0_longestRow, 7, (some .int), RX0, { frames := 4, cells := 0, slots := 0, locals := 94 })
theorem oX0_longestRow : aOk mX0_longestRow 4 := ⟨aT_in (List.mem_of_getElem? (i := 663) (by decide +kernel)) rfl, rfl, pnX0, mhX0, ⟨rfl, rfl⟩, by decide +kernel, aT_in (List.mem_of_getElem? (i := 60) (by decide +kernel)) rfl⟩
theorem ivX0_longestRow : Cond.instanceMethod (mY mX0_longestRow) ∈ aT ∧ Cond.selects (mO mX0_longestRow) (mY mX0_longestRow) (mY mX0_longestRow) ∈ aT := ⟨aT_in (List.mem_of_getElem? (i := 661) (by decide +kernel)) rfl, aT_in (List.mem_of_getElem? (i := 662) (by decide +kernel)) rfl⟩
def mX0_fewestRows : aM := (yX0_fewestRows, cX0_fewestRows, 9, (some .int), RX0, { frames := 5, cells := 0, slots := 0, locals := 120 })
theorem oX0_fewestRows : aOk mX0_fewestRows 3 := ⟨aT_in (List.mem_of_getElem? (i := 669) (by decide +kernel)) rfl, rfl, pnX0, mhX0, ⟨rfl, rfl⟩, by decide +kernel, aT_in (List.mem_of_getElem? (i := 60) (by decide +kernel)) rfl⟩
theorem ivX0_fewestRows : Cond.instanceMethod (mY mX0_fewestRows) ∈ aT ∧ Cond.selects (mO mX0_fewestRows) (mY mX0_fewestRows) (mY mX0_fewestRows) ∈ aT := ⟨aT_in (List.mem_of_getElem? (i := 667) (by decide +kernel)) rfl, aT_in (List.mem_of_getElem? (i := 668) (by decide +kernel)) rfl⟩
def mX6_windAt : aM := (yX6_windAt, cX6_windAt, 2, (some .int), RX6, { frames := 0, cells := 0, slots := 0, locals := 0 })
theorem oX6_windAt : aOk mX6_windAt 1 := ⟨aT_in (List.mem_of_getElem? (i := 431) (by decide +kernel)) rfl, rfl, pnX6, mhX6, ⟨rfl, rfl⟩, by decide +kernel, aT_in (List.mem_of_getElem? (i := 65) (by decide +kernel)) rfl⟩
theorem ivX6_windAt : Cond.instanceMethod (mY mX6_windAt) ∈ aT ∧ Cond.selects (mO mX6_windAt) (mY mX6_windAt) (mY mX6_windAt) ∈ aT := ⟨aT_in (List.mem_of_getElem? (i := 429) (by decide +kernel)) rfl, aT_in (List.mem_of_getElem? (i := 430) (by decide +kernel)) rfl⟩
def mX6_dampAt : aM := (yX6_dampAt, cX6_dampAt, 4, (some .int), RX6, { frames := 1, cells := 0, slots := 0, locals := 21 })
theorem oX6_dampAt : aOk mX6_dampAt 2 := ⟨aT_in (List.mem_of_getElem? (i := 435) (by decide +kernel)) rfl, rfl, pnX6, mhX6, ⟨rfl, rfl⟩, by decide +kernel, aT_in (List.mem_of_getElem? (i := 65) (by decide +kernel)) rfl⟩
theorem ivX6_dampAt : Cond.instanceMethod (mY mX6_dampAt) ∈ aT ∧ Cond.selects (mO mX6_dampAt) (mY mX6_dampAt) (mY mX6_dampAt) ∈ aT := ⟨aT_in (List.mem_of_getElem? (i := 433) (by decide +kernel)) rfl, aT_in (List.mem_of_getElem? (i := 434) (by decide +kernel)) rfl⟩
def mX6_lightAt : aM := (yX6_lightAt, cX6_lightAt, 2, (some .int), RX6, { frames := 0, cells := 0, slots := 0, locals := 0 })
theorem oX6_lightAt : aOk mX6_lightAt 1 := ⟨aT_in (List.mem_of_getElem? (i := 445) (by decide +kernel)) rfl, rfl, pnX6, mhX6, ⟨rfl, rfl⟩, by decide +kernel, aT_in (List.mem_of_getElem? (i := 65) (by decide +kernel)) rfl⟩
theorem ivX6_lightAt : Cond.instanceMethod (mY mX6_lightAt) ∈ aT ∧ Cond.selects (mO mX6_lightAt) (mY mX6_lightAt) (mY mX6_lightAt) ∈ aT := ⟨aT_in (List.mem_of_getElem? (i := 443) (by decide +kernel)) rfl, aT_in (List.mem_of_getElem? (i := 444) (by decide +kernel)) rfl⟩
def mX6_makeLook : aM := (yX6_makeLook, cX6_makeLook, 7, (some .int), RX6, { frames := 2, cells := 0, slots := 0, locals := 44 })
theorem oX6_makeLook : aOk mX6_makeLook 3 := ⟨aT_in (List.mem_of_getElem? (i := 423) (by decide +kernel)) rfl, rfl, pnX6, mhX6, ⟨rfl, rfl⟩, by decide +kernel, aT_in (List.mem_of_getElem? (i := 65) (by decide +kernel)) rfl⟩
theorem ivX6_makeLook : Cond.instanceMethod (mY mX6_makeLook) ∈ aT ∧ Cond.selects (mO mX6_makeLook) (mY mX6_makeLook) (mY mX6_makeLook) ∈ aT := ⟨aT_in (List.mem_of_getElem? (i := 421) (by decide +kernel)) rfl, aT_in (List.mem_of_getElem? (i := 422) (by decide +kernel)) rfl⟩
def mX0_fitsRain : aM := (yX0_fitsRain, cX0_fitsRain, 8, (some .boolean), RX0, { frames := 3, cells := 0, slots := 0, locals := 70 })
theorem oX0_fitsRain : aOk mX0_fitsRain 3 := ⟨aT_in (List.mem_of_getElem? (i := 758) (by decide +kernel)) rfl, rfl, pnX0, mhX0, ⟨rfl, rfl⟩, by decide +kernel, aT_in (List.mem_of_getElem? (i := 60) (by decide +kernel)) rfl⟩
theorem ivX0_fitsRain : Cond.instanceMethod (mY mX0_fitsRain) ∈ aT ∧ Cond.selects (mO mX0_fitsRain) (mY mX0_fitsRain) (mY mX0_fitsRain) ∈ aT := ⟨aT_in (List.mem_of_getElem? (i := 756) (by decide +kernel)) rfl, aT_in (List.mem_of_getElem? (i := 757) (by decide +kernel)) rfl⟩
def mX1_fits : aM := (yX1_fits, cX1_fits, 8, (some .boolean), RX1, { frames := 3, cells := 0, slots := 0, locals := 67 })
theorem oX1_fits : aOk mX1_fits 6 := ⟨aT_in (List.mem_of_getElem? (i := 682) (by decide +kernel)) rfl, rfl, pnX1, mhX1, ⟨rfl, rfl⟩, by decide +kernel, aT_in (List.mem_of_getElem? (i := 63) (by decide +kernel)) rfl⟩
theorem isX1_fits : Cond.static (mY mX1_fits) ∈ aT := aT_in (List.mem_of_getElem? (i := 681) (by decide +kernel)) rfl
def mX1_gather : aM := (yX1_gather, cX1_gather, 8, none, RX1, { frames := 4, cells := 0, slots := 0, locals := 94 })
theorem oX1_gather : aOk mX1_gather 4 := ⟨aT_in (List.mem_of_getElem? (i := 678) (by decide +kernel)) rfl, rfl, pnX1, mhX1, ⟨rfl, rfl⟩, by decide +kernel, aT_in (List.mem_of_getElem? (i := 63) (by decide +kernel)) rfl⟩
theorem ivX1_gather : Cond.instanceMethod (mY mX1_gather) ∈ aT ∧ Cond.selects (mO mX1_gather) (mY mX1_gather) (mY mX1_gather) ∈ aT := ⟨aT_in (List.mem_of_getElem? (i := 676) (by decide +kernel)) rfl, aT_in (List.mem_of_getElem? (i := 677) (by decide +kernel)) rfl⟩
def mX1_kindOfLook : aM := (yX1_kindOfLook, cX1_kindOfLook, 2, (some .int), RX1, { frames := 0, cells := 0, slots := 0, locals := 0 })
theorem oX1_kindOfLook : aOk mX1_kindOfLook 1 := ⟨aT_in (List.mem_of_getElem? (i := 695) (by decide +kernel)) rfl, rfl, pnX1, mhX1, ⟨rfl, rfl⟩, by decide +kernel, aT_in (List.mem_of_getElem? (i := 63) (by decide +kernel)) rfl⟩
theorem isX1_kindOfLook : Cond.static (mY mX1_kindOfLook) ∈ aT := aT_in (List.mem_of_getElem? (i := 694) (by decide +kernel)) rfl
def mX1_greatestPart : aM := (yX1_greatestPart, cX1_greatestPart, 6, (some .int), RX1, { frames := 2, cells := 0, slots := 0, locals := 43 })
theorem oX1_greatestPart : aOk mX1_greatestPart 2 := ⟨aT_in (List.mem_of_getElem? (i := 692) (by decide +kernel)) rfl, rfl, pnX1, mhX1, ⟨rfl, rfl⟩, by decide +kernel, aT_in (List.mem_of_getElem? (i := 63) (by decide +kernel)) rfl⟩
theorem ivX1_greatestPart : Cond.instanceMethod (mY mX1_greatestPart) ∈ aT ∧ Cond.selects (mO mX1_greatestPart) (mY mX1_greatestPart) (mY mX1_greatestPart) ∈ aT := ⟨aT_in (List.mem_of_getElem? (i := 691) (by decide +kernel)) rfl, aT_in (List.mem_of_getElem? (i := 16) (by decide +kernel)) rfl⟩
def mX1_bestLetter : aM := (yX1_bestLetter, cX1_bestLetter, 7, (some .int), RX1, { frames := 3, cells := 0, slots := 0, locals := 68 })
theorem oX1_bestLetter : aOk mX1_bestLetter 2 := ⟨aT_in (List.mem_of_getElem? (i := 688) (by decide +kernel)) rfl, rfl, pnX1, mhX1, ⟨rfl, rfl⟩, by decide +kernel, aT_in (List.mem_of_getElem? (i := 63) (by decide +kernel)) rfl⟩
theorem ivX1_bestLetter : Cond.instanceMethod (mY mX1_bestLetter) ∈ aT ∧ Cond.selects (mO mX1_bestLetter) (mY mX1_bestLetter) (mY mX1_bestLetter) ∈ aT := ⟨aT_in (List.mem_of_getElem? (i := 686) (by decide +kernel)) rfl, aT_in (List.mem_of_getElem? (i := 687) (by decide +kernel)) rfl⟩
def mX2_enter : aM := (yX2_enter, cX2_enter, 4, (some .int), RX2, { frames := 0, cells := 0, slots := 0, locals := 0 })
theorem oX2_enter : aOk mX2_enter 3 := ⟨aT_in (List.mem_of_getElem? (i := 772) (by decide +kernel)) rfl, rfl, pnX2, mhX2, ⟨rfl, rfl⟩, by decide +kernel, aT_in (List.mem_of_getElem? (i := 62) (by decide +kernel)) rfl⟩
theorem ivX2_enter : Cond.instanceMethod (mY mX2_enter) ∈ aT ∧ Cond.selects (mO mX2_enter) (mY mX2_enter) (mY mX2_enter) ∈ aT := ⟨aT_in (List.mem_of_getElem? (i := 770) (by decide +kernel)) rfl, aT_in (List.mem_of_getElem? (i := 771) (by decide +kernel)) rfl⟩
def mX2_firstWrong : aM := (yX2_firstWrong, cX2_firstWrong, 6, (some .int), RX2, { frames := 3, cells := 0, slots := 0, locals := 67 })
theorem oX2_firstWrong : aOk mX2_firstWrong 2 := ⟨aT_in (List.mem_of_getElem? (i := 781) (by decide +kernel)) rfl, rfl, pnX2, mhX2, ⟨rfl, rfl⟩, by decide +kernel, aT_in (List.mem_of_getElem? (i := 62) (by decide +kernel)) rfl⟩
theorem ivX2_firstWrong : Cond.instanceMethod (mY mX2_firstWrong) ∈ aT ∧ Cond.selects (mO mX2_firstWrong) (mY mX2_firstWrong) (mY mX2_firstWrong) ∈ aT := ⟨aT_in (List.mem_of_getElem? (i := 779) (by decide +kernel)) rfl, aT_in (List.mem_of_getElem? (i := 780) (by decide +kernel)) rfl⟩
def mX3_forget : aM := (yX3_forget, cX3_forget, 1, none, RX3, { frames := 0, cells := 0, slots := 0, locals := 0 })
theorem oX3_forget : aOk mX3_forget 0 := ⟨aT_in (List.mem_of_getElem? (i := 465) (by decide +kernel)) rfl, rfl, pnX3, mhX3, ⟨rfl, rfl⟩, by decide +kernel, aT_in (List.mem_of_getElem? (i := 61) (by decide +kernel)) rfl⟩
theorem ivX3_forget : Cond.instanceMethod (mY mX3_forget) ∈ aT ∧ Cond.selects (mO mX3_forget) (mY mX3_forget) (mY mX3_forget) ∈ aT := ⟨aT_in (List.mem_of_getElem? (i := 463) (by decide +kernel)) rfl, aT_in (List.mem_of_getElem? (i := 464) (by decide +kernel)) rfl⟩
def mX3_begin : aM := (yX3_begin, cX3_begin, 2, none, RX3, { frames := 1, cells := 0, slots := 0, locals := 21 })
theorem oX3_begin : aOk mX3_begin 1 := ⟨aT_in (List.mem_of_getElem? (i := 580) (by decide +kernel)) rfl, rfl, pnX3, mhX3, ⟨rfl, rfl⟩, by decide +kernel, aT_in (List.mem_of_getElem? (i := 61) (by decide +kernel)) rfl⟩
theorem ivX3_begin : Cond.instanceMethod (mY mX3_begin) ∈ aT ∧ Cond.selects (mO mX3_begin) (mY mX3_begin) (mY mX3_begin) ∈ aT := ⟨aT_in (List.mem_of_getElem? (i := 579) (by decide +kernel)) rfl, aT_in (List.mem_of_getElem? (i := 15) (by decide +kernel)) rfl⟩
def mX3_noteAdded : aM := (yX3_noteAdded, cX3_noteAdded, 2, none, RX3, { frames := 2, cells := 0, slots := 0, locals := 42 })
theorem oX3_noteAdded : aOk mX3_noteAdded 1 := ⟨aT_in (List.mem_of_getElem? (i := 576) (by decide +kernel)) rfl, rfl, pnX3, mhX3, ⟨rfl, rfl⟩, by decide +kernel, aT_in (List.mem_of_getElem? (i := 61) (by decide +kernel)) rfl⟩
theorem ivX3_noteAdded : Cond.instanceMethod (mY mX3_noteAdded) ∈ aT ∧ Cond.selects (mO mX3_noteAdded) (mY mX3_noteAdded) (mY mX3_noteAdded) ∈ aT := ⟨aT_in (List.mem_of_getElem? (i := 574) (by decide +kernel)) rfl, aT_in (List.mem_of_getElem? (i := 575) (by decide +kernel)) rfl⟩
def mX3_noteBlotted : aM := (yX3_noteBlotted, cX3_noteBlotted, 5, none, RX3, { frames := 2, cells := 0, slots := 0, locals := 42 })
theorem oX3_noteBlotted : aOk mX3_noteBlotted 4 := ⟨aT_in (List.mem_of_getElem? (i := 590) (by decide +kernel)) rfl, rfl, pnX3, mhX3, ⟨rfl, rfl⟩, by decide +kernel, aT_in (List.mem_of_getElem? (i := 61) (by decide +kernel)) rfl⟩
theorem ivX3_noteBlotted : Cond.instanceMethod (mY mX3_noteBlotted) ∈ aT ∧ Cond.selects (mO mX3_noteBlotted) (mY mX3_noteBlotted) (mY mX3_noteBlotted) ∈ aT := ⟨aT_in (List.mem_of_getElem? (i := 588) (by decide +kernel)) rfl, aT_in (List.mem_of_getElem? (i := 589) (by decide +kernel)) rfl⟩
def mX3_noteBottled : aM := (yX3_noteBottled, cX3_noteBottled, 2, none, RX3, { frames := 2, cells := 0, slots := 0, locals := 42 })
theorem oX3_noteBottled : aOk mX3_noteBottled 1 := ⟨aT_in (List.mem_of_getElem? (i := 602) (by decide +kernel)) rfl, rfl, pnX3, mhX3, ⟨rfl, rfl⟩, by decide +kernel, aT_in (List.mem_of_getElem? (i := 61) (by decide +kernel)) rfl⟩
theorem ivX3_noteBottled : Cond.instanceMethod (mY mX3_noteBottled) ∈ aT ∧ Cond.selects (mO mX3_noteBottled) (mY mX3_noteBottled) (mY mX3_noteBottled) ∈ aT := ⟨aT_in (List.mem_of_getElem? (i := 600) (by decide +kernel)) rfl, aT_in (List.mem_of_getElem? (i := 601) (by decide +kernel)) rfl⟩
def mX3_takeBackLast : aM := (yX3_takeBackLast, cX3_takeBackLast, 2, none, RX3, { frames := 2, cells := 0, slots := 0, locals := 42 })
theorem oX3_takeBackLast : aOk mX3_takeBackLast 1 := ⟨aT_in (List.mem_of_getElem? (i := 622) (by decide +kernel)) rfl, rfl, pnX3, mhX3, ⟨rfl, rfl⟩, by decide +kernel, aT_in (List.mem_of_getElem? (i := 61) (by decide +kernel)) rfl⟩
theorem ivX3_takeBackLast : Cond.instanceMethod (mY mX3_takeBackLast) ∈ aT ∧ Cond.selects (mO mX3_takeBackLast) (mY mX3_takeBackLast) (mY mX3_takeBackLast) ∈ aT := ⟨aT_in (List.mem_of_getElem? (i := 620) (by decide +kernel)) rfl, aT_in (List.mem_of_getElem? (i := 621) (by decide +kernel)) rfl⟩
def mX4_compare : aM := (yX4_compare, cX4_compare, 5, none, RX4, { frames := 5, cells := 0, slots := 0, locals := 117 })
theorem oX4_compare : aOk mX4_compare 2 := ⟨aT_in (List.mem_of_getElem? (i := 716) (by decide +kernel)) rfl, rfl, pnX4, mhX4, ⟨rfl, rfl⟩, by decide +kernel, aT_in (List.mem_of_getElem? (i := 64) (by decide +kernel)) rfl⟩
theorem ivX4_compare : Cond.instanceMethod (mY mX4_compare) ∈ aT ∧ Cond.selects (mO mX4_compare) (mY mX4_compare) (mY mX4_compare) ∈ aT := ⟨aT_in (List.mem_of_getElem? (i := 714) (by decide +kernel)) rfl, aT_in (List.mem_of_getElem? (i := 715) (by decide +kernel)) rfl⟩
def mX4_handIn : aM := (yX4_handIn, cX4_handIn, 3, (some .int), RX4, { frames := 0, cells := 0, slots := 0, locals := 0 })
theorem oX4_handIn : aOk mX4_handIn 3 := ⟨aT_in (List.mem_of_getElem? (i := 737) (by decide +kernel)) rfl, rfl, pnX4, mhX4, ⟨rfl, rfl⟩, by decide +kernel, aT_in (List.mem_of_getElem? (i := 64) (by decide +kernel)) rfl⟩
theorem isX4_handIn : Cond.static (mY mX4_handIn) ∈ aT := aT_in (List.mem_of_getElem? (i := 736) (by decide +kernel)) rfl
def mX4_likenessOf : aM := (yX4_likenessOf, cX4_likenessOf, 8, (some .int), RX4, { frames := 1, cells := 0, slots := 0, locals := 22 })
theorem oX4_likenessOf : aOk mX4_likenessOf 3 := ⟨aT_in (List.mem_of_getElem? (i := 734) (by decide +kernel)) rfl, rfl, pnX4, mhX4, ⟨rfl, rfl⟩, by decide +kernel, aT_in (List.mem_of_getElem? (i := 64) (by decide +kernel)) rfl⟩
theorem ivX4_likenessOf : Cond.instanceMethod (mY mX4_likenessOf) ∈ aT ∧ Cond.selects (mO mX4_likenessOf) (mY mX4_likenessOf) (mY mX4_likenessOf) ∈ aT := ⟨aT_in (List.mem_of_getElem? (i := 733) (by decide +kernel)) rfl, aT_in (List.mem_of_getElem? (i := 17) (by decide +kernel)) rfl⟩
def mX4_search : aM := (yX4_search, cX4_search, 6, none, RX4, { frames := 2, cells := 0, slots := 0, locals := 49 })
theorem oX4_search : aOk mX4_search 2 := ⟨aT_in (List.mem_of_getElem? (i := 729) (by decide +kernel)) rfl, rfl, pnX4, mhX4, ⟨rfl, rfl⟩, by decide +kernel, aT_in (List.mem_of_getElem? (i := 64) (by decide +kernel)) rfl⟩
theorem ivX4_search : Cond.instanceMethod (mY mX4_search) ∈ aT ∧ Cond.selects (mO mX4_search) (mY mX4_search) (mY mX4_search) ∈ aT := ⟨aT_in (List.mem_of_getElem? (i := 727) (by decide +kernel)) rfl, aT_in (List.mem_of_getElem? (i := 728) (by decide +kernel)) rfl⟩
def mX4_handOf : aM := (yX4_handOf, cX4_handOf, 3, (some .int), RX4, { frames := 1, cells := 0, slots := 0, locals := 22 })
theorem oX4_handOf : aOk mX4_handOf 2 := ⟨aT_in (List.mem_of_getElem? (i := 741) (by decide +kernel)) rfl, rfl, pnX4, mhX4, ⟨rfl, rfl⟩, by decide +kernel, aT_in (List.mem_of_getElem? (i := 64) (by decide +kernel)) rfl⟩
theorem ivX4_handOf : Cond.instanceMethod (mY mX4_handOf) ∈ aT ∧ Cond.selects (mO mX4_handOf) (mY mX4_handOf) (mY mX4_handOf) ∈ aT := ⟨aT_in (List.mem_of_getElem? (i := 739) (by decide +kernel)) rfl, aT_in (List.mem_of_getElem? (i := 740) (by decide +kernel)) rfl⟩
def mX5_take : aM := (yX5_take, cX5_take, 2, (some .int), RX5, { frames := 0, cells := 0, slots := 0, locals := 0 })
theorem oX5_take : aOk mX5_take 1 := ⟨aT_in (List.mem_of_getElem? (i := 349) (by decide +kernel)) rfl, rfl, pnX5, mhX5, ⟨rfl, rfl⟩, by decide +kernel, aT_in (List.mem_of_getElem? (i := 59) (by decide +kernel)) rfl⟩
theorem ivX5_take : Cond.instanceMethod (mY mX5_take) ∈ aT ∧ Cond.selects (mO mX5_take) (mY mX5_take) (mY mX5_take) ∈ aT := ⟨aT_in (List.mem_of_getElem? (i := 347) (by decide +kernel)) rfl, aT_in (List.mem_of_getElem? (i := 348) (by decide +kernel)) rfl⟩
def mX5_current : aM := (yX5_current, cX5_current, 1, (some .int), RX5, { frames := 0, cells := 0, slots := 0, locals := 0 })
theorem oX5_current : aOk mX5_current 0 := ⟨aT_in (List.mem_of_getElem? (i := 370) (by decide +kernel)) rfl, rfl, pnX5, mhX5, ⟨rfl, rfl⟩, by decide +kernel, aT_in (List.mem_of_getElem? (i := 59) (by decide +kernel)) rfl⟩
theorem ivX5_current : Cond.instanceMethod (mY mX5_current) ∈ aT ∧ Cond.selects (mO mX5_current) (mY mX5_current) (mY mX5_current) ∈ aT := ⟨aT_in (List.mem_of_getElem? (i := 369) (by decide +kernel)) rfl, aT_in (List.mem_of_getElem? (i := 1) (by decide +kernel)) rfl⟩
def mX5_skipBlanks : aM := (yX5_skipBlanks, cX5_skipBlanks, 1, none, RX5, { frames := 1, cells := 0, slots := 0, locals := 20 })
theorem oX5_skipBlanks : aOk mX5_skipBlanks 0 := ⟨aT_in (List.mem_of_getElem? (i := 366) (by decide +kernel)) rfl, rfl, pnX5, mhX5, ⟨rfl, rfl⟩, by decide +kernel, aT_in (List.mem_of_getElem? (i := 59) (by decide +kernel)) rfl⟩
theorem ivX5_skipBlanks : Cond.instanceMethod (mY mX5_skipBlanks) ∈ aT ∧ Cond.selects (mO mX5_skipBlanks) (mY mX5_skipBlanks) (mY mX5_skipBlanks) ∈ aT := ⟨aT_in (List.mem_of_getElem? (i := 365) (by decide +kernel)) rfl, aT_in (List.mem_of_getElem? (i := 0) (by decide +kernel)) rfl⟩
def mX5_mayStand : aM := (yX5_mayStand, cX5_mayStand, 2, (some .boolean), RX5, { frames := 0, cells := 0, slots := 0, locals := 0 })
theorem oX5_mayStand : aOk mX5_mayStand 2 := ⟨aT_in (List.mem_of_getElem? (i := 377) (by decide +kernel)) rfl, rfl, pnX5, mhX5, ⟨rfl, rfl⟩, by decide +kernel, aT_in (List.mem_of_getElem? (i := 59) (by decide +kernel)) rfl⟩
theorem isX5_mayStand : Cond.static (mY mX5_mayStand) ∈ aT := aT_in (List.mem_of_getElem? (i := 376) (by decide +kernel)) rfl
def mX5_fail : aM := (yX5_fail, cX5_fail, 3, none, RX5, { frames := 0, cells := 0, slots := 0, locals := 0 })
theorem oX5_fail : aOk mX5_fail 2 := ⟨aT_in (List.mem_of_getElem? (i := 381) (by decide +kernel)) rfl, rfl, pnX5, mhX5, ⟨rfl, rfl⟩, by decide +kernel, aT_in (List.mem_of_getElem? (i := 59) (by decide +kernel)) rfl⟩
theorem ivX5_fail : Cond.instanceMethod (mY mX5_fail) ∈ aT ∧ Cond.selects (mO mX5_fail) (mY mX5_fail) (mY mX5_fail) ∈ aT := ⟨aT_in (List.mem_of_getElem? (i := 380) (by decide +kernel)) rfl, aT_in (List.mem_of_getElem? (i := 3) (by decide +kernel)) rfl⟩
def mX5_isTooMany : aM := (yX5_isTooMany, cX5_isTooMany, 2, (some .boolean), RX5, { frames := 0, cells := 0, slots := 0, locals := 0 })
theorem oX5_isTooMany : aOk mX5_isTooMany 2 := ⟨aT_in (List.mem_of_getElem? (i := 384) (by decide +kernel)) rfl, rfl, pnX5, mhX5, ⟨rfl, rfl⟩, by decide +kernel, aT_in (List.mem_of_getElem? (i := 59) (by decide +kernel)) rfl⟩
theorem isX5_isTooMany : Cond.static (mY mX5_isTooMany) ∈ aT := aT_in (List.mem_of_getElem? (i := 383) (by decide +kernel)) rfl
def mX5_isFigure : aM := (yX5_isFigure, cX5_isFigure, 1, (some .boolean), RX5, { frames := 0, cells := 0, slots := 0, locals := 0 })
theorem oX5_isFigure : aOk mX5_isFigure 1 := ⟨aT_in (List.mem_of_getElem? (i := 395) (by decide +kernel)) rfl, rfl, pnX5, mhX5, ⟨rfl, rfl⟩, by decide +kernel, aT_in (List.mem_of_getElem? (i := 59) (by decide +kernel)) rfl⟩
theorem isX5_isFigure : Cond.static (mY mX5_isFigure) ∈ aT := aT_in (List.mem_of_getElem? (i := 394) (by decide +kernel)) rfl
def mX5_readNumber : aM := (yX5_readNumber, cX5_readNumber, 5, (some .int), RX5, { frames := 2, cells := 0, slots := 0, locals := 40 })
theorem oX5_readNumber : aOk mX5_readNumber 2 := ⟨aT_in (List.mem_of_getElem? (i := 392) (by decide +kernel)) rfl, rfl, pnX5, mhX5, ⟨rfl, rfl⟩, by decide +kernel, aT_in (List.mem_of_getElem? (i := 59) (by decide +kernel)) rfl⟩
theorem ivX5_readNumber : Cond.instanceMethod (mY mX5_readNumber) ∈ aT ∧ Cond.selects (mO mX5_readNumber) (mY mX5_readNumber) (mY mX5_readNumber) ∈ aT := ⟨aT_in (List.mem_of_getElem? (i := 391) (by decide +kernel)) rfl, aT_in (List.mem_of_getElem? (i := 5) (by decide +kernel)) rfl⟩
def mX5_readWeather : aM := (yX5_readWeather, cX5_readWeather, 2, none, RX5, { frames := 3, cells := 0, slots := 0, locals := 64 })
theorem oX5_readWeather : aOk mX5_readWeather 1 := ⟨aT_in (List.mem_of_getElem? (i := 388) (by decide +kernel)) rfl, rfl, pnX5, mhX5, ⟨rfl, rfl⟩, by decide +kernel, aT_in (List.mem_of_getElem? (i := 59) (by decide +kernel)) rfl⟩
theorem ivX5_readWeather : Cond.instanceMethod (mY mX5_readWeather) ∈ aT ∧ Cond.selects (mO mX5_readWeather) (mY mX5_readWeather) (mY mX5_readWeather) ∈ aT := ⟨aT_in (List.mem_of_getElem? (i := 387) (by decide +kernel)) rfl, aT_in (List.mem_of_getElem? (i := 4) (by decide +kernel)) rfl⟩
def mX5_takeIf : aM := (yX5_takeIf, cX5_takeIf, 2, (some .boolean), RX5, { frames := 2, cells := 0, slots := 0, locals := 40 })
theorem oX5_takeIf : aOk mX5_takeIf 1 := ⟨aT_in (List.mem_of_getElem? (i := 403) (by decide +kernel)) rfl, rfl, pnX5, mhX5, ⟨rfl, rfl⟩, by decide +kernel, aT_in (List.mem_of_getElem? (i := 59) (by decide +kernel)) rfl⟩
theorem ivX5_takeIf : Cond.instanceMethod (mY mX5_takeIf) ∈ aT ∧ Cond.selects (mO mX5_takeIf) (mY mX5_takeIf) (mY mX5_takeIf) ∈ aT := ⟨aT_in (List.mem_of_getElem? (i := 402) (by decide +kernel)) rfl, aT_in (List.mem_of_getElem? (i := 7) (by decide +kernel)) rfl⟩
def mX5_readRains : aM := (yX5_readRains, cX5_readRains, 4, none, RX5, { frames := 3, cells := 0, slots := 0, locals := 64 })
theorem oX5_readRains : aOk mX5_readRains 1 := ⟨aT_in (List.mem_of_getElem? (i := 399) (by decide +kernel)) rfl, rfl, pnX5, mhX5, ⟨rfl, rfl⟩, by decide +kernel, aT_in (List.mem_of_getElem? (i := 59) (by decide +kernel)) rfl⟩
theorem ivX5_readRains : Cond.instanceMethod (mY mX5_readRains) ∈ aT ∧ Cond.selects (mO mX5_readRains) (mY mX5_readRains) (mY mX5_readRains) ∈ aT := ⟨aT_in (List.mem_of_getElem? (i := 398) (by decide +kernel)) rfl, aT_in (List.mem_of_getElem? (i := 6) (by decide +kernel)) rfl⟩
def mX5_readHand : aM := (yX5_readHand, cX5_readHand, 3, none, RX5, { frames := 3, cells := 0, slots := 0, locals := 64 })
theorem oX5_readHand : aOk mX5_readHand 1 := ⟨aT_in (List.mem_of_getElem? (i := 407) (by decide +kernel)) rfl, rfl, pnX5, mhX5, ⟨rfl, rfl⟩, by decide +kernel, aT_in (List.mem_of_getElem? (i := 59) (by decide +kernel)) rfl⟩
theorem ivX5_readHand : Cond.instanceMethod (mY mX5_readHand) ∈ aT ∧ Cond.selects (mO mX5_readHand) (mY mX5_readHand) (mY mX5_readHand) ∈ aT := ⟨aT_in (List.mem_of_getElem? (i := 406) (by decide +kernel)) rfl, aT_in (List.mem_of_getElem? (i := 8) (by decide +kernel)) rfl⟩
def mX5_readPaper : aM := (yX5_readPaper, cX5_readPaper, 3, none, RX5, { frames := 3, cells := 0, slots := 0, locals := 64 })
theorem oX5_readPaper : aOk mX5_readPaper 1 := ⟨aT_in (List.mem_of_getElem? (i := 411) (by decide +kernel)) rfl, rfl, pnX5, mhX5, ⟨rfl, rfl⟩, by decide +kernel, aT_in (List.mem_of_getElem? (i := 59) (by decide +kernel)) rfl⟩
theorem ivX5_readPaper : Cond.instanceMethod (mY mX5_readPaper) ∈ aT ∧ Cond.selects (mO mX5_readPaper) (mY mX5_readPaper) (mY mX5_readPaper) ∈ aT := ⟨aT_in (List.mem_of_getElem? (i := 410) (by decide +kernel)) rfl, aT_in (List.mem_of_getElem? (i := 9) (by decide +kernel)) rfl⟩
def mX5_readClause : aM := (yX5_readClause, cX5_readClause, 3, none, RX5, { frames := 4, cells := 0, slots := 0, locals := 87 })
theorem oX5_readClause : aOk mX5_readClause 1 := ⟨aT_in (List.mem_of_getElem? (i := 374) (by decide +kernel)) rfl, rfl, pnX5, mhX5, ⟨rfl, rfl⟩, by decide +kernel, aT_in (List.mem_of_getElem? (i := 59) (by decide +kernel)) rfl⟩
theorem ivX5_readClause : Cond.instanceMethod (mY mX5_readClause) ∈ aT ∧ Cond.selects (mO mX5_readClause) (mY mX5_readClause) (mY mX5_readClause) ∈ aT := ⟨aT_in (List.mem_of_getElem? (i := 373) (by decide +kernel)) rfl, aT_in (List.mem_of_getElem? (i := 2) (by decide +kernel)) rfl⟩
def mX5_readInto : aM := (yX5_readInto, cX5_readInto, 3, (some .int), RX5, { frames := 5, cells := 0, slots := 0, locals := 109 })
theorem oX5_readInto : aOk mX5_readInto 1 := ⟨aT_in (List.mem_of_getElem? (i := 362) (by decide +kernel)) rfl, rfl, pnX5, mhX5, ⟨rfl, rfl⟩, by decide +kernel, aT_in (List.mem_of_getElem? (i := 59) (by decide +kernel)) rfl⟩
theorem ivX5_readInto : Cond.instanceMethod (mY mX5_readInto) ∈ aT ∧ Cond.selects (mO mX5_readInto) (mY mX5_readInto) (mY mX5_readInto) ∈ aT := ⟨aT_in (List.mem_of_getElem? (i := 360) (by decide +kernel)) rfl, aT_in (List.mem_of_getElem? (i := 361) (by decide +kernel)) rfl⟩
def mX6_clear : aM := (yX6_clear, cX6_clear, 1, none, RX6, { frames := 0, cells := 0, slots := 0, locals := 0 })
theorem oX6_clear : aOk mX6_clear 0 := ⟨aT_in (List.mem_of_getElem? (i := 358) (by decide +kernel)) rfl, rfl, pnX6, mhX6, ⟨rfl, rfl⟩, by decide +kernel, aT_in (List.mem_of_getElem? (i := 65) (by decide +kernel)) rfl⟩
theorem ivX6_clear : Cond.instanceMethod (mY mX6_clear) ∈ aT ∧ Cond.selects (mO mX6_clear) (mY mX6_clear) (mY mX6_clear) ∈ aT := ⟨aT_in (List.mem_of_getElem? (i := 356) (by decide +kernel)) rfl, aT_in (List.mem_of_getElem? (i := 357) (by decide +kernel)) rfl⟩
def mX6_rainOf : aM := (yX6_rainOf, cX6_rainOf, 2, (some .int), RX6, { frames := 0, cells := 0, slots := 0, locals := 0 })
theorem oX6_rainOf : aOk mX6_rainOf 1 := ⟨aT_in (List.mem_of_getElem? (i := 419) (by decide +kernel)) rfl, rfl, pnX6, mhX6, ⟨rfl, rfl⟩, by decide +kernel, aT_in (List.mem_of_getElem? (i := 65) (by decide +kernel)) rfl⟩
theorem ivX6_rainOf : Cond.instanceMethod (mY mX6_rainOf) ∈ aT ∧ Cond.selects (mO mX6_rainOf) (mY mX6_rainOf) (mY mX6_rainOf) ∈ aT := ⟨aT_in (List.mem_of_getElem? (i := 417) (by decide +kernel)) rfl, aT_in (List.mem_of_getElem? (i := 418) (by decide +kernel)) rfl⟩
def mX6_fillLooks : aM := (yX6_fillLooks, cX6_fillLooks, 3, none, RX6, { frames := 3, cells := 0, slots := 0, locals := 70 })
theorem oX6_fillLooks : aOk mX6_fillLooks 0 := ⟨aT_in (List.mem_of_getElem? (i := 415) (by decide +kernel)) rfl, rfl, pnX6, mhX6, ⟨rfl, rfl⟩, by decide +kernel, aT_in (List.mem_of_getElem? (i := 65) (by decide +kernel)) rfl⟩
theorem ivX6_fillLooks : Cond.instanceMethod (mY mX6_fillLooks) ∈ aT ∧ Cond.selects (mO mX6_fillLooks) (mY mX6_fillLooks) (mY mX6_fillLooks) ∈ aT := ⟨aT_in (List.mem_of_getElem? (i := 413) (by decide +kernel)) rfl, aT_in (List.mem_of_getElem? (i := 414) (by decide +kernel)) rfl⟩
def mX6_firstHour : aM := (yX6_firstHour, cX6_firstHour, 5, (some .int), RX6, { frames := 2, cells := 0, slots := 0, locals := 43 })
theorem oX6_firstHour : aOk mX6_firstHour 3 := ⟨aT_in (List.mem_of_getElem? (i := 646) (by decide +kernel)) rfl, rfl, pnX6, mhX6, ⟨rfl, rfl⟩, by decide +kernel, aT_in (List.mem_of_getElem? (i := 65) (by decide +kernel)) rfl⟩
theorem ivX6_firstHour : Cond.instanceMethod (mY mX6_firstHour) ∈ aT ∧ Cond.selects (mO mX6_firstHour) (mY mX6_firstHour) (mY mX6_firstHour) ∈ aT := ⟨aT_in (List.mem_of_getElem? (i := 644) (by decide +kernel)) rfl, aT_in (List.mem_of_getElem? (i := 645) (by decide +kernel)) rfl⟩
def mX6_hoursOfLook : aM := (yX6_hoursOfLook, cX6_hoursOfLook, 6, (some .int), RX6, { frames := 2, cells := 0, slots := 0, locals := 43 })
theorem oX6_hoursOfLook : aOk mX6_hoursOfLook 3 := ⟨aT_in (List.mem_of_getElem? (i := 637) (by decide +kernel)) rfl, rfl, pnX6, mhX6, ⟨rfl, rfl⟩, by decide +kernel, aT_in (List.mem_of_getElem? (i := 65) (by decide +kernel)) rfl⟩
theorem ivX6_hoursOfLook : Cond.instanceMethod (mY mX6_hoursOfLook) ∈ aT ∧ Cond.selects (mO mX6_hoursOfLook) (mY mX6_hoursOfLook) (mY mX6_hoursOfLook) ∈ aT := ⟨aT_in (List.mem_of_getElem? (i := 635) (by decide +kernel)) rfl, aT_in (List.mem_of_getElem? (i := 636) (by decide +kernel)) rfl⟩
def mX7_feed : aM := (yX7_feed, cX7_feed, 2, (some .int), RX7, { frames := 1, cells := 0, slots := 0, locals := 21 })
theorem oX7_feed : aOk mX7_feed 1 := ⟨aT_in (List.mem_of_getElem? (i := 344) (by decide +kernel)) rfl, rfl, pnX7, mhX7, ⟨rfl, rfl⟩, by decide +kernel, aT_in (List.mem_of_getElem? (i := 58) (by decide +kernel)) rfl⟩
theorem ivX7_feed : Cond.instanceMethod (mY mX7_feed) ∈ aT ∧ Cond.selects (mO mX7_feed) (mY mX7_feed) (mY mX7_feed) ∈ aT := ⟨aT_in (List.mem_of_getElem? (i := 342) (by decide +kernel)) rfl, aT_in (List.mem_of_getElem? (i := 343) (by decide +kernel)) rfl⟩
def mJ6_bitCount_0f7a4 : aM := (yJ6_bitCount_0f7a4, cJ6_bitCount_0f7a4, 1, (some .int), RJ6, { frames := 0, cells := 0, slots := 0, locals := 0 })
theorem oJ6_bitCount_0f7a4 : aOk mJ6_bitCount_0f7a4 1 := ⟨aT_in (List.mem_of_getElem? (i := 472) (by decide +kernel)) rfl, rfl, pnJ6, mhJ6, ⟨rfl, rfl⟩, by decide +kernel, aT_in (List.mem_of_getElem? (i := 68) (by decide +kernel)) rfl⟩
theorem isJ6_bitCount_0f7a4 : Cond.static (mY mJ6_bitCount_0f7a4) ∈ aT := aT_in (List.mem_of_getElem? (i := 471) (by decide +kernel)) rfl
def mX7_dropMeasures : aM := (yX7_dropMeasures, cX7_dropMeasures, 3, (some .int), RX7, { frames := 1, cells := 0, slots := 0, locals := 20 })
theorem oX7_dropMeasures : aOk mX7_dropMeasures 0 := ⟨aT_in (List.mem_of_getElem? (i := 469) (by decide +kernel)) rfl, rfl, pnX7, mhX7, ⟨rfl, rfl⟩, by decide +kernel, aT_in (List.mem_of_getElem? (i := 58) (by decide +kernel)) rfl⟩
theorem ivX7_dropMeasures : Cond.instanceMethod (mY mX7_dropMeasures) ∈ aT ∧ Cond.selects (mO mX7_dropMeasures) (mY mX7_dropMeasures) (mY mX7_dropMeasures) ∈ aT := ⟨aT_in (List.mem_of_getElem? (i := 468) (by decide +kernel)) rfl, aT_in (List.mem_of_getElem? (i := 11) (by decide +kernel)) rfl⟩
def mX7_valley : aM := (yX7_valley, cX7_valley, 3, (some .int), RX7, { frames := 6, cells := 0, slots := 0, locals := 131 })
theorem oX7_valley : aOk mX7_valley 0 := ⟨aT_in (List.mem_of_getElem? (i := 354) (by decide +kernel)) rfl, rfl, pnX7, mhX7, ⟨rfl, rfl⟩, by decide +kernel, aT_in (List.mem_of_getElem? (i := 58) (by decide +kernel)) rfl⟩
theorem ivX7_valley : Cond.instanceMethod (mY mX7_valley) ∈ aT ∧ Cond.selects (mO mX7_valley) (mY mX7_valley) (mY mX7_valley) ∈ aT := ⟨aT_in (List.mem_of_getElem? (i := 352) (by decide +kernel)) rfl, aT_in (List.mem_of_getElem? (i := 353) (by decide +kernel)) rfl⟩
def mX7_fault : aM := (yX7_fault, cX7_fault, 1, (some .int), RX7, { frames := 0, cells := 0, slots := 0, locals := 0 })
theorem oX7_fault : aOk mX7_fault 0 := ⟨aT_in (List.mem_of_getElem? (i := 479) (by decide +kernel)) rfl, rfl, pnX7, mhX7, ⟨rfl, rfl⟩, by decide +kernel, aT_in (List.mem_of_getElem? (i := 58) (by decide +kernel)) rfl⟩
theorem ivX7_fault : Cond.instanceMethod (mY mX7_fault) ∈ aT ∧ Cond.selects (mO mX7_fault) (mY mX7_fault) (mY mX7_fault) ∈ aT := ⟨aT_in (List.mem_of_getElem? (i := 477) (by decide +kernel)) rfl, aT_in (List.mem_of_getElem? (i := 478) (by decide +kernel)) rfl⟩
def mX7_told : aM := (yX7_told, cX7_told, 2, (some .int), RX7, { frames := 1, cells := 0, slots := 0, locals := 22 })
theorem oX7_told : aOk mX7_told 1 := ⟨aT_in (List.mem_of_getElem? (i := 483) (by decide +kernel)) rfl, rfl, pnX7, mhX7, ⟨rfl, rfl⟩, by decide +kernel, aT_in (List.mem_of_getElem? (i := 58) (by decide +kernel)) rfl⟩
theorem ivX7_told : Cond.instanceMethod (mY mX7_told) ∈ aT ∧ Cond.selects (mO mX7_told) (mY mX7_told) (mY mX7_told) ∈ aT := ⟨aT_in (List.mem_of_getElem? (i := 481) (by decide +kernel)) rfl, aT_in (List.mem_of_getElem? (i := 482) (by decide +kernel)) rfl⟩
def mX7_weather : aM := (yX7_weather, cX7_weather, 3, (some .int), RX7, { frames := 2, cells := 0, slots := 0, locals := 44 })
theorem oX7_weather : aOk mX7_weather 2 := ⟨aT_in (List.mem_of_getElem? (i := 491) (by decide +kernel)) rfl, rfl, pnX7, mhX7, ⟨rfl, rfl⟩, by decide +kernel, aT_in (List.mem_of_getElem? (i := 58) (by decide +kernel)) rfl⟩
theorem ivX7_weather : Cond.instanceMethod (mY mX7_weather) ∈ aT ∧ Cond.selects (mO mX7_weather) (mY mX7_weather) (mY mX7_weather) ∈ aT := ⟨aT_in (List.mem_of_getElem? (i := 489) (by decide +kernel)) rfl, aT_in (List.mem_of_getElem? (i := 490) (by decide +kernel)) rfl⟩
def mX7_hand : aM := (yX7_hand, cX7_hand, 3, (some .int), RX7, { frames := 1, cells := 0, slots := 0, locals := 21 })
theorem oX7_hand : aOk mX7_hand 2 := ⟨aT_in (List.mem_of_getElem? (i := 503) (by decide +kernel)) rfl, rfl, pnX7, mhX7, ⟨rfl, rfl⟩, by decide +kernel, aT_in (List.mem_of_getElem? (i := 58) (by decide +kernel)) rfl⟩
theorem ivX7_hand : Cond.instanceMethod (mY mX7_hand) ∈ aT ∧ Cond.selects (mO mX7_hand) (mY mX7_hand) (mY mX7_hand) ∈ aT := ⟨aT_in (List.mem_of_getElem? (i := 501) (by decide +kernel)) rfl, aT_in (List.mem_of_getElem? (i := 502) (by decide +kernel)) rfl⟩
def mX7_ofAllLetters : aM := (yX7_ofAllLetters, cX7_ofAllLetters, 3, (some .int), RX7, { frames := 4, cells := 0, slots := 0, locals := 90 })
theorem oX7_ofAllLetters : aOk mX7_ofAllLetters 2 := ⟨aT_in (List.mem_of_getElem? (i := 514) (by decide +kernel)) rfl, rfl, pnX7, mhX7, ⟨rfl, rfl⟩, by decide +kernel, aT_in (List.mem_of_getElem? (i := 58) (by decide +kernel)) rfl⟩
theorem ivX7_ofAllLetters : Cond.instanceMethod (mY mX7_ofAllLetters) ∈ aT ∧ Cond.selects (mO mX7_ofAllLetters) (mY mX7_ofAllLetters) (mY mX7_ofAllLetters) ∈ aT := ⟨aT_in (List.mem_of_getElem? (i := 513) (by decide +kernel)) rfl, aT_in (List.mem_of_getElem? (i := 12) (by decide +kernel)) rfl⟩
def mX7_isMeasured : aM := (yX7_isMeasured, cX7_isMeasured, 3, (some .boolean), RX7, { frames := 0, cells := 0, slots := 0, locals := 0 })
theorem oX7_isMeasured : aOk mX7_isMeasured 2 := ⟨aT_in (List.mem_of_getElem? (i := 557) (by decide +kernel)) rfl, rfl, pnX7, mhX7, ⟨rfl, rfl⟩, by decide +kernel, aT_in (List.mem_of_getElem? (i := 58) (by decide +kernel)) rfl⟩
theorem ivX7_isMeasured : Cond.instanceMethod (mY mX7_isMeasured) ∈ aT ∧ Cond.selects (mO mX7_isMeasured) (mY mX7_isMeasured) (mY mX7_isMeasured) ∈ aT := ⟨aT_in (List.mem_of_getElem? (i := 556) (by decide +kernel)) rfl, aT_in (List.mem_of_getElem? (i := 13) (by decide +kernel)) rfl⟩
def mX7_letter : aM := (yX7_letter, cX7_letter, 4, (some .int), RX7, { frames := 5, cells := 0, slots := 0, locals := 112 })
theorem oX7_letter : aOk mX7_letter 3 := ⟨aT_in (List.mem_of_getElem? (i := 509) (by decide +kernel)) rfl, rfl, pnX7, mhX7, ⟨rfl, rfl⟩, by decide +kernel, aT_in (List.mem_of_getElem? (i := 58) (by decide +kernel)) rfl⟩
theorem ivX7_letter : Cond.instanceMethod (mY mX7_letter) ∈ aT ∧ Cond.selects (mO mX7_letter) (mY mX7_letter) (mY mX7_letter) ∈ aT := ⟨aT_in (List.mem_of_getElem? (i := 507) (by decide +kernel)) rfl, aT_in (List.mem_of_getElem? (i := 508) (by decide +kernel)) rfl⟩
def mX7_append : aM := (yX7_append, cX7_append, 5, none, RX7, { frames := 3, cells := 0, slots := 0, locals := 63 })
theorem oX7_append : aOk mX7_append 4 := ⟨aT_in (List.mem_of_getElem? (i := 571) (by decide +kernel)) rfl, rfl, pnX7, mhX7, ⟨rfl, rfl⟩, by decide +kernel, aT_in (List.mem_of_getElem? (i := 58) (by decide +kernel)) rfl⟩
theorem ivX7_append : Cond.instanceMethod (mY mX7_append) ∈ aT ∧ Cond.selects (mO mX7_append) (mY mX7_append) (mY mX7_append) ∈ aT := ⟨aT_in (List.mem_of_getElem? (i := 570) (by decide +kernel)) rfl, aT_in (List.mem_of_getElem? (i := 14) (by decide +kernel)) rfl⟩
def mX7_add : aM := (yX7_add, cX7_add, 5, (some .int), RX7, { frames := 4, cells := 0, slots := 0, locals := 87 })
theorem oX7_add : aOk mX7_add 4 := ⟨aT_in (List.mem_of_getElem? (i := 562) (by decide +kernel)) rfl, rfl, pnX7, mhX7, ⟨rfl, rfl⟩, by decide +kernel, aT_in (List.mem_of_getElem? (i := 58) (by decide +kernel)) rfl⟩
theorem ivX7_add : Cond.instanceMethod (mY mX7_add) ∈ aT ∧ Cond.selects (mO mX7_add) (mY mX7_add) (mY mX7_add) ∈ aT := ⟨aT_in (List.mem_of_getElem? (i := 560) (by decide +kernel)) rfl, aT_in (List.mem_of_getElem? (i := 561) (by decide +kernel)) rfl⟩
def mX7_blot : aM := (yX7_blot, cX7_blot, 4, (some .int), RX7, { frames := 3, cells := 0, slots := 0, locals := 67 })
theorem oX7_blot : aOk mX7_blot 1 := ⟨aT_in (List.mem_of_getElem? (i := 585) (by decide +kernel)) rfl, rfl, pnX7, mhX7, ⟨rfl, rfl⟩, by decide +kernel, aT_in (List.mem_of_getElem? (i := 58) (by decide +kernel)) rfl⟩
theorem ivX7_blot : Cond.instanceMethod (mY mX7_blot) ∈ aT ∧ Cond.selects (mO mX7_blot) (mY mX7_blot) (mY mX7_blot) ∈ aT := ⟨aT_in (List.mem_of_getElem? (i := 583) (by decide +kernel)) rfl, aT_in (List.mem_of_getElem? (i := 584) (by decide +kernel)) rfl⟩
def mX7_bottle : aM := (yX7_bottle, cX7_bottle, 3, (some .int), RX7, { frames := 3, cells := 0, slots := 0, locals := 63 })
theorem oX7_bottle : aOk mX7_bottle 1 := ⟨aT_in (List.mem_of_getElem? (i := 598) (by decide +kernel)) rfl, rfl, pnX7, mhX7, ⟨rfl, rfl⟩, by decide +kernel, aT_in (List.mem_of_getElem? (i := 58) (by decide +kernel)) rfl⟩
theorem ivX7_bottle : Cond.instanceMethod (mY mX7_bottle) ∈ aT ∧ Cond.selects (mO mX7_bottle) (mY mX7_bottle) (mY mX7_bottle) ∈ aT := ⟨aT_in (List.mem_of_getElem? (i := 596) (by decide +kernel)) rfl, aT_in (List.mem_of_getElem? (i := 597) (by decide +kernel)) rfl⟩
def mX7_drift : aM := (yX7_drift, cX7_drift, 6, (some .int), RX7, { frames := 4, cells := 0, slots := 0, locals := 87 })
theorem oX7_drift : aOk mX7_drift 1 := ⟨aT_in (List.mem_of_getElem? (i := 606) (by decide +kernel)) rfl, rfl, pnX7, mhX7, ⟨rfl, rfl⟩, by decide +kernel, aT_in (List.mem_of_getElem? (i := 58) (by decide +kernel)) rfl⟩
theorem ivX7_drift : Cond.instanceMethod (mY mX7_drift) ∈ aT ∧ Cond.selects (mO mX7_drift) (mY mX7_drift) (mY mX7_drift) ∈ aT := ⟨aT_in (List.mem_of_getElem? (i := 604) (by decide +kernel)) rfl, aT_in (List.mem_of_getElem? (i := 605) (by decide +kernel)) rfl⟩
def mX7_undo : aM := (yX7_undo, cX7_undo, 3, (some .int), RX7, { frames := 3, cells := 0, slots := 0, locals := 63 })
theorem oX7_undo : aOk mX7_undo 1 := ⟨aT_in (List.mem_of_getElem? (i := 618) (by decide +kernel)) rfl, rfl, pnX7, mhX7, ⟨rfl, rfl⟩, by decide +kernel, aT_in (List.mem_of_getElem? (i := 58) (by decide +kernel)) rfl⟩
theorem ivX7_undo : Cond.instanceMethod (mY mX7_undo) ∈ aT ∧ Cond.selects (mO mX7_undo) (mY mX7_undo) (mY mX7_undo) ∈ aT := ⟨aT_in (List.mem_of_getElem? (i := 616) (by decide +kernel)) rfl, aT_in (List.mem_of_getElem? (i := 617) (by decide +kernel)) rfl⟩
def mX7_look : aM := (yX7_look, cX7_look, 3, (some .int), RX7, { frames := 2, cells := 0, slots := 0, locals := 43 })
theorem oX7_look : aOk mX7_look 2 := ⟨aT_in (List.mem_of_getElem? (i := 628) (by decide +kernel)) rfl, rfl, pnX7, mhX7, ⟨rfl, rfl⟩, by decide +kernel, aT_in (List.mem_of_getElem? (i := 58) (by decide +kernel)) rfl⟩
theorem ivX7_look : Cond.instanceMethod (mY mX7_look) ∈ aT ∧ Cond.selects (mO mX7_look) (mY mX7_look) (mY mX7_look) ∈ aT := ⟨aT_in (List.mem_of_getElem? (i := 626) (by decide +kernel)) rfl, aT_in (List.mem_of_getElem? (i := 627) (by decide +kernel)) rfl⟩
def mX7_written : aM := (yX7_written, cX7_written, 5, (some .int), RX7, { frames := 3, cells := 0, slots := 0, locals := 68 })
theorem oX7_written : aOk mX7_written 4 := ⟨aT_in (List.mem_of_getElem? (i := 633) (by decide +kernel)) rfl, rfl, pnX7, mhX7, ⟨rfl, rfl⟩, by decide +kernel, aT_in (List.mem_of_getElem? (i := 58) (by decide +kernel)) rfl⟩
theorem ivX7_written : Cond.instanceMethod (mY mX7_written) ∈ aT ∧ Cond.selects (mO mX7_written) (mY mX7_written) (mY mX7_written) ∈ aT := ⟨aT_in (List.mem_of_getElem? (i := 631) (by decide +kernel)) rfl, aT_in (List.mem_of_getElem? (i := 632) (by decide +kernel)) rfl⟩
def mX7_who : aM := (yX7_who, cX7_who, 6, (some .int), RX7, { frames := 3, cells := 0, slots := 0, locals := 67 })
theorem oX7_who : aOk mX7_who 2 := ⟨aT_in (List.mem_of_getElem? (i := 642) (by decide +kernel)) rfl, rfl, pnX7, mhX7, ⟨rfl, rfl⟩, by decide +kernel, aT_in (List.mem_of_getElem? (i := 58) (by decide +kernel)) rfl⟩
theorem ivX7_who : Cond.instanceMethod (mY mX7_who) ∈ aT ∧ Cond.selects (mO mX7_who) (mY mX7_who) (mY mX7_who) ∈ aT := ⟨aT_in (List.mem_of_getElem? (i := 640) (by decide +kernel)) rfl, aT_in (List.mem_of_getElem? (i := 641) (by decide +kernel)) rfl⟩
def mX7_dated : aM := (yX7_dated, cX7_dated, 9, (some .int), RX7, { frames := 4, cells := 0, slots := 0, locals := 94 })
theorem oX7_dated : aOk mX7_dated 3 := ⟨aT_in (List.mem_of_getElem? (i := 650) (by decide +kernel)) rfl, rfl, pnX7, mhX7, ⟨rfl, rfl⟩, by decide +kernel, aT_in (List.mem_of_getElem? (i := 58) (by decide +kernel)) rfl⟩
theorem ivX7_dated : Cond.instanceMethod (mY mX7_dated) ∈ aT ∧ Cond.selects (mO mX7_dated) (mY mX7_dated) (mY mX7_dated) ∈ aT := ⟨aT_in (List.mem_of_getElem? (i := 648) (by decide +kernel)) rfl, aT_in (List.mem_of_getElem? (i := 649) (by decide +kernel)) rfl⟩
def mX7_addedAt : aM := (yX7_addedAt, cX7_addedAt, 4, (some .int), RX7, { frames := 6, cells := 0, slots := 0, locals := 148 })
theorem oX7_addedAt : aOk mX7_addedAt 3 := ⟨aT_in (List.mem_of_getElem? (i := 659) (by decide +kernel)) rfl, rfl, pnX7, mhX7, ⟨rfl, rfl⟩, by decide +kernel, aT_in (List.mem_of_getElem? (i := 58) (by decide +kernel)) rfl⟩
theorem ivX7_addedAt : Cond.instanceMethod (mY mX7_addedAt) ∈ aT ∧ Cond.selects (mO mX7_addedAt) (mY mX7_addedAt) (mY mX7_addedAt) ∈ aT := ⟨aT_in (List.mem_of_getElem? (i := 657) (by decide +kernel)) rfl, aT_in (List.mem_of_getElem? (i := 658) (by decide +kernel)) rfl⟩
def mX7_next : aM := (yX7_next, cX7_next, 3, (some .int), RX7, { frames := 5, cells := 0, slots := 0, locals := 121 })
theorem oX7_next : aOk mX7_next 2 := ⟨aT_in (List.mem_of_getElem? (i := 674) (by decide +kernel)) rfl, rfl, pnX7, mhX7, ⟨rfl, rfl⟩, by decide +kernel, aT_in (List.mem_of_getElem? (i := 58) (by decide +kernel)) rfl⟩
theorem ivX7_next : Cond.instanceMethod (mY mX7_next) ∈ aT ∧ Cond.selects (mO mX7_next) (mY mX7_next) (mY mX7_next) ∈ aT := ⟨aT_in (List.mem_of_getElem? (i := 672) (by decide +kernel)) rfl, aT_in (List.mem_of_getElem? (i := 673) (by decide +kernel)) rfl⟩
def mX7_isLook : aM := (yX7_isLook, cX7_isLook, 1, (some .boolean), RX7, { frames := 0, cells := 0, slots := 0, locals := 0 })
theorem oX7_isLook : aOk mX7_isLook 1 := ⟨aT_in (List.mem_of_getElem? (i := 703) (by decide +kernel)) rfl, rfl, pnX7, mhX7, ⟨rfl, rfl⟩, by decide +kernel, aT_in (List.mem_of_getElem? (i := 58) (by decide +kernel)) rfl⟩
theorem isX7_isLook : Cond.static (mY mX7_isLook) ∈ aT := aT_in (List.mem_of_getElem? (i := 702) (by decide +kernel)) rfl
def mX7_soonest : aM := (yX7_soonest, cX7_soonest, 4, (some .int), RX7, { frames := 3, cells := 0, slots := 0, locals := 67 })
theorem oX7_soonest : aOk mX7_soonest 3 := ⟨aT_in (List.mem_of_getElem? (i := 700) (by decide +kernel)) rfl, rfl, pnX7, mhX7, ⟨rfl, rfl⟩, by decide +kernel, aT_in (List.mem_of_getElem? (i := 58) (by decide +kernel)) rfl⟩
theorem ivX7_soonest : Cond.instanceMethod (mY mX7_soonest) ∈ aT ∧ Cond.selects (mO mX7_soonest) (mY mX7_soonest) (mY mX7_soonest) ∈ aT := ⟨aT_in (List.mem_of_getElem? (i := 698) (by decide +kernel)) rfl, aT_in (List.mem_of_getElem? (i := 699) (by decide +kernel)) rfl⟩
def mX7_likely : aM := (yX7_likely, cX7_likely, 3, (some .int), RX7, { frames := 3, cells := 0, slots := 0, locals := 68 })
theorem oX7_likely : aOk mX7_likely 2 := ⟨aT_in (List.mem_of_getElem? (i := 707) (by decide +kernel)) rfl, rfl, pnX7, mhX7, ⟨rfl, rfl⟩, by decide +kernel, aT_in (List.mem_of_getElem? (i := 58) (by decide +kernel)) rfl⟩
theorem ivX7_likely : Cond.instanceMethod (mY mX7_likely) ∈ aT ∧ Cond.selects (mO mX7_likely) (mY mX7_likely) (mY mX7_likely) ∈ aT := ⟨aT_in (List.mem_of_getElem? (i := 705) (by decide +kernel)) rfl, aT_in (List.mem_of_getElem? (i := 706) (by decide +kernel)) rfl⟩
def mX7_hands : aM := (yX7_hands, cX7_hands, 2, (some .int), RX7, { frames := 6, cells := 0, slots := 0, locals := 141 })
theorem oX7_hands : aOk mX7_hands 1 := ⟨aT_in (List.mem_of_getElem? (i := 712) (by decide +kernel)) rfl, rfl, pnX7, mhX7, ⟨rfl, rfl⟩, by decide +kernel, aT_in (List.mem_of_getElem? (i := 58) (by decide +kernel)) rfl⟩
theorem ivX7_hands : Cond.instanceMethod (mY mX7_hands) ∈ aT ∧ Cond.selects (mO mX7_hands) (mY mX7_hands) (mY mX7_hands) ∈ aT := ⟨aT_in (List.mem_of_getElem? (i := 710) (by decide +kernel)) rfl, aT_in (List.mem_of_getElem? (i := 711) (by decide +kernel)) rfl⟩
def mX7_forged : aM := (yX7_forged, cX7_forged, 7, (some .int), RX7, { frames := 4, cells := 0, slots := 0, locals := 91 })
theorem oX7_forged : aOk mX7_forged 2 := ⟨aT_in (List.mem_of_getElem? (i := 745) (by decide +kernel)) rfl, rfl, pnX7, mhX7, ⟨rfl, rfl⟩, by decide +kernel, aT_in (List.mem_of_getElem? (i := 58) (by decide +kernel)) rfl⟩
theorem ivX7_forged : Cond.instanceMethod (mY mX7_forged) ∈ aT ∧ Cond.selects (mO mX7_forged) (mY mX7_forged) (mY mX7_forged) ∈ aT := ⟨aT_in (List.mem_of_getElem? (i := 743) (by decide +kernel)) rfl, aT_in (List.mem_of_getElem? (i := 744) (by decide +kernel)) rfl⟩
def mX7_air : aM := (yX7_air, cX7_air, 4, (some .int), RX7, { frames := 3, cells := 0, slots := 0, locals := 68 })
theorem oX7_air : aOk mX7_air 3 := ⟨aT_in (List.mem_of_getElem? (i := 750) (by decide +kernel)) rfl, rfl, pnX7, mhX7, ⟨rfl, rfl⟩, by decide +kernel, aT_in (List.mem_of_getElem? (i := 58) (by decide +kernel)) rfl⟩
theorem ivX7_air : Cond.instanceMethod (mY mX7_air) ∈ aT ∧ Cond.selects (mO mX7_air) (mY mX7_air) (mY mX7_air) ∈ aT := ⟨aT_in (List.mem_of_getElem? (i := 748) (by decide +kernel)) rfl, aT_in (List.mem_of_getElem? (i := 749) (by decide +kernel)) rfl⟩
def mX7_rain : aM := (yX7_rain, cX7_rain, 4, (some .int), RX7, { frames := 4, cells := 0, slots := 0, locals := 97 })
theorem oX7_rain : aOk mX7_rain 1 := ⟨aT_in (List.mem_of_getElem? (i := 754) (by decide +kernel)) rfl, rfl, pnX7, mhX7, ⟨rfl, rfl⟩, by decide +kernel, aT_in (List.mem_of_getElem? (i := 58) (by decide +kernel)) rfl⟩
theorem ivX7_rain : Cond.instanceMethod (mY mX7_rain) ∈ aT ∧ Cond.selects (mO mX7_rain) (mY mX7_rain) (mY mX7_rain) ∈ aT := ⟨aT_in (List.mem_of_getElem? (i := 752) (by decide +kernel)) rfl, aT_in (List.mem_of_getElem? (i := 753) (by decide +kernel)) rfl⟩
def mX7_measure : aM := (yX7_measure, cX7_measure, 3, (some .int), RX7, { frames := 1, cells := 0, slots := 0, locals := 22 })
theorem oX7_measure : aOk mX7_measure 2 := ⟨aT_in (List.mem_of_getElem? (i := 764) (by decide +kernel)) rfl, rfl, pnX7, mhX7, ⟨rfl, rfl⟩, by decide +kernel, aT_in (List.mem_of_getElem? (i := 58) (by decide +kernel)) rfl⟩
theorem ivX7_measure : Cond.instanceMethod (mY mX7_measure) ∈ aT ∧ Cond.selects (mO mX7_measure) (mY mX7_measure) (mY mX7_measure) ∈ aT := ⟨aT_in (List.mem_of_getElem? (i := 762) (by decide +kernel)) rfl, aT_in (List.mem_of_getElem? (i := 763) (by decide +kernel)) rfl⟩
def mX7_write : aM := (yX7_write, cX7_write, 4, (some .int), RX7, { frames := 1, cells := 0, slots := 0, locals := 23 })
theorem oX7_write : aOk mX7_write 3 := ⟨aT_in (List.mem_of_getElem? (i := 768) (by decide +kernel)) rfl, rfl, pnX7, mhX7, ⟨rfl, rfl⟩, by decide +kernel, aT_in (List.mem_of_getElem? (i := 58) (by decide +kernel)) rfl⟩
theorem ivX7_write : Cond.instanceMethod (mY mX7_write) ∈ aT ∧ Cond.selects (mO mX7_write) (mY mX7_write) (mY mX7_write) ∈ aT := ⟨aT_in (List.mem_of_getElem? (i := 766) (by decide +kernel)) rfl, aT_in (List.mem_of_getElem? (i := 767) (by decide +kernel)) rfl⟩
def mX7_judge : aM := (yX7_judge, cX7_judge, 1, (some .int), RX7, { frames := 4, cells := 0, slots := 0, locals := 92 })
theorem oX7_judge : aOk mX7_judge 0 := ⟨aT_in (List.mem_of_getElem? (i := 777) (by decide +kernel)) rfl, rfl, pnX7, mhX7, ⟨rfl, rfl⟩, by decide +kernel, aT_in (List.mem_of_getElem? (i := 58) (by decide +kernel)) rfl⟩
theorem ivX7_judge : Cond.instanceMethod (mY mX7_judge) ∈ aT ∧ Cond.selects (mO mX7_judge) (mY mX7_judge) (mY mX7_judge) ∈ aT := ⟨aT_in (List.mem_of_getElem? (i := 775) (by decide +kernel)) rfl, aT_in (List.mem_of_getElem? (i := 776) (by decide +kernel)) rfl⟩
def mX7_tear : aM := (yX7_tear, cX7_tear, 2, (some .int), RX7, { frames := 2, cells := 0, slots := 0, locals := 42 })
theorem oX7_tear : aOk mX7_tear 0 := ⟨aT_in (List.mem_of_getElem? (i := 787) (by decide +kernel)) rfl, rfl, pnX7, mhX7, ⟨rfl, rfl⟩, by decide +kernel, aT_in (List.mem_of_getElem? (i := 58) (by decide +kernel)) rfl⟩
theorem ivX7_tear : Cond.instanceMethod (mY mX7_tear) ∈ aT ∧ Cond.selects (mO mX7_tear) (mY mX7_tear) (mY mX7_tear) ∈ aT := ⟨aT_in (List.mem_of_getElem? (i := 785) (by decide +kernel)) rfl, aT_in (List.mem_of_getElem? (i := 786) (by decide +kernel)) rfl⟩
def mX7_seed : aM := (yX7_seed, cX7_seed, 3, (some .int), RX7, { frames := 0, cells := 0, slots := 0, locals := 0 })
theorem oX7_seed : aOk mX7_seed 1 := ⟨aT_in (List.mem_of_getElem? (i := 791) (by decide +kernel)) rfl, rfl, pnX7, mhX7, ⟨rfl, rfl⟩, by decide +kernel, aT_in (List.mem_of_getElem? (i := 58) (by decide +kernel)) rfl⟩
theorem ivX7_seed : Cond.instanceMethod (mY mX7_seed) ∈ aT ∧ Cond.selects (mO mX7_seed) (mY mX7_seed) (mY mX7_seed) ∈ aT := ⟨aT_in (List.mem_of_getElem? (i := 789) (by decide +kernel)) rfl, aT_in (List.mem_of_getElem? (i := 790) (by decide +kernel)) rfl⟩
def mX7_isImage : aM := (yX7_isImage, cX7_isImage, 1, (some .boolean), RX7, { frames := 0, cells := 0, slots := 0, locals := 0 })
theorem oX7_isImage : aOk mX7_isImage 1 := ⟨aT_in (List.mem_of_getElem? (i := 798) (by decide +kernel)) rfl, rfl, pnX7, mhX7, ⟨rfl, rfl⟩, by decide +kernel, aT_in (List.mem_of_getElem? (i := 58) (by decide +kernel)) rfl⟩
theorem isX7_isImage : Cond.static (mY mX7_isImage) ∈ aT := aT_in (List.mem_of_getElem? (i := 797) (by decide +kernel)) rfl
def mX7_imageOf : aM := (yX7_imageOf, cX7_imageOf, 2, (some (.object "WeatherHand$Archive")), RX7, { frames := 0, cells := 0, slots := 0, locals := 0 })
theorem oX7_imageOf : aOk mX7_imageOf 1 := ⟨aT_in (List.mem_of_getElem? (i := 802) (by decide +kernel)) rfl, rfl, pnX7, mhX7, ⟨rfl, rfl⟩, by decide +kernel, aT_in (List.mem_of_getElem? (i := 58) (by decide +kernel)) rfl⟩
theorem ivX7_imageOf : Cond.instanceMethod (mY mX7_imageOf) ∈ aT ∧ Cond.selects (mO mX7_imageOf) (mY mX7_imageOf) (mY mX7_imageOf) ∈ aT := ⟨aT_in (List.mem_of_getElem? (i := 801) (by decide +kernel)) rfl, aT_in (List.mem_of_getElem? (i := 18) (by decide +kernel)) rfl⟩
def mX7_keep : aM := (yX7_keep, cX7_keep, 3, (some .int), RX7, { frames := 2, cells := 0, slots := 0, locals := 61 })
theorem oX7_keep : aOk mX7_keep 1 := ⟨aT_in (List.mem_of_getElem? (i := 795) (by decide +kernel)) rfl, rfl, pnX7, mhX7, ⟨rfl, rfl⟩, by decide +kernel, aT_in (List.mem_of_getElem? (i := 58) (by decide +kernel)) rfl⟩
theorem ivX7_keep : Cond.instanceMethod (mY mX7_keep) ∈ aT ∧ Cond.selects (mO mX7_keep) (mY mX7_keep) (mY mX7_keep) ∈ aT := ⟨aT_in (List.mem_of_getElem? (i := 793) (by decide +kernel)) rfl, aT_in (List.mem_of_getElem? (i := 794) (by decide +kernel)) rfl⟩
def mX7_goBack : aM := (yX7_goBack, cX7_goBack, 3, (some .int), RX7, { frames := 2, cells := 0, slots := 0, locals := 61 })
theorem oX7_goBack : aOk mX7_goBack 1 := ⟨aT_in (List.mem_of_getElem? (i := 813) (by decide +kernel)) rfl, rfl, pnX7, mhX7, ⟨rfl, rfl⟩, by decide +kernel, aT_in (List.mem_of_getElem? (i := 58) (by decide +kernel)) rfl⟩
theorem ivX7_goBack : Cond.instanceMethod (mY mX7_goBack) ∈ aT ∧ Cond.selects (mO mX7_goBack) (mY mX7_goBack) (mY mX7_goBack) ∈ aT := ⟨aT_in (List.mem_of_getElem? (i := 811) (by decide +kernel)) rfl, aT_in (List.mem_of_getElem? (i := 812) (by decide +kernel)) rfl⟩
def mX8_in : aM := (yX8_in, cX8_in, 6, (some .boolean), RX8, { frames := 0, cells := 0, slots := 0, locals := 0 })
theorem oX8_in : aOk mX8_in 3 := ⟨aT_in (List.mem_of_getElem? (i := 928) (by decide +kernel)) rfl, rfl, pnX8, mhX8, ⟨rfl, rfl⟩, by decide +kernel, aT_in (List.mem_of_getElem? (i := 66) (by decide +kernel)) rfl⟩
theorem isX8_in : Cond.static (mY mX8_in) ∈ aT := aT_in (List.mem_of_getElem? (i := 927) (by decide +kernel)) rfl
def mX8_one : aM := (yX8_one, cX8_one, 1, (some .int), RX8, { frames := 0, cells := 0, slots := 0, locals := 0 })
theorem oX8_one : aOk mX8_one 1 := ⟨aT_in (List.mem_of_getElem? (i := 996) (by decide +kernel)) rfl, rfl, pnX8, mhX8, ⟨rfl, rfl⟩, by decide +kernel, aT_in (List.mem_of_getElem? (i := 66) (by decide +kernel)) rfl⟩
theorem isX8_one : Cond.static (mY mX8_one) ∈ aT := aT_in (List.mem_of_getElem? (i := 995) (by decide +kernel)) rfl
def mX8_has : aM := (yX8_has, cX8_has, 2, (some .boolean), RX8, { frames := 0, cells := 0, slots := 0, locals := 0 })
theorem oX8_has : aOk mX8_has 2 := ⟨aT_in (List.mem_of_getElem? (i := 1155) (by decide +kernel)) rfl, rfl, pnX8, mhX8, ⟨rfl, rfl⟩, by decide +kernel, aT_in (List.mem_of_getElem? (i := 66) (by decide +kernel)) rfl⟩
theorem isX8_has : Cond.static (mY mX8_has) ∈ aT := aT_in (List.mem_of_getElem? (i := 1154) (by decide +kernel)) rfl
def mX8_ones : aM := (yX8_ones, cX8_ones, 3, (some .int), RX8, { frames := 0, cells := 0, slots := 0, locals := 0 })
theorem oX8_ones : aOk mX8_ones 1 := ⟨aT_in (List.mem_of_getElem? (i := 1208) (by decide +kernel)) rfl, rfl, pnX8, mhX8, ⟨rfl, rfl⟩, by decide +kernel, aT_in (List.mem_of_getElem? (i := 66) (by decide +kernel)) rfl⟩
theorem isX8_ones : Cond.static (mY mX8_ones) ∈ aT := aT_in (List.mem_of_getElem? (i := 1207) (by decide +kernel)) rfl
def mX8_feed : aM := (yX8_feed, cX8_feed, 2, (some .int), RX8, { frames := 1, cells := 0, slots := 0, locals := 25 })
theorem oX8_feed : aOk mX8_feed 1 := ⟨aT_in (List.mem_of_getElem? (i := 924) (by decide +kernel)) rfl, rfl, pnX8, mhX8, ⟨rfl, rfl⟩, by decide +kernel, aT_in (List.mem_of_getElem? (i := 66) (by decide +kernel)) rfl⟩
theorem ivX8_feed : Cond.instanceMethod (mY mX8_feed) ∈ aT ∧ Cond.selects (mO mX8_feed) (mY mX8_feed) (mY mX8_feed) ∈ aT := ⟨aT_in (List.mem_of_getElem? (i := 922) (by decide +kernel)) rfl, aT_in (List.mem_of_getElem? (i := 923) (by decide +kernel)) rfl⟩
def mX8_here : aM := (yX8_here, cX8_here, 1, (some .int), RX8, { frames := 0, cells := 0, slots := 0, locals := 0 })
theorem oX8_here : aOk mX8_here 0 := ⟨aT_in (List.mem_of_getElem? (i := 938) (by decide +kernel)) rfl, rfl, pnX8, mhX8, ⟨rfl, rfl⟩, by decide +kernel, aT_in (List.mem_of_getElem? (i := 66) (by decide +kernel)) rfl⟩
theorem ivX8_here : Cond.instanceMethod (mY mX8_here) ∈ aT ∧ Cond.selects (mO mX8_here) (mY mX8_here) (mY mX8_here) ∈ aT := ⟨aT_in (List.mem_of_getElem? (i := 937) (by decide +kernel)) rfl, aT_in (List.mem_of_getElem? (i := 19) (by decide +kernel)) rfl⟩
def mX8_want : aM := (yX8_want, cX8_want, 4, (some .boolean), RX8, { frames := 0, cells := 0, slots := 0, locals := 0 })
theorem oX8_want : aOk mX8_want 3 := ⟨aT_in (List.mem_of_getElem? (i := 946) (by decide +kernel)) rfl, rfl, pnX8, mhX8, ⟨rfl, rfl⟩, by decide +kernel, aT_in (List.mem_of_getElem? (i := 66) (by decide +kernel)) rfl⟩
theorem ivX8_want : Cond.instanceMethod (mY mX8_want) ∈ aT ∧ Cond.selects (mO mX8_want) (mY mX8_want) (mY mX8_want) ∈ aT := ⟨aT_in (List.mem_of_getElem? (i := 945) (by decide +kernel)) rfl, aT_in (List.mem_of_getElem? (i := 21) (by decide +kernel)) rfl⟩
def mX8_takeNumber : aM := (yX8_takeNumber, cX8_takeNumber, 4, (some .int), RX8, { frames := 1, cells := 0, slots := 0, locals := 25 })
theorem oX8_takeNumber : aOk mX8_takeNumber 0 := ⟨aT_in (List.mem_of_getElem? (i := 958) (by decide +kernel)) rfl, rfl, pnX8, mhX8, ⟨rfl, rfl⟩, by decide +kernel, aT_in (List.mem_of_getElem? (i := 66) (by decide +kernel)) rfl⟩
theorem ivX8_takeNumber : Cond.instanceMethod (mY mX8_takeNumber) ∈ aT ∧ Cond.selects (mO mX8_takeNumber) (mY mX8_takeNumber) (mY mX8_takeNumber) ∈ aT := ⟨aT_in (List.mem_of_getElem? (i := 957) (by decide +kernel)) rfl, aT_in (List.mem_of_getElem? (i := 24) (by decide +kernel)) rfl⟩
def mX8_takeIn : aM := (yX8_takeIn, cX8_takeIn, 5, (some .int), RX8, { frames := 2, cells := 0, slots := 0, locals := 48 })
theorem oX8_takeIn : aOk mX8_takeIn 2 := ⟨aT_in (List.mem_of_getElem? (i := 954) (by decide +kernel)) rfl, rfl, pnX8, mhX8, ⟨rfl, rfl⟩, by decide +kernel, aT_in (List.mem_of_getElem? (i := 66) (by decide +kernel)) rfl⟩
theorem ivX8_takeIn : Cond.instanceMethod (mY mX8_takeIn) ∈ aT ∧ Cond.selects (mO mX8_takeIn) (mY mX8_takeIn) (mY mX8_takeIn) ∈ aT := ⟨aT_in (List.mem_of_getElem? (i := 953) (by decide +kernel)) rfl, aT_in (List.mem_of_getElem? (i := 23) (by decide +kernel)) rfl⟩
def mX8_takeValley : aM := (yX8_takeValley, cX8_takeValley, 2, none, RX8, { frames := 3, cells := 0, slots := 0, locals := 72 })
theorem oX8_takeValley : aOk mX8_takeValley 1 := ⟨aT_in (List.mem_of_getElem? (i := 950) (by decide +kernel)) rfl, rfl, pnX8, mhX8, ⟨rfl, rfl⟩, by decide +kernel, aT_in (List.mem_of_getElem? (i := 66) (by decide +kernel)) rfl⟩
theorem ivX8_takeValley : Cond.instanceMethod (mY mX8_takeValley) ∈ aT ∧ Cond.selects (mO mX8_takeValley) (mY mX8_takeValley) (mY mX8_takeValley) ∈ aT := ⟨aT_in (List.mem_of_getElem? (i := 949) (by decide +kernel)) rfl, aT_in (List.mem_of_getElem? (i := 22) (by decide +kernel)) rfl⟩
def mX8_takeRains : aM := (yX8_takeRains, cX8_takeRains, 3, none, RX8, { frames := 3, cells := 0, slots := 0, locals := 72 })
theorem oX8_takeRains : aOk mX8_takeRains 1 := ⟨aT_in (List.mem_of_getElem? (i := 965) (by decide +kernel)) rfl, rfl, pnX8, mhX8, ⟨rfl, rfl⟩, by decide +kernel, aT_in (List.mem_of_getElem? (i := 66) (by decide +kernel)) rfl⟩
theorem ivX8_takeRains : Cond.instanceMethod (mY mX8_takeRains) ∈ aT ∧ Cond.selects (mO mX8_takeRains) (mY mX8_takeRains) (mY mX8_takeRains) ∈ aT := ⟨aT_in (List.mem_of_getElem? (i := 964) (by decide +kernel)) rfl, aT_in (List.mem_of_getElem? (i := 25) (by decide +kernel)) rfl⟩
def mX8_takeHand : aM := (yX8_takeHand, cX8_takeHand, 2, none, RX8, { frames := 3, cells := 0, slots := 0, locals := 72 })
theorem oX8_takeHand : aOk mX8_takeHand 1 := ⟨aT_in (List.mem_of_getElem? (i := 969) (by decide +kernel)) rfl, rfl, pnX8, mhX8, ⟨rfl, rfl⟩, by decide +kernel, aT_in (List.mem_of_getElem? (i := 66) (by decide +kernel)) rfl⟩
theorem ivX8_takeHand : Cond.instanceMethod (mY mX8_takeHand) ∈ aT ∧ Cond.selects (mO mX8_takeHand) (mY mX8_takeHand) (mY mX8_takeHand) ∈ aT := ⟨aT_in (List.mem_of_getElem? (i := 968) (by decide +kernel)) rfl, aT_in (List.mem_of_getElem? (i := 26) (by decide +kernel)) rfl⟩
def mX8_takePaper : aM := (yX8_takePaper, cX8_takePaper, 2, none, RX8, { frames := 3, cells := 0, slots := 0, locals := 72 })
theorem oX8_takePaper : aOk mX8_takePaper 1 := ⟨aT_in (List.mem_of_getElem? (i := 973) (by decide +kernel)) rfl, rfl, pnX8, mhX8, ⟨rfl, rfl⟩, by decide +kernel, aT_in (List.mem_of_getElem? (i := 66) (by decide +kernel)) rfl⟩
theorem ivX8_takePaper : Cond.instanceMethod (mY mX8_takePaper) ∈ aT ∧ Cond.selects (mO mX8_takePaper) (mY mX8_takePaper) (mY mX8_takePaper) ∈ aT := ⟨aT_in (List.mem_of_getElem? (i := 972) (by decide +kernel)) rfl, aT_in (List.mem_of_getElem? (i := 27) (by decide +kernel)) rfl⟩
def mX8_takeClause : aM := (yX8_takeClause, cX8_takeClause, 3, none, RX8, { frames := 4, cells := 0, slots := 0, locals := 94 })
theorem oX8_takeClause : aOk mX8_takeClause 0 := ⟨aT_in (List.mem_of_getElem? (i := 942) (by decide +kernel)) rfl, rfl, pnX8, mhX8, ⟨rfl, rfl⟩, by decide +kernel, aT_in (List.mem_of_getElem? (i := 66) (by decide +kernel)) rfl⟩
theorem ivX8_takeClause : Cond.instanceMethod (mY mX8_takeClause) ∈ aT ∧ Cond.selects (mO mX8_takeClause) (mY mX8_takeClause) (mY mX8_takeClause) ∈ aT := ⟨aT_in (List.mem_of_getElem? (i := 941) (by decide +kernel)) rfl, aT_in (List.mem_of_getElem? (i := 20) (by decide +kernel)) rfl⟩
def mX8_takeHands : aM := (yX8_takeHands, cX8_takeHands, 2, none, RX8, { frames := 0, cells := 0, slots := 0, locals := 0 })
theorem oX8_takeHands : aOk mX8_takeHands 0 := ⟨aT_in (List.mem_of_getElem? (i := 981) (by decide +kernel)) rfl, rfl, pnX8, mhX8, ⟨rfl, rfl⟩, by decide +kernel, aT_in (List.mem_of_getElem? (i := 66) (by decide +kernel)) rfl⟩
theorem ivX8_takeHands : Cond.instanceMethod (mY mX8_takeHands) ∈ aT ∧ Cond.selects (mO mX8_takeHands) (mY mX8_takeHands) (mY mX8_takeHands) ∈ aT := ⟨aT_in (List.mem_of_getElem? (i := 980) (by decide +kernel)) rfl, aT_in (List.mem_of_getElem? (i := 29) (by decide +kernel)) rfl⟩
def mX8_put : aM := (yX8_put, cX8_put, 5, none, RX8, { frames := 0, cells := 0, slots := 0, locals := 0 })
theorem oX8_put : aOk mX8_put 4 := ⟨aT_in (List.mem_of_getElem? (i := 985) (by decide +kernel)) rfl, rfl, pnX8, mhX8, ⟨rfl, rfl⟩, by decide +kernel, aT_in (List.mem_of_getElem? (i := 66) (by decide +kernel)) rfl⟩
theorem ivX8_put : Cond.instanceMethod (mY mX8_put) ∈ aT ∧ Cond.selects (mO mX8_put) (mY mX8_put) (mY mX8_put) ∈ aT := ⟨aT_in (List.mem_of_getElem? (i := 984) (by decide +kernel)) rfl, aT_in (List.mem_of_getElem? (i := 30) (by decide +kernel)) rfl⟩
def mX8_take : aM := (yX8_take, cX8_take, 3, none, RX8, { frames := 1, cells := 0, slots := 0, locals := 24 })
theorem oX8_take : aOk mX8_take 0 := ⟨aT_in (List.mem_of_getElem? (i := 977) (by decide +kernel)) rfl, rfl, pnX8, mhX8, ⟨rfl, rfl⟩, by decide +kernel, aT_in (List.mem_of_getElem? (i := 66) (by decide +kernel)) rfl⟩
theorem ivX8_take : Cond.instanceMethod (mY mX8_take) ∈ aT ∧ Cond.selects (mO mX8_take) (mY mX8_take) (mY mX8_take) ∈ aT := ⟨aT_in (List.mem_of_getElem? (i := 976) (by decide +kernel)) rfl, aT_in (List.mem_of_getElem? (i := 28) (by decide +kernel)) rfl⟩
def mX8_valley : aM := (yX8_valley, cX8_valley, 2, (some .int), RX8, { frames := 5, cells := 0, slots := 0, locals := 116 })
theorem oX8_valley : aOk mX8_valley 0 := ⟨aT_in (List.mem_of_getElem? (i := 934) (by decide +kernel)) rfl, rfl, pnX8, mhX8, ⟨rfl, rfl⟩, by decide +kernel, aT_in (List.mem_of_getElem? (i := 66) (by decide +kernel)) rfl⟩
theorem ivX8_valley : Cond.instanceMethod (mY mX8_valley) ∈ aT ∧ Cond.selects (mO mX8_valley) (mY mX8_valley) (mY mX8_valley) ∈ aT := ⟨aT_in (List.mem_of_getElem? (i := 932) (by decide +kernel)) rfl, aT_in (List.mem_of_getElem? (i := 933) (by decide +kernel)) rfl⟩
def mX8_fault : aM := (yX8_fault, cX8_fault, 1, (some .int), RX8, { frames := 0, cells := 0, slots := 0, locals := 0 })
theorem oX8_fault : aOk mX8_fault 0 := ⟨aT_in (List.mem_of_getElem? (i := 989) (by decide +kernel)) rfl, rfl, pnX8, mhX8, ⟨rfl, rfl⟩, by decide +kernel, aT_in (List.mem_of_getElem? (i := 66) (by decide +kernel)) rfl⟩
theorem ivX8_fault : Cond.instanceMethod (mY mX8_fault) ∈ aT ∧ Cond.selects (mO mX8_fault) (mY mX8_fault) (mY mX8_fault) ∈ aT := ⟨aT_in (List.mem_of_getElem? (i := 987) (by decide +kernel)) rfl, aT_in (List.mem_of_getElem? (i := 988) (by decide +kernel)) rfl⟩
def mX8_isHand : aM := (yX8_isHand, cX8_isHand, 2, (some .boolean), RX8, { frames := 1, cells := 0, slots := 0, locals := 25 })
theorem oX8_isHand : aOk mX8_isHand 1 := ⟨aT_in (List.mem_of_getElem? (i := 1030) (by decide +kernel)) rfl, rfl, pnX8, mhX8, ⟨rfl, rfl⟩, by decide +kernel, aT_in (List.mem_of_getElem? (i := 66) (by decide +kernel)) rfl⟩
theorem ivX8_isHand : Cond.instanceMethod (mY mX8_isHand) ∈ aT ∧ Cond.selects (mO mX8_isHand) (mY mX8_isHand) (mY mX8_isHand) ∈ aT := ⟨aT_in (List.mem_of_getElem? (i := 1029) (by decide +kernel)) rfl, aT_in (List.mem_of_getElem? (i := 35) (by decide +kernel)) rfl⟩
def mX8_isPaper : aM := (yX8_isPaper, cX8_isPaper, 2, (some .boolean), RX8, { frames := 1, cells := 0, slots := 0, locals := 25 })
theorem oX8_isPaper : aOk mX8_isPaper 1 := ⟨aT_in (List.mem_of_getElem? (i := 1039) (by decide +kernel)) rfl, rfl, pnX8, mhX8, ⟨rfl, rfl⟩, by decide +kernel, aT_in (List.mem_of_getElem? (i := 66) (by decide +kernel)) rfl⟩
theorem ivX8_isPaper : Cond.instanceMethod (mY mX8_isPaper) ∈ aT ∧ Cond.selects (mO mX8_isPaper) (mY mX8_isPaper) (mY mX8_isPaper) ∈ aT := ⟨aT_in (List.mem_of_getElem? (i := 1038) (by decide +kernel)) rfl, aT_in (List.mem_of_getElem? (i := 36) (by decide +kernel)) rfl⟩
def mX8_isLetter : aM := (yX8_isLetter, cX8_isLetter, 3, (some .boolean), RX8, { frames := 2, cells := 0, slots := 0, locals := 46 })
theorem oX8_isLetter : aOk mX8_isLetter 2 := ⟨aT_in (List.mem_of_getElem? (i := 1043) (by decide +kernel)) rfl, rfl, pnX8, mhX8, ⟨rfl, rfl⟩, by decide +kernel, aT_in (List.mem_of_getElem? (i := 66) (by decide +kernel)) rfl⟩
theorem ivX8_isLetter : Cond.instanceMethod (mY mX8_isLetter) ∈ aT ∧ Cond.selects (mO mX8_isLetter) (mY mX8_isLetter) (mY mX8_isLetter) ∈ aT := ⟨aT_in (List.mem_of_getElem? (i := 1042) (by decide +kernel)) rfl, aT_in (List.mem_of_getElem? (i := 37) (by decide +kernel)) rfl⟩
def mX8_isHour : aM := (yX8_isHour, cX8_isHour, 1, (some .boolean), RX8, { frames := 1, cells := 0, slots := 0, locals := 25 })
theorem oX8_isHour : aOk mX8_isHour 1 := ⟨aT_in (List.mem_of_getElem? (i := 1007) (by decide +kernel)) rfl, rfl, pnX8, mhX8, ⟨rfl, rfl⟩, by decide +kernel, aT_in (List.mem_of_getElem? (i := 66) (by decide +kernel)) rfl⟩
theorem isX8_isHour : Cond.static (mY mX8_isHour) ∈ aT := aT_in (List.mem_of_getElem? (i := 1006) (by decide +kernel)) rfl
def mX8_allLetters : aM := (yX8_allLetters, cX8_allLetters, 3, (some .int), RX8, { frames := 0, cells := 0, slots := 0, locals := 0 })
theorem oX8_allLetters : aOk mX8_allLetters 0 := ⟨aT_in (List.mem_of_getElem? (i := 1000) (by decide +kernel)) rfl, rfl, pnX8, mhX8, ⟨rfl, rfl⟩, by decide +kernel, aT_in (List.mem_of_getElem? (i := 66) (by decide +kernel)) rfl⟩
theorem ivX8_allLetters : Cond.instanceMethod (mY mX8_allLetters) ∈ aT ∧ Cond.selects (mO mX8_allLetters) (mY mX8_allLetters) (mY mX8_allLetters) ∈ aT := ⟨aT_in (List.mem_of_getElem? (i := 999) (by decide +kernel)) rfl, aT_in (List.mem_of_getElem? (i := 31) (by decide +kernel)) rfl⟩
def mX8_told : aM := (yX8_told, cX8_told, 2, (some .int), RX8, { frames := 1, cells := 0, slots := 0, locals := 22 })
theorem oX8_told : aOk mX8_told 1 := ⟨aT_in (List.mem_of_getElem? (i := 993) (by decide +kernel)) rfl, rfl, pnX8, mhX8, ⟨rfl, rfl⟩, by decide +kernel, aT_in (List.mem_of_getElem? (i := 66) (by decide +kernel)) rfl⟩
theorem ivX8_told : Cond.instanceMethod (mY mX8_told) ∈ aT ∧ Cond.selects (mO mX8_told) (mY mX8_told) (mY mX8_told) ∈ aT := ⟨aT_in (List.mem_of_getElem? (i := 991) (by decide +kernel)) rfl, aT_in (List.mem_of_getElem? (i := 992) (by decide +kernel)) rfl⟩
def mX8_rainOf : aM := (yX8_rainOf, cX8_rainOf, 2, (some .int), RX8, { frames := 0, cells := 0, slots := 0, locals := 0 })
theorem oX8_rainOf : aOk mX8_rainOf 1 := ⟨aT_in (List.mem_of_getElem? (i := 1014) (by decide +kernel)) rfl, rfl, pnX8, mhX8, ⟨rfl, rfl⟩, by decide +kernel, aT_in (List.mem_of_getElem? (i := 66) (by decide +kernel)) rfl⟩
theorem ivX8_rainOf : Cond.instanceMethod (mY mX8_rainOf) ∈ aT ∧ Cond.selects (mO mX8_rainOf) (mY mX8_rainOf) (mY mX8_rainOf) ∈ aT := ⟨aT_in (List.mem_of_getElem? (i := 1013) (by decide +kernel)) rfl, aT_in (List.mem_of_getElem? (i := 32) (by decide +kernel)) rfl⟩
def mX8_dampBy : aM := (yX8_dampBy, cX8_dampBy, 5, (some .int), RX8, { frames := 0, cells := 0, slots := 0, locals := 0 })
theorem oX8_dampBy : aOk mX8_dampBy 2 := ⟨aT_in (List.mem_of_getElem? (i := 1018) (by decide +kernel)) rfl, rfl, pnX8, mhX8, ⟨rfl, rfl⟩, by decide +kernel, aT_in (List.mem_of_getElem? (i := 66) (by decide +kernel)) rfl⟩
theorem ivX8_dampBy : Cond.instanceMethod (mY mX8_dampBy) ∈ aT ∧ Cond.selects (mO mX8_dampBy) (mY mX8_dampBy) (mY mX8_dampBy) ∈ aT := ⟨aT_in (List.mem_of_getElem? (i := 1017) (by decide +kernel)) rfl, aT_in (List.mem_of_getElem? (i := 33) (by decide +kernel)) rfl⟩
def mX8_lightAt : aM := (yX8_lightAt, cX8_lightAt, 2, (some .int), RX8, { frames := 1, cells := 0, slots := 0, locals := 20 })
theorem oX8_lightAt : aOk mX8_lightAt 1 := ⟨aT_in (List.mem_of_getElem? (i := 1022) (by decide +kernel)) rfl, rfl, pnX8, mhX8, ⟨rfl, rfl⟩, by decide +kernel, aT_in (List.mem_of_getElem? (i := 66) (by decide +kernel)) rfl⟩
theorem ivX8_lightAt : Cond.instanceMethod (mY mX8_lightAt) ∈ aT ∧ Cond.selects (mO mX8_lightAt) (mY mX8_lightAt) (mY mX8_lightAt) ∈ aT := ⟨aT_in (List.mem_of_getElem? (i := 1021) (by decide +kernel)) rfl, aT_in (List.mem_of_getElem? (i := 34) (by decide +kernel)) rfl⟩
def mX8_weather : aM := (yX8_weather, cX8_weather, 3, (some .int), RX8, { frames := 2, cells := 0, slots := 0, locals := 45 })
theorem oX8_weather : aOk mX8_weather 2 := ⟨aT_in (List.mem_of_getElem? (i := 1004) (by decide +kernel)) rfl, rfl, pnX8, mhX8, ⟨rfl, rfl⟩, by decide +kernel, aT_in (List.mem_of_getElem? (i := 66) (by decide +kernel)) rfl⟩
theorem ivX8_weather : Cond.instanceMethod (mY mX8_weather) ∈ aT ∧ Cond.selects (mO mX8_weather) (mY mX8_weather) (mY mX8_weather) ∈ aT := ⟨aT_in (List.mem_of_getElem? (i := 1002) (by decide +kernel)) rfl, aT_in (List.mem_of_getElem? (i := 1003) (by decide +kernel)) rfl⟩
def mX8_hand : aM := (yX8_hand, cX8_hand, 3, (some .int), RX8, { frames := 2, cells := 0, slots := 0, locals := 46 })
theorem oX8_hand : aOk mX8_hand 2 := ⟨aT_in (List.mem_of_getElem? (i := 1026) (by decide +kernel)) rfl, rfl, pnX8, mhX8, ⟨rfl, rfl⟩, by decide +kernel, aT_in (List.mem_of_getElem? (i := 66) (by decide +kernel)) rfl⟩
theorem ivX8_hand : Cond.instanceMethod (mY mX8_hand) ∈ aT ∧ Cond.selects (mO mX8_hand) (mY mX8_hand) (mY mX8_hand) ∈ aT := ⟨aT_in (List.mem_of_getElem? (i := 1024) (by decide +kernel)) rfl, aT_in (List.mem_of_getElem? (i := 1025) (by decide +kernel)) rfl⟩
def mX8_lookBy : aM := (yX8_lookBy, cX8_lookBy, 7, (some .int), RX8, { frames := 2, cells := 0, slots := 0, locals := 41 })
theorem oX8_lookBy : aOk mX8_lookBy 3 := ⟨aT_in (List.mem_of_getElem? (i := 1071) (by decide +kernel)) rfl, rfl, pnX8, mhX8, ⟨rfl, rfl⟩, by decide +kernel, aT_in (List.mem_of_getElem? (i := 66) (by decide +kernel)) rfl⟩
theorem ivX8_lookBy : Cond.instanceMethod (mY mX8_lookBy) ∈ aT ∧ Cond.selects (mO mX8_lookBy) (mY mX8_lookBy) (mY mX8_lookBy) ∈ aT := ⟨aT_in (List.mem_of_getElem? (i := 1070) (by decide +kernel)) rfl, aT_in (List.mem_of_getElem? (i := 44) (by decide +kernel)) rfl⟩
def mX8_lookAt : aM := (yX8_lookAt, cX8_lookAt, 3, (some .int), RX8, { frames := 3, cells := 0, slots := 0, locals := 67 })
theorem oX8_lookAt : aOk mX8_lookAt 2 := ⟨aT_in (List.mem_of_getElem? (i := 1067) (by decide +kernel)) rfl, rfl, pnX8, mhX8, ⟨rfl, rfl⟩, by decide +kernel, aT_in (List.mem_of_getElem? (i := 66) (by decide +kernel)) rfl⟩
theorem ivX8_lookAt : Cond.instanceMethod (mY mX8_lookAt) ∈ aT ∧ Cond.selects (mO mX8_lookAt) (mY mX8_lookAt) (mY mX8_lookAt) ∈ aT := ⟨aT_in (List.mem_of_getElem? (i := 1066) (by decide +kernel)) rfl, aT_in (List.mem_of_getElem? (i := 43) (by decide +kernel)) rfl⟩
def mX8_hourOf : aM := (yX8_hourOf, cX8_hourOf, 3, (some .int), RX8, { frames := 0, cells := 0, slots := 0, locals := 0 })
theorem oX8_hourOf : aOk mX8_hourOf 2 := ⟨aT_in (List.mem_of_getElem? (i := 1063) (by decide +kernel)) rfl, rfl, pnX8, mhX8, ⟨rfl, rfl⟩, by decide +kernel, aT_in (List.mem_of_getElem? (i := 66) (by decide +kernel)) rfl⟩
theorem ivX8_hourOf : Cond.instanceMethod (mY mX8_hourOf) ∈ aT ∧ Cond.selects (mO mX8_hourOf) (mY mX8_hourOf) (mY mX8_hourOf) ∈ aT := ⟨aT_in (List.mem_of_getElem? (i := 1062) (by decide +kernel)) rfl, aT_in (List.mem_of_getElem? (i := 42) (by decide +kernel)) rfl⟩
def mX8_handOf : aM := (yX8_handOf, cX8_handOf, 3, (some .int), RX8, { frames := 0, cells := 0, slots := 0, locals := 0 })
theorem oX8_handOf : aOk mX8_handOf 2 := ⟨aT_in (List.mem_of_getElem? (i := 1059) (by decide +kernel)) rfl, rfl, pnX8, mhX8, ⟨rfl, rfl⟩, by decide +kernel, aT_in (List.mem_of_getElem? (i := 66) (by decide +kernel)) rfl⟩
theorem ivX8_handOf : Cond.instanceMethod (mY mX8_handOf) ∈ aT ∧ Cond.selects (mO mX8_handOf) (mY mX8_handOf) (mY mX8_handOf) ∈ aT := ⟨aT_in (List.mem_of_getElem? (i := 1058) (by decide +kernel)) rfl, aT_in (List.mem_of_getElem? (i := 41) (by decide +kernel)) rfl⟩
def mX8_airOf : aM := (yX8_airOf, cX8_airOf, 3, (some .int), RX8, { frames := 0, cells := 0, slots := 0, locals := 0 })
theorem oX8_airOf : aOk mX8_airOf 2 := ⟨aT_in (List.mem_of_getElem? (i := 1051) (by decide +kernel)) rfl, rfl, pnX8, mhX8, ⟨rfl, rfl⟩, by decide +kernel, aT_in (List.mem_of_getElem? (i := 66) (by decide +kernel)) rfl⟩
theorem ivX8_airOf : Cond.instanceMethod (mY mX8_airOf) ∈ aT ∧ Cond.selects (mO mX8_airOf) (mY mX8_airOf) (mY mX8_airOf) ∈ aT := ⟨aT_in (List.mem_of_getElem? (i := 1050) (by decide +kernel)) rfl, aT_in (List.mem_of_getElem? (i := 39) (by decide +kernel)) rfl⟩
def mX8_lookOf : aM := (yX8_lookOf, cX8_lookOf, 4, (some .int), RX8, { frames := 4, cells := 0, slots := 0, locals := 89 })
theorem oX8_lookOf : aOk mX8_lookOf 2 := ⟨aT_in (List.mem_of_getElem? (i := 1055) (by decide +kernel)) rfl, rfl, pnX8, mhX8, ⟨rfl, rfl⟩, by decide +kernel, aT_in (List.mem_of_getElem? (i := 66) (by decide +kernel)) rfl⟩
theorem ivX8_lookOf : Cond.instanceMethod (mY mX8_lookOf) ∈ aT ∧ Cond.selects (mO mX8_lookOf) (mY mX8_lookOf) (mY mX8_lookOf) ∈ aT := ⟨aT_in (List.mem_of_getElem? (i := 1054) (by decide +kernel)) rfl, aT_in (List.mem_of_getElem? (i := 40) (by decide +kernel)) rfl⟩
def mX8_forgedIn : aM := (yX8_forgedIn, cX8_forgedIn, 4, (some .int), RX8, { frames := 1, cells := 0, slots := 0, locals := 22 })
theorem oX8_forgedIn : aOk mX8_forgedIn 1 := ⟨aT_in (List.mem_of_getElem? (i := 1047) (by decide +kernel)) rfl, rfl, pnX8, mhX8, ⟨rfl, rfl⟩, by decide +kernel, aT_in (List.mem_of_getElem? (i := 66) (by decide +kernel)) rfl⟩
theorem ivX8_forgedIn : Cond.instanceMethod (mY mX8_forgedIn) ∈ aT ∧ Cond.selects (mO mX8_forgedIn) (mY mX8_forgedIn) (mY mX8_forgedIn) ∈ aT := ⟨aT_in (List.mem_of_getElem? (i := 1046) (by decide +kernel)) rfl, aT_in (List.mem_of_getElem? (i := 38) (by decide +kernel)) rfl⟩
def mX8_letter : aM := (yX8_letter, cX8_letter, 4, (some .int), RX8, { frames := 5, cells := 0, slots := 0, locals := 112 })
theorem oX8_letter : aOk mX8_letter 3 := ⟨aT_in (List.mem_of_getElem? (i := 1035) (by decide +kernel)) rfl, rfl, pnX8, mhX8, ⟨rfl, rfl⟩, by decide +kernel, aT_in (List.mem_of_getElem? (i := 66) (by decide +kernel)) rfl⟩
theorem ivX8_letter : Cond.instanceMethod (mY mX8_letter) ∈ aT ∧ Cond.selects (mO mX8_letter) (mY mX8_letter) (mY mX8_letter) ∈ aT := ⟨aT_in (List.mem_of_getElem? (i := 1033) (by decide +kernel)) rfl, aT_in (List.mem_of_getElem? (i := 1034) (by decide +kernel)) rfl⟩
def mX8_copy : aM := (yX8_copy, cX8_copy, 4, none, RX8, { frames := 0, cells := 0, slots := 0, locals := 0 })
theorem oX8_copy : aOk mX8_copy 2 := ⟨aT_in (List.mem_of_getElem? (i := 1083) (by decide +kernel)) rfl, rfl, pnX8, mhX8, ⟨rfl, rfl⟩, by decide +kernel, aT_in (List.mem_of_getElem? (i := 66) (by decide +kernel)) rfl⟩
theorem ivX8_copy : Cond.instanceMethod (mY mX8_copy) ∈ aT ∧ Cond.selects (mO mX8_copy) (mY mX8_copy) (mY mX8_copy) ∈ aT := ⟨aT_in (List.mem_of_getElem? (i := 1082) (by decide +kernel)) rfl, aT_in (List.mem_of_getElem? (i := 46) (by decide +kernel)) rfl⟩
def mX8_remember : aM := (yX8_remember, cX8_remember, 2, none, RX8, { frames := 1, cells := 0, slots := 0, locals := 23 })
theorem oX8_remember : aOk mX8_remember 0 := ⟨aT_in (List.mem_of_getElem? (i := 1079) (by decide +kernel)) rfl, rfl, pnX8, mhX8, ⟨rfl, rfl⟩, by decide +kernel, aT_in (List.mem_of_getElem? (i := 66) (by decide +kernel)) rfl⟩
theorem ivX8_remember : Cond.instanceMethod (mY mX8_remember) ∈ aT ∧ Cond.selects (mO mX8_remember) (mY mX8_remember) (mY mX8_remember) ∈ aT := ⟨aT_in (List.mem_of_getElem? (i := 1078) (by decide +kernel)) rfl, aT_in (List.mem_of_getElem? (i := 45) (by decide +kernel)) rfl⟩
def mX8_add : aM := (yX8_add, cX8_add, 5, (some .int), RX8, { frames := 2, cells := 0, slots := 0, locals := 46 })
theorem oX8_add : aOk mX8_add 4 := ⟨aT_in (List.mem_of_getElem? (i := 1075) (by decide +kernel)) rfl, rfl, pnX8, mhX8, ⟨rfl, rfl⟩, by decide +kernel, aT_in (List.mem_of_getElem? (i := 66) (by decide +kernel)) rfl⟩
theorem ivX8_add : Cond.instanceMethod (mY mX8_add) ∈ aT ∧ Cond.selects (mO mX8_add) (mY mX8_add) (mY mX8_add) ∈ aT := ⟨aT_in (List.mem_of_getElem? (i := 1073) (by decide +kernel)) rfl, aT_in (List.mem_of_getElem? (i := 1074) (by decide +kernel)) rfl⟩
def mX8_blot : aM := (yX8_blot, cX8_blot, 2, (some .int), RX8, { frames := 5, cells := 0, slots := 0, locals := 112 })
theorem oX8_blot : aOk mX8_blot 1 := ⟨aT_in (List.mem_of_getElem? (i := 1087) (by decide +kernel)) rfl, rfl, pnX8, mhX8, ⟨rfl, rfl⟩, by decide +kernel, aT_in (List.mem_of_getElem? (i := 66) (by decide +kernel)) rfl⟩
theorem ivX8_blot : Cond.instanceMethod (mY mX8_blot) ∈ aT ∧ Cond.selects (mO mX8_blot) (mY mX8_blot) (mY mX8_blot) ∈ aT := ⟨aT_in (List.mem_of_getElem? (i := 1085) (by decide +kernel)) rfl, aT_in (List.mem_of_getElem? (i := 1086) (by decide +kernel)) rfl⟩
def mX8_bottle : aM := (yX8_bottle, cX8_bottle, 3, (some .int), RX8, { frames := 2, cells := 0, slots := 0, locals := 45 })
theorem oX8_bottle : aOk mX8_bottle 1 := ⟨aT_in (List.mem_of_getElem? (i := 1091) (by decide +kernel)) rfl, rfl, pnX8, mhX8, ⟨rfl, rfl⟩, by decide +kernel, aT_in (List.mem_of_getElem? (i := 66) (by decide +kernel)) rfl⟩
theorem ivX8_bottle : Cond.instanceMethod (mY mX8_bottle) ∈ aT ∧ Cond.selects (mO mX8_bottle) (mY mX8_bottle) (mY mX8_bottle) ∈ aT := ⟨aT_in (List.mem_of_getElem? (i := 1089) (by decide +kernel)) rfl, aT_in (List.mem_of_getElem? (i := 1090) (by decide +kernel)) rfl⟩
def mX8_draw : aM := (yX8_draw, cX8_draw, 2, (some .int), RX8, { frames := 0, cells := 0, slots := 0, locals := 0 })
theorem oX8_draw : aOk mX8_draw 1 := ⟨aT_in (List.mem_of_getElem? (i := 1100) (by decide +kernel)) rfl, rfl, pnX8, mhX8, ⟨rfl, rfl⟩, by decide +kernel, aT_in (List.mem_of_getElem? (i := 66) (by decide +kernel)) rfl⟩
theorem ivX8_draw : Cond.instanceMethod (mY mX8_draw) ∈ aT ∧ Cond.selects (mO mX8_draw) (mY mX8_draw) (mY mX8_draw) ∈ aT := ⟨aT_in (List.mem_of_getElem? (i := 1099) (by decide +kernel)) rfl, aT_in (List.mem_of_getElem? (i := 47) (by decide +kernel)) rfl⟩
def mX8_drift : aM := (yX8_drift, cX8_drift, 7, (some .int), RX8, { frames := 2, cells := 0, slots := 0, locals := 44 })
theorem oX8_drift : aOk mX8_drift 1 := ⟨aT_in (List.mem_of_getElem? (i := 1095) (by decide +kernel)) rfl, rfl, pnX8, mhX8, ⟨rfl, rfl⟩, by decide +kernel, aT_in (List.mem_of_getElem? (i := 66) (by decide +kernel)) rfl⟩
theorem ivX8_drift : Cond.instanceMethod (mY mX8_drift) ∈ aT ∧ Cond.selects (mO mX8_drift) (mY mX8_drift) (mY mX8_drift) ∈ aT := ⟨aT_in (List.mem_of_getElem? (i := 1093) (by decide +kernel)) rfl, aT_in (List.mem_of_getElem? (i := 1094) (by decide +kernel)) rfl⟩
def mX8_undo : aM := (yX8_undo, cX8_undo, 3, (some .int), RX8, { frames := 1, cells := 0, slots := 0, locals := 25 })
theorem oX8_undo : aOk mX8_undo 1 := ⟨aT_in (List.mem_of_getElem? (i := 1108) (by decide +kernel)) rfl, rfl, pnX8, mhX8, ⟨rfl, rfl⟩, by decide +kernel, aT_in (List.mem_of_getElem? (i := 66) (by decide +kernel)) rfl⟩
theorem ivX8_undo : Cond.instanceMethod (mY mX8_undo) ∈ aT ∧ Cond.selects (mO mX8_undo) (mY mX8_undo) (mY mX8_undo) ∈ aT := ⟨aT_in (List.mem_of_getElem? (i := 1106) (by decide +kernel)) rfl, aT_in (List.mem_of_getElem? (i := 1107) (by decide +kernel)) rfl⟩
def mX8_look : aM := (yX8_look, cX8_look, 3, (some .int), RX8, { frames := 4, cells := 0, slots := 0, locals := 89 })
theorem oX8_look : aOk mX8_look 2 := ⟨aT_in (List.mem_of_getElem? (i := 1112) (by decide +kernel)) rfl, rfl, pnX8, mhX8, ⟨rfl, rfl⟩, by decide +kernel, aT_in (List.mem_of_getElem? (i := 66) (by decide +kernel)) rfl⟩
theorem ivX8_look : Cond.instanceMethod (mY mX8_look) ∈ aT ∧ Cond.selects (mO mX8_look) (mY mX8_look) (mY mX8_look) ∈ aT := ⟨aT_in (List.mem_of_getElem? (i := 1110) (by decide +kernel)) rfl, aT_in (List.mem_of_getElem? (i := 1111) (by decide +kernel)) rfl⟩
def mX8_hoursOf : aM := (yX8_hoursOf, cX8_hoursOf, 7, (some .int), RX8, { frames := 4, cells := 0, slots := 0, locals := 89 })
theorem oX8_hoursOf : aOk mX8_hoursOf 3 := ⟨aT_in (List.mem_of_getElem? (i := 1120) (by decide +kernel)) rfl, rfl, pnX8, mhX8, ⟨rfl, rfl⟩, by decide +kernel, aT_in (List.mem_of_getElem? (i := 66) (by decide +kernel)) rfl⟩
theorem ivX8_hoursOf : Cond.instanceMethod (mY mX8_hoursOf) ∈ aT ∧ Cond.selects (mO mX8_hoursOf) (mY mX8_hoursOf) (mY mX8_hoursOf) ∈ aT := ⟨aT_in (List.mem_of_getElem? (i := 1119) (by decide +kernel)) rfl, aT_in (List.mem_of_getElem? (i := 48) (by decide +kernel)) rfl⟩
def mX8_written : aM := (yX8_written, cX8_written, 5, (some .int), RX8, { frames := 5, cells := 0, slots := 0, locals := 115 })
theorem oX8_written : aOk mX8_written 4 := ⟨aT_in (List.mem_of_getElem? (i := 1116) (by decide +kernel)) rfl, rfl, pnX8, mhX8, ⟨rfl, rfl⟩, by decide +kernel, aT_in (List.mem_of_getElem? (i := 66) (by decide +kernel)) rfl⟩
theorem ivX8_written : Cond.instanceMethod (mY mX8_written) ∈ aT ∧ Cond.selects (mO mX8_written) (mY mX8_written) (mY mX8_written) ∈ aT := ⟨aT_in (List.mem_of_getElem? (i := 1114) (by decide +kernel)) rfl, aT_in (List.mem_of_getElem? (i := 1115) (by decide +kernel)) rfl⟩
def mX8_who : aM := (yX8_who, cX8_who, 5, (some .int), RX8, { frames := 5, cells := 0, slots := 0, locals := 115 })
theorem oX8_who : aOk mX8_who 2 := ⟨aT_in (List.mem_of_getElem? (i := 1124) (by decide +kernel)) rfl, rfl, pnX8, mhX8, ⟨rfl, rfl⟩, by decide +kernel, aT_in (List.mem_of_getElem? (i := 66) (by decide +kernel)) rfl⟩
theorem ivX8_who : Cond.instanceMethod (mY mX8_who) ∈ aT ∧ Cond.selects (mO mX8_who) (mY mX8_who) (mY mX8_who) ∈ aT := ⟨aT_in (List.mem_of_getElem? (i := 1122) (by decide +kernel)) rfl, aT_in (List.mem_of_getElem? (i := 1123) (by decide +kernel)) rfl⟩
def mX8_runFrom : aM := (yX8_runFrom, cX8_runFrom, 6, (some .int), RX8, { frames := 5, cells := 0, slots := 0, locals := 112 })
theorem oX8_runFrom : aOk mX8_runFrom 4 := ⟨aT_in (List.mem_of_getElem? (i := 1132) (by decide +kernel)) rfl, rfl, pnX8, mhX8, ⟨rfl, rfl⟩, by decide +kernel, aT_in (List.mem_of_getElem? (i := 66) (by decide +kernel)) rfl⟩
theorem ivX8_runFrom : Cond.instanceMethod (mY mX8_runFrom) ∈ aT ∧ Cond.selects (mO mX8_runFrom) (mY mX8_runFrom) (mY mX8_runFrom) ∈ aT := ⟨aT_in (List.mem_of_getElem? (i := 1131) (by decide +kernel)) rfl, aT_in (List.mem_of_getElem? (i := 49) (by decide +kernel)) rfl⟩
def mX8_dated : aM := (yX8_dated, cX8_dated, 8, (some .int), RX8, { frames := 6, cells := 0, slots := 0, locals := 137 })
theorem oX8_dated : aOk mX8_dated 3 := ⟨aT_in (List.mem_of_getElem? (i := 1128) (by decide +kernel)) rfl, rfl, pnX8, mhX8, ⟨rfl, rfl⟩, by decide +kernel, aT_in (List.mem_of_getElem? (i := 66) (by decide +kernel)) rfl⟩
theorem ivX8_dated : Cond.instanceMethod (mY mX8_dated) ∈ aT ∧ Cond.selects (mO mX8_dated) (mY mX8_dated) (mY mX8_dated) ∈ aT := ⟨aT_in (List.mem_of_getElem? (i := 1126) (by decide +kernel)) rfl, aT_in (List.mem_of_getElem? (i := 1127) (by decide +kernel)) rfl⟩
def mX8_longestRun : aM := (yX8_longestRun, cX8_longestRun, 7, (some .int), RX8, { frames := 6, cells := 0, slots := 0, locals := 137 })
theorem oX8_longestRun : aOk mX8_longestRun 3 := ⟨aT_in (List.mem_of_getElem? (i := 1140) (by decide +kernel)) rfl, rfl, pnX8, mhX8, ⟨rfl, rfl⟩, by decide +kernel, aT_in (List.mem_of_getElem? (i := 66) (by decide +kernel)) rfl⟩
theorem ivX8_longestRun : Cond.instanceMethod (mY mX8_longestRun) ∈ aT ∧ Cond.selects (mO mX8_longestRun) (mY mX8_longestRun) (mY mX8_longestRun) ∈ aT := ⟨aT_in (List.mem_of_getElem? (i := 1139) (by decide +kernel)) rfl, aT_in (List.mem_of_getElem? (i := 50) (by decide +kernel)) rfl⟩
def mX8_addedAt : aM := (yX8_addedAt, cX8_addedAt, 7, (some .int), RX8, { frames := 7, cells := 0, slots := 0, locals := 163 })
theorem oX8_addedAt : aOk mX8_addedAt 3 := ⟨aT_in (List.mem_of_getElem? (i := 1136) (by decide +kernel)) rfl, rfl, pnX8, mhX8, ⟨rfl, rfl⟩, by decide +kernel, aT_in (List.mem_of_getElem? (i := 66) (by decide +kernel)) rfl⟩
theorem ivX8_addedAt : Cond.instanceMethod (mY mX8_addedAt) ∈ aT ∧ Cond.selects (mO mX8_addedAt) (mY mX8_addedAt) (mY mX8_addedAt) ∈ aT := ⟨aT_in (List.mem_of_getElem? (i := 1134) (by decide +kernel)) rfl, aT_in (List.mem_of_getElem? (i := 1135) (by decide +kernel)) rfl⟩
def mX8_couldBegin : aM := (yX8_couldBegin, cX8_couldBegin, 6, (some .boolean), RX8, { frames := 5, cells := 0, slots := 0, locals := 112 })
theorem oX8_couldBegin : aOk mX8_couldBegin 3 := ⟨aT_in (List.mem_of_getElem? (i := 1152) (by decide +kernel)) rfl, rfl, pnX8, mhX8, ⟨rfl, rfl⟩, by decide +kernel, aT_in (List.mem_of_getElem? (i := 66) (by decide +kernel)) rfl⟩
theorem ivX8_couldBegin : Cond.instanceMethod (mY mX8_couldBegin) ∈ aT ∧ Cond.selects (mO mX8_couldBegin) (mY mX8_couldBegin) (mY mX8_couldBegin) ∈ aT := ⟨aT_in (List.mem_of_getElem? (i := 1151) (by decide +kernel)) rfl, aT_in (List.mem_of_getElem? (i := 52) (by decide +kernel)) rfl⟩
def mX8_findBegins : aM := (yX8_findBegins, cX8_findBegins, 5, (some .int), RX8, { frames := 6, cells := 0, slots := 0, locals := 137 })
theorem oX8_findBegins : aOk mX8_findBegins 1 := ⟨aT_in (List.mem_of_getElem? (i := 1148) (by decide +kernel)) rfl, rfl, pnX8, mhX8, ⟨rfl, rfl⟩, by decide +kernel, aT_in (List.mem_of_getElem? (i := 66) (by decide +kernel)) rfl⟩
theorem ivX8_findBegins : Cond.instanceMethod (mY mX8_findBegins) ∈ aT ∧ Cond.selects (mO mX8_findBegins) (mY mX8_findBegins) (mY mX8_findBegins) ∈ aT := ⟨aT_in (List.mem_of_getElem? (i := 1147) (by decide +kernel)) rfl, aT_in (List.mem_of_getElem? (i := 51) (by decide +kernel)) rfl⟩
def mX8_greatestPart : aM := (yX8_greatestPart, cX8_greatestPart, 5, (some .int), RX8, { frames := 4, cells := 0, slots := 0, locals := 89 })
theorem oX8_greatestPart : aOk mX8_greatestPart 1 := ⟨aT_in (List.mem_of_getElem? (i := 1159) (by decide +kernel)) rfl, rfl, pnX8, mhX8, ⟨rfl, rfl⟩, by decide +kernel, aT_in (List.mem_of_getElem? (i := 66) (by decide +kernel)) rfl⟩
theorem ivX8_greatestPart : Cond.instanceMethod (mY mX8_greatestPart) ∈ aT ∧ Cond.selects (mO mX8_greatestPart) (mY mX8_greatestPart) (mY mX8_greatestPart) ∈ aT := ⟨aT_in (List.mem_of_getElem? (i := 1158) (by decide +kernel)) rfl, aT_in (List.mem_of_getElem? (i := 53) (by decide +kernel)) rfl⟩
def mX8_next : aM := (yX8_next, cX8_next, 8, (some .int), RX8, { frames := 7, cells := 0, slots := 0, locals := 161 })
theorem oX8_next : aOk mX8_next 2 := ⟨aT_in (List.mem_of_getElem? (i := 1144) (by decide +kernel)) rfl, rfl, pnX8, mhX8, ⟨rfl, rfl⟩, by decide +kernel, aT_in (List.mem_of_getElem? (i := 66) (by decide +kernel)) rfl⟩
theorem ivX8_next : Cond.instanceMethod (mY mX8_next) ∈ aT ∧ Cond.selects (mO mX8_next) (mY mX8_next) (mY mX8_next) ∈ aT := ⟨aT_in (List.mem_of_getElem? (i := 1142) (by decide +kernel)) rfl, aT_in (List.mem_of_getElem? (i := 1143) (by decide +kernel)) rfl⟩
def mX8_soonest : aM := (yX8_soonest, cX8_soonest, 5, (some .int), RX8, { frames := 4, cells := 0, slots := 0, locals := 89 })
theorem oX8_soonest : aOk mX8_soonest 3 := ⟨aT_in (List.mem_of_getElem? (i := 1163) (by decide +kernel)) rfl, rfl, pnX8, mhX8, ⟨rfl, rfl⟩, by decide +kernel, aT_in (List.mem_of_getElem? (i := 66) (by decide +kernel)) rfl⟩
theorem ivX8_soonest : Cond.instanceMethod (mY mX8_soonest) ∈ aT ∧ Cond.selects (mO mX8_soonest) (mY mX8_soonest) (mY mX8_soonest) ∈ aT := ⟨aT_in (List.mem_of_getElem? (i := 1161) (by decide +kernel)) rfl, aT_in (List.mem_of_getElem? (i := 1162) (by decide +kernel)) rfl⟩
def mX8_likely : aM := (yX8_likely, cX8_likely, 3, (some .int), RX8, { frames := 5, cells := 0, slots := 0, locals := 115 })
theorem oX8_likely : aOk mX8_likely 2 := ⟨aT_in (List.mem_of_getElem? (i := 1168) (by decide +kernel)) rfl, rfl, pnX8, mhX8, ⟨rfl, rfl⟩, by decide +kernel, aT_in (List.mem_of_getElem? (i := 66) (by decide +kernel)) rfl⟩
theorem ivX8_likely : Cond.instanceMethod (mY mX8_likely) ∈ aT ∧ Cond.selects (mO mX8_likely) (mY mX8_likely) (mY mX8_likely) ∈ aT := ⟨aT_in (List.mem_of_getElem? (i := 1166) (by decide +kernel)) rfl, aT_in (List.mem_of_getElem? (i := 1167) (by decide +kernel)) rfl⟩
def mX8_figure : aM := (yX8_figure, cX8_figure, 5, (some .int), RX8, { frames := 0, cells := 0, slots := 0, locals := 0 })
theorem oX8_figure : aOk mX8_figure 3 := ⟨aT_in (List.mem_of_getElem? (i := 1184) (by decide +kernel)) rfl, rfl, pnX8, mhX8, ⟨rfl, rfl⟩, by decide +kernel, aT_in (List.mem_of_getElem? (i := 66) (by decide +kernel)) rfl⟩
theorem isX8_figure : Cond.static (mY mX8_figure) ∈ aT := aT_in (List.mem_of_getElem? (i := 1183) (by decide +kernel)) rfl
def mX8_layFits : aM := (yX8_layFits, cX8_layFits, 5, none, RX8, { frames := 5, cells := 0, slots := 0, locals := 112 })
theorem oX8_layFits : aOk mX8_layFits 0 := ⟨aT_in (List.mem_of_getElem? (i := 1177) (by decide +kernel)) rfl, rfl, pnX8, mhX8, ⟨rfl, rfl⟩, by decide +kernel, aT_in (List.mem_of_getElem? (i := 66) (by decide +kernel)) rfl⟩
theorem ivX8_layFits : Cond.instanceMethod (mY mX8_layFits) ∈ aT ∧ Cond.selects (mO mX8_layFits) (mY mX8_layFits) (mY mX8_layFits) ∈ aT := ⟨aT_in (List.mem_of_getElem? (i := 1176) (by decide +kernel)) rfl, aT_in (List.mem_of_getElem? (i := 54) (by decide +kernel)) rfl⟩
def mX8_fitsBy : aM := (yX8_fitsBy, cX8_fitsBy, 6, (some .int), RX8, { frames := 1, cells := 0, slots := 0, locals := 24 })
theorem oX8_fitsBy : aOk mX8_fitsBy 1 := ⟨aT_in (List.mem_of_getElem? (i := 1181) (by decide +kernel)) rfl, rfl, pnX8, mhX8, ⟨rfl, rfl⟩, by decide +kernel, aT_in (List.mem_of_getElem? (i := 66) (by decide +kernel)) rfl⟩
theorem ivX8_fitsBy : Cond.instanceMethod (mY mX8_fitsBy) ∈ aT ∧ Cond.selects (mO mX8_fitsBy) (mY mX8_fitsBy) (mY mX8_fitsBy) ∈ aT := ⟨aT_in (List.mem_of_getElem? (i := 1180) (by decide +kernel)) rfl, aT_in (List.mem_of_getElem? (i := 55) (by decide +kernel)) rfl⟩
def mX8_hands : aM := (yX8_hands, cX8_hands, 6, (some .int), RX8, { frames := 6, cells := 0, slots := 0, locals := 136 })
theorem oX8_hands : aOk mX8_hands 1 := ⟨aT_in (List.mem_of_getElem? (i := 1173) (by decide +kernel)) rfl, rfl, pnX8, mhX8, ⟨rfl, rfl⟩, by decide +kernel, aT_in (List.mem_of_getElem? (i := 66) (by decide +kernel)) rfl⟩
theorem ivX8_hands : Cond.instanceMethod (mY mX8_hands) ∈ aT ∧ Cond.selects (mO mX8_hands) (mY mX8_hands) (mY mX8_hands) ∈ aT := ⟨aT_in (List.mem_of_getElem? (i := 1171) (by decide +kernel)) rfl, aT_in (List.mem_of_getElem? (i := 1172) (by decide +kernel)) rfl⟩
def mX8_forged : aM := (yX8_forged, cX8_forged, 7, (some .int), RX8, { frames := 5, cells := 0, slots := 0, locals := 112 })
theorem oX8_forged : aOk mX8_forged 2 := ⟨aT_in (List.mem_of_getElem? (i := 1188) (by decide +kernel)) rfl, rfl, pnX8, mhX8, ⟨rfl, rfl⟩, by decide +kernel, aT_in (List.mem_of_getElem? (i := 66) (by decide +kernel)) rfl⟩
theorem ivX8_forged : Cond.instanceMethod (mY mX8_forged) ∈ aT ∧ Cond.selects (mO mX8_forged) (mY mX8_forged) (mY mX8_forged) ∈ aT := ⟨aT_in (List.mem_of_getElem? (i := 1186) (by decide +kernel)) rfl, aT_in (List.mem_of_getElem? (i := 1187) (by decide +kernel)) rfl⟩
def mX8_air : aM := (yX8_air, cX8_air, 4, (some .int), RX8, { frames := 5, cells := 0, slots := 0, locals := 115 })
theorem oX8_air : aOk mX8_air 3 := ⟨aT_in (List.mem_of_getElem? (i := 1192) (by decide +kernel)) rfl, rfl, pnX8, mhX8, ⟨rfl, rfl⟩, by decide +kernel, aT_in (List.mem_of_getElem? (i := 66) (by decide +kernel)) rfl⟩
theorem ivX8_air : Cond.instanceMethod (mY mX8_air) ∈ aT ∧ Cond.selects (mO mX8_air) (mY mX8_air) (mY mX8_air) ∈ aT := ⟨aT_in (List.mem_of_getElem? (i := 1190) (by decide +kernel)) rfl, aT_in (List.mem_of_getElem? (i := 1191) (by decide +kernel)) rfl⟩
def mX8_rained : aM := (yX8_rained, cX8_rained, 7, (some .boolean), RX8, { frames := 5, cells := 0, slots := 0, locals := 112 })
theorem oX8_rained : aOk mX8_rained 2 := ⟨aT_in (List.mem_of_getElem? (i := 1201) (by decide +kernel)) rfl, rfl, pnX8, mhX8, ⟨rfl, rfl⟩, by decide +kernel, aT_in (List.mem_of_getElem? (i := 66) (by decide +kernel)) rfl⟩
theorem ivX8_rained : Cond.instanceMethod (mY mX8_rained) ∈ aT ∧ Cond.selects (mO mX8_rained) (mY mX8_rained) (mY mX8_rained) ∈ aT := ⟨aT_in (List.mem_of_getElem? (i := 1200) (by decide +kernel)) rfl, aT_in (List.mem_of_getElem? (i := 56) (by decide +kernel)) rfl⟩
def mX8_rain : aM := (yX8_rain, cX8_rain, 4, (some .int), RX8, { frames := 6, cells := 0, slots := 0, locals := 138 })
theorem oX8_rain : aOk mX8_rain 1 := ⟨aT_in (List.mem_of_getElem? (i := 1196) (by decide +kernel)) rfl, rfl, pnX8, mhX8, ⟨rfl, rfl⟩, by decide +kernel, aT_in (List.mem_of_getElem? (i := 66) (by decide +kernel)) rfl⟩
theorem ivX8_rain : Cond.instanceMethod (mY mX8_rain) ∈ aT ∧ Cond.selects (mO mX8_rain) (mY mX8_rain) (mY mX8_rain) ∈ aT := ⟨aT_in (List.mem_of_getElem? (i := 1194) (by decide +kernel)) rfl, aT_in (List.mem_of_getElem? (i := 1195) (by decide +kernel)) rfl⟩
def mX8_measure : aM := (yX8_measure, cX8_measure, 3, (some .int), RX8, { frames := 3, cells := 0, slots := 0, locals := 68 })
theorem oX8_measure : aOk mX8_measure 2 := ⟨aT_in (List.mem_of_getElem? (i := 1205) (by decide +kernel)) rfl, rfl, pnX8, mhX8, ⟨rfl, rfl⟩, by decide +kernel, aT_in (List.mem_of_getElem? (i := 66) (by decide +kernel)) rfl⟩
theorem ivX8_measure : Cond.instanceMethod (mY mX8_measure) ∈ aT ∧ Cond.selects (mO mX8_measure) (mY mX8_measure) (mY mX8_measure) ∈ aT := ⟨aT_in (List.mem_of_getElem? (i := 1203) (by decide +kernel)) rfl, aT_in (List.mem_of_getElem? (i := 1204) (by decide +kernel)) rfl⟩
def mX8_write : aM := (yX8_write, cX8_write, 4, (some .int), RX8, { frames := 2, cells := 0, slots := 0, locals := 46 })
theorem oX8_write : aOk mX8_write 3 := ⟨aT_in (List.mem_of_getElem? (i := 1212) (by decide +kernel)) rfl, rfl, pnX8, mhX8, ⟨rfl, rfl⟩, by decide +kernel, aT_in (List.mem_of_getElem? (i := 66) (by decide +kernel)) rfl⟩
theorem ivX8_write : Cond.instanceMethod (mY mX8_write) ∈ aT ∧ Cond.selects (mO mX8_write) (mY mX8_write) (mY mX8_write) ∈ aT := ⟨aT_in (List.mem_of_getElem? (i := 1210) (by decide +kernel)) rfl, aT_in (List.mem_of_getElem? (i := 1211) (by decide +kernel)) rfl⟩
def mX8_judge : aM := (yX8_judge, cX8_judge, 2, (some .int), RX8, { frames := 5, cells := 0, slots := 0, locals := 112 })
theorem oX8_judge : aOk mX8_judge 0 := ⟨aT_in (List.mem_of_getElem? (i := 1217) (by decide +kernel)) rfl, rfl, pnX8, mhX8, ⟨rfl, rfl⟩, by decide +kernel, aT_in (List.mem_of_getElem? (i := 66) (by decide +kernel)) rfl⟩
theorem ivX8_judge : Cond.instanceMethod (mY mX8_judge) ∈ aT ∧ Cond.selects (mO mX8_judge) (mY mX8_judge) (mY mX8_judge) ∈ aT := ⟨aT_in (List.mem_of_getElem? (i := 1215) (by decide +kernel)) rfl, aT_in (List.mem_of_getElem? (i := 1216) (by decide +kernel)) rfl⟩
def mX8_tear : aM := (yX8_tear, cX8_tear, 3, (some .int), RX8, { frames := 1, cells := 0, slots := 0, locals := 22 })
theorem oX8_tear : aOk mX8_tear 0 := ⟨aT_in (List.mem_of_getElem? (i := 1221) (by decide +kernel)) rfl, rfl, pnX8, mhX8, ⟨rfl, rfl⟩, by decide +kernel, aT_in (List.mem_of_getElem? (i := 66) (by decide +kernel)) rfl⟩
theorem ivX8_tear : Cond.instanceMethod (mY mX8_tear) ∈ aT ∧ Cond.selects (mO mX8_tear) (mY mX8_tear) (mY mX8_tear) ∈ aT := ⟨aT_in (List.mem_of_getElem? (i := 1219) (by decide +kernel)) rfl, aT_in (List.mem_of_getElem? (i := 1220) (by decide +kernel)) rfl⟩
def mX8_seed : aM := (yX8_seed, cX8_seed, 3, (some .int), RX8, { frames := 0, cells := 0, slots := 0, locals := 0 })
theorem oX8_seed : aOk mX8_seed 1 := ⟨aT_in (List.mem_of_getElem? (i := 1225) (by decide +kernel)) rfl, rfl, pnX8, mhX8, ⟨rfl, rfl⟩, by decide +kernel, aT_in (List.mem_of_getElem? (i := 66) (by decide +kernel)) rfl⟩
theorem ivX8_seed : Cond.instanceMethod (mY mX8_seed) ∈ aT ∧ Cond.selects (mO mX8_seed) (mY mX8_seed) (mY mX8_seed) ∈ aT := ⟨aT_in (List.mem_of_getElem? (i := 1223) (by decide +kernel)) rfl, aT_in (List.mem_of_getElem? (i := 1224) (by decide +kernel)) rfl⟩
def mX8_keep : aM := (yX8_keep, cX8_keep, 2, (some .int), RX8, { frames := 1, cells := 0, slots := 0, locals := 25 })
theorem oX8_keep : aOk mX8_keep 1 := ⟨aT_in (List.mem_of_getElem? (i := 1229) (by decide +kernel)) rfl, rfl, pnX8, mhX8, ⟨rfl, rfl⟩, by decide +kernel, aT_in (List.mem_of_getElem? (i := 66) (by decide +kernel)) rfl⟩
theorem ivX8_keep : Cond.instanceMethod (mY mX8_keep) ∈ aT ∧ Cond.selects (mO mX8_keep) (mY mX8_keep) (mY mX8_keep) ∈ aT := ⟨aT_in (List.mem_of_getElem? (i := 1227) (by decide +kernel)) rfl, aT_in (List.mem_of_getElem? (i := 1228) (by decide +kernel)) rfl⟩
def mX8_goBack : aM := (yX8_goBack, cX8_goBack, 2, (some .int), RX8, { frames := 1, cells := 0, slots := 0, locals := 25 })
theorem oX8_goBack : aOk mX8_goBack 1 := ⟨aT_in (List.mem_of_getElem? (i := 1233) (by decide +kernel)) rfl, rfl, pnX8, mhX8, ⟨rfl, rfl⟩, by decide +kernel, aT_in (List.mem_of_getElem? (i := 66) (by decide +kernel)) rfl⟩
theorem ivX8_goBack : Cond.instanceMethod (mY mX8_goBack) ∈ aT ∧ Cond.selects (mO mX8_goBack) (mY mX8_goBack) (mY mX8_goBack) ∈ aT := ⟨aT_in (List.mem_of_getElem? (i := 1231) (by decide +kernel)) rfl, aT_in (List.mem_of_getElem? (i := 1232) (by decide +kernel)) rfl⟩
def mL_law : aM := (yL_law, cL_law, 4, (some .boolean), RL, room_1)
theorem lcJ6_265 : Cond.constant RJ6 265 1431655765 ∈ aT := aT_in (List.mem_of_getElem? (i := 473) (by decide +kernel)) rfl
theorem lcJ6_266 : Cond.constant RJ6 266 858993459 ∈ aT := aT_in (List.mem_of_getElem? (i := 474) (by decide +kernel)) rfl
theorem lcJ6_267 : Cond.constant RJ6 267 252645135 ∈ aT := aT_in (List.mem_of_getElem? (i := 475) (by decide +kernel)) rfl
theorem lcX0_94 : Cond.constant RX0 94 65536 ∈ aT := aT_in (List.mem_of_getElem? (i := 614) (by decide +kernel)) rfl
theorem lcX2_25 : Cond.constant RX2 25 (-1000000004) ∈ aT := aT_in (List.mem_of_getElem? (i := 773) (by decide +kernel)) rfl
theorem lcX5_22 : Cond.constant RX5 22 (-1000000004) ∈ aT := aT_in (List.mem_of_getElem? (i := 350) (by decide +kernel)) rfl
theorem lcX7_143 : Cond.constant RX7 143 (-1000000003) ∈ aT := aT_in (List.mem_of_getElem? (i := 495) (by decide +kernel)) rfl
theorem lcX7_160 : Cond.constant RX7 160 (-1000000001) ∈ aT := aT_in (List.mem_of_getElem? (i := 505) (by decide +kernel)) rfl
theorem lcX7_199 : Cond.constant RX7 199 (-1000000004) ∈ aT := aT_in (List.mem_of_getElem? (i := 567) (by decide +kernel)) rfl
theorem lcX7_260 : Cond.constant RX7 260 1000000 ∈ aT := aT_in (List.mem_of_getElem? (i := 708) (by decide +kernel)) rfl
theorem lcX7_75 : Cond.constant RX7 75 (-1000000002) ∈ aT := aT_in (List.mem_of_getElem? (i := 345) (by decide +kernel)) rfl
theorem lcX8_101 : Cond.constant RX8 101 99999 ∈ aT := aT_in (List.mem_of_getElem? (i := 961) (by decide +kernel)) rfl
theorem lcX8_184 : Cond.constant RX8 184 (-1000000003) ∈ aT := aT_in (List.mem_of_getElem? (i := 1010) (by decide +kernel)) rfl
theorem lcX8_198 : Cond.constant RX8 198 (-1000000001) ∈ aT := aT_in (List.mem_of_getElem? (i := 1031) (by decide +kernel)) rfl
theorem lcX8_238 : Cond.constant RX8 238 65536 ∈ aT := aT_in (List.mem_of_getElem? (i := 1104) (by decide +kernel)) rfl
theorem lcX8_269 : Cond.constant RX8 269 1000000 ∈ aT := aT_in (List.mem_of_getElem? (i := 1169) (by decide +kernel)) rfl
theorem lcX8_75 : Cond.constant RX8 75 (-1000000002) ∈ aT := aT_in (List.mem_of_getElem? (i := 929) (by decide +kernel)) rfl
theorem lcX8_79 : Cond.constant RX8 79 (-1000000004) ∈ aT := aT_in (List.mem_of_getElem? (i := 930) (by decide +kernel)) rfl
theorem llX0_88 : Cond.constantLong RX0 88 1103515245 ∈ aT := aT_in (List.mem_of_getElem? (i := 611) (by decide +kernel)) rfl
theorem llX0_90 : Cond.constantLong RX0 90 12345 ∈ aT := aT_in (List.mem_of_getElem? (i := 612) (by decide +kernel)) rfl
theorem llX0_92 : Cond.constantLong RX0 92 2147483648 ∈ aT := aT_in (List.mem_of_getElem? (i := 613) (by decide +kernel)) rfl
theorem llX8_170 : Cond.constantLong RX8 170 95 ∈ aT := aT_in (List.mem_of_getElem? (i := 1008) (by decide +kernel)) rfl
theorem llX8_182 : Cond.constantLong RX8 182 2 ∈ aT := aT_in (List.mem_of_getElem? (i := 1009) (by decide +kernel)) rfl
theorem llX8_232 : Cond.constantLong RX8 232 1103515245 ∈ aT := aT_in (List.mem_of_getElem? (i := 1101) (by decide +kernel)) rfl
theorem llX8_234 : Cond.constantLong RX8 234 12345 ∈ aT := aT_in (List.mem_of_getElem? (i := 1102) (by decide +kernel)) rfl
theorem llX8_236 : Cond.constantLong RX8 236 2147483648 ∈ aT := aT_in (List.mem_of_getElem? (i := 1103) (by decide +kernel)) rfl
theorem llX8_239 : Cond.constantLong RX8 239 30 ∈ aT := aT_in (List.mem_of_getElem? (i := 1096) (by decide +kernel)) rfl
theorem llX8_267 : Cond.constantLong RX8 267 9999 ∈ aT := aT_in (List.mem_of_getElem? (i := 1164) (by decide +kernel)) rfl
theorem llX8_279 : Cond.constantLong RX8 279 7 ∈ aT := aT_in (List.mem_of_getElem? (i := 1197) (by decide +kernel)) rfl
theorem llX8_287 : Cond.constantLong RX8 287 11 ∈ aT := aT_in (List.mem_of_getElem? (i := 1213) (by decide +kernel)) rfl
theorem llX8_69 : Cond.constantLong RX8 69 255 ∈ aT := aT_in (List.mem_of_getElem? (i := 925) (by decide +kernel)) rfl
theorem llX8_93 : Cond.constantLong RX8 93 48 ∈ aT := aT_in (List.mem_of_getElem? (i := 959) (by decide +kernel)) rfl
theorem llX8_95 : Cond.constantLong RX8 95 57 ∈ aT := aT_in (List.mem_of_getElem? (i := 960) (by decide +kernel)) rfl
theorem lmX0_50 : Cond.methodLink RX0 50 arraycopyName ∈ aT := aT_in (List.mem_of_getElem? (i := 807) (by decide +kernel)) rfl
theorem lfX0_15 : aF RX0 15 0 1 "[I" true := ⟨_, _, _, _, rfl, by decide, rfl, aT_in (List.mem_of_getElem? (i := 110) (by decide +kernel)) rfl⟩
theorem lfX0_18 : aF RX0 18 0 2 "[I" true := ⟨_, _, _, _, rfl, by decide, rfl, aT_in (List.mem_of_getElem? (i := 111) (by decide +kernel)) rfl⟩
theorem lfX0_21 : aF RX0 21 0 3 "[I" true := ⟨_, _, _, _, rfl, by decide, rfl, aT_in (List.mem_of_getElem? (i := 112) (by decide +kernel)) rfl⟩
theorem lfX0_24 : aF RX0 24 0 4 "I" false := ⟨_, _, _, _, rfl, by decide, rfl, aT_in (List.mem_of_getElem? (i := 113) (by decide +kernel)) rfl⟩
theorem lfX0_34 : aF RX0 34 6 11 "[I" true := ⟨_, _, _, _, rfl, by decide, rfl, aT_in (List.mem_of_getElem? (i := 264) (by decide +kernel)) rfl⟩
theorem lfX0_37 : aF RX0 37 6 12 "[I" true := ⟨_, _, _, _, rfl, by decide, rfl, aT_in (List.mem_of_getElem? (i := 267) (by decide +kernel)) rfl⟩
theorem lfX0_40 : aF RX0 40 6 13 "[I" true := ⟨_, _, _, _, rfl, by decide, rfl, aT_in (List.mem_of_getElem? (i := 270) (by decide +kernel)) rfl⟩
theorem lfX0_56 : aF RX0 56 0 5 "I" false := ⟨_, _, _, _, rfl, by decide, rfl, aT_in (List.mem_of_getElem? (i := 116) (by decide +kernel)) rfl⟩
theorem lfX0_9 : aF RX0 9 0 0 "[I" true := ⟨_, _, _, _, rfl, by decide, rfl, aT_in (List.mem_of_getElem? (i := 109) (by decide +kernel)) rfl⟩
theorem lfX1_15 : aF RX1 15 1 1 "[I" true := ⟨_, _, _, _, rfl, by decide, rfl, aT_in (List.mem_of_getElem? (i := 190) (by decide +kernel)) rfl⟩
theorem lfX1_18 : aF RX1 18 1 2 "[I" true := ⟨_, _, _, _, rfl, by decide, rfl, aT_in (List.mem_of_getElem? (i := 191) (by decide +kernel)) rfl⟩
theorem lfX1_21 : aF RX1 21 1 3 "[I" true := ⟨_, _, _, _, rfl, by decide, rfl, aT_in (List.mem_of_getElem? (i := 192) (by decide +kernel)) rfl⟩
theorem lfX1_24 : aF RX1 24 1 4 "I" false := ⟨_, _, _, _, rfl, by decide, rfl, aT_in (List.mem_of_getElem? (i := 193) (by decide +kernel)) rfl⟩
theorem lfX1_34 : aF RX1 34 6 5 "I" false := ⟨_, _, _, _, rfl, by decide, rfl, aT_in (List.mem_of_getElem? (i := 244) (by decide +kernel)) rfl⟩
theorem lfX1_9 : aF RX1 9 1 0 "[I" true := ⟨_, _, _, _, rfl, by decide, rfl, aT_in (List.mem_of_getElem? (i := 189) (by decide +kernel)) rfl⟩
theorem lfX2_15 : aF RX2 15 2 1 "[I" true := ⟨_, _, _, _, rfl, by decide, rfl, aT_in (List.mem_of_getElem? (i := 170) (by decide +kernel)) rfl⟩
theorem lfX2_18 : aF RX2 18 2 2 "[I" true := ⟨_, _, _, _, rfl, by decide, rfl, aT_in (List.mem_of_getElem? (i := 171) (by decide +kernel)) rfl⟩
theorem lfX2_21 : aF RX2 21 2 3 "I" false := ⟨_, _, _, _, rfl, by decide, rfl, aT_in (List.mem_of_getElem? (i := 172) (by decide +kernel)) rfl⟩
theorem lfX2_9 : aF RX2 9 2 0 "[I" true := ⟨_, _, _, _, rfl, by decide, rfl, aT_in (List.mem_of_getElem? (i := 169) (by decide +kernel)) rfl⟩
theorem lfX3_15 : aF RX3 15 3 1 "[I" true := ⟨_, _, _, _, rfl, by decide, rfl, aT_in (List.mem_of_getElem? (i := 141) (by decide +kernel)) rfl⟩
theorem lfX3_18 : aF RX3 18 3 2 "[I" true := ⟨_, _, _, _, rfl, by decide, rfl, aT_in (List.mem_of_getElem? (i := 142) (by decide +kernel)) rfl⟩
theorem lfX3_21 : aF RX3 21 3 3 "[I" true := ⟨_, _, _, _, rfl, by decide, rfl, aT_in (List.mem_of_getElem? (i := 143) (by decide +kernel)) rfl⟩
theorem lfX3_24 : aF RX3 24 3 4 "[I" true := ⟨_, _, _, _, rfl, by decide, rfl, aT_in (List.mem_of_getElem? (i := 144) (by decide +kernel)) rfl⟩
theorem lfX3_27 : aF RX3 27 3 5 "I" false := ⟨_, _, _, _, rfl, by decide, rfl, aT_in (List.mem_of_getElem? (i := 145) (by decide +kernel)) rfl⟩
theorem lfX3_31 : aF RX3 31 3 6 "I" false := ⟨_, _, _, _, rfl, by decide, rfl, aT_in (List.mem_of_getElem? (i := 146) (by decide +kernel)) rfl⟩
theorem lfX3_53 : aF RX3 53 0 4 "I" false := ⟨_, _, _, _, rfl, by decide, rfl, aT_in (List.mem_of_getElem? (i := 115) (by decide +kernel)) rfl⟩
theorem lfX3_9 : aF RX3 9 3 0 "[I" true := ⟨_, _, _, _, rfl, by decide, rfl, aT_in (List.mem_of_getElem? (i := 140) (by decide +kernel)) rfl⟩
theorem lfX4_15 : aF RX4 15 6 6 "I" false := ⟨_, _, _, _, rfl, by decide, rfl, aT_in (List.mem_of_getElem? (i := 248) (by decide +kernel)) rfl⟩
theorem lfX4_21 : aF RX4 21 6 5 "I" false := ⟨_, _, _, _, rfl, by decide, rfl, aT_in (List.mem_of_getElem? (i := 243) (by decide +kernel)) rfl⟩
theorem lfX4_30 : aF RX4 30 4 1 "I" false := ⟨_, _, _, _, rfl, by decide, rfl, aT_in (List.mem_of_getElem? (i := 213) (by decide +kernel)) rfl⟩
theorem lfX4_33 : aF RX4 33 4 2 "I" false := ⟨_, _, _, _, rfl, by decide, rfl, aT_in (List.mem_of_getElem? (i := 215) (by decide +kernel)) rfl⟩
theorem lfX4_9 : aF RX4 9 4 0 "[I" true := ⟨_, _, _, _, rfl, by decide, rfl, aT_in (List.mem_of_getElem? (i := 212) (by decide +kernel)) rfl⟩
theorem lfX5_101 : aF RX5 101 6 9 "[I" true := ⟨_, _, _, _, rfl, by decide, rfl, aT_in (List.mem_of_getElem? (i := 259) (by decide +kernel)) rfl⟩
theorem lfX5_104 : aF RX5 104 6 10 "[I" true := ⟨_, _, _, _, rfl, by decide, rfl, aT_in (List.mem_of_getElem? (i := 262) (by decide +kernel)) rfl⟩
theorem lfX5_107 : aF RX5 107 6 11 "[I" true := ⟨_, _, _, _, rfl, by decide, rfl, aT_in (List.mem_of_getElem? (i := 265) (by decide +kernel)) rfl⟩
theorem lfX5_110 : aF RX5 110 6 12 "[I" true := ⟨_, _, _, _, rfl, by decide, rfl, aT_in (List.mem_of_getElem? (i := 268) (by decide +kernel)) rfl⟩
theorem lfX5_113 : aF RX5 113 6 13 "[I" true := ⟨_, _, _, _, rfl, by decide, rfl, aT_in (List.mem_of_getElem? (i := 271) (by decide +kernel)) rfl⟩
theorem lfX5_15 : aF RX5 15 5 4 "I" false := ⟨_, _, _, _, rfl, by decide, rfl, aT_in (List.mem_of_getElem? (i := 89) (by decide +kernel)) rfl⟩
theorem lfX5_19 : aF RX5 19 5 1 "I" false := ⟨_, _, _, _, rfl, by decide, rfl, aT_in (List.mem_of_getElem? (i := 85) (by decide +kernel)) rfl⟩
theorem lfX5_23 : aF RX5 23 5 2 "I" false := ⟨_, _, _, _, rfl, by decide, rfl, aT_in (List.mem_of_getElem? (i := 87) (by decide +kernel)) rfl⟩
theorem lfX5_26 : aF RX5 26 5 3 "I" false := ⟨_, _, _, _, rfl, by decide, rfl, aT_in (List.mem_of_getElem? (i := 88) (by decide +kernel)) rfl⟩
theorem lfX5_67 : aF RX5 67 6 0 "Z" false := ⟨_, _, _, _, rfl, by decide, rfl, aT_in (List.mem_of_getElem? (i := 231) (by decide +kernel)) rfl⟩
theorem lfX5_73 : aF RX5 73 6 4 "I" false := ⟨_, _, _, _, rfl, by decide, rfl, aT_in (List.mem_of_getElem? (i := 242) (by decide +kernel)) rfl⟩
theorem lfX5_76 : aF RX5 76 6 5 "I" false := ⟨_, _, _, _, rfl, by decide, rfl, aT_in (List.mem_of_getElem? (i := 247) (by decide +kernel)) rfl⟩
theorem lfX5_79 : aF RX5 79 6 6 "I" false := ⟨_, _, _, _, rfl, by decide, rfl, aT_in (List.mem_of_getElem? (i := 251) (by decide +kernel)) rfl⟩
theorem lfX5_86 : aF RX5 86 6 1 "I" false := ⟨_, _, _, _, rfl, by decide, rfl, aT_in (List.mem_of_getElem? (i := 234) (by decide +kernel)) rfl⟩
theorem lfX5_89 : aF RX5 89 6 2 "I" false := ⟨_, _, _, _, rfl, by decide, rfl, aT_in (List.mem_of_getElem? (i := 237) (by decide +kernel)) rfl⟩
theorem lfX5_9 : aF RX5 9 5 0 "[I" true := ⟨_, _, _, _, rfl, by decide, rfl, aT_in (List.mem_of_getElem? (i := 84) (by decide +kernel)) rfl⟩
theorem lfX5_92 : aF RX5 92 6 3 "I" false := ⟨_, _, _, _, rfl, by decide, rfl, aT_in (List.mem_of_getElem? (i := 240) (by decide +kernel)) rfl⟩
theorem lfX5_95 : aF RX5 95 6 7 "[I" true := ⟨_, _, _, _, rfl, by decide, rfl, aT_in (List.mem_of_getElem? (i := 253) (by decide +kernel)) rfl⟩
theorem lfX5_98 : aF RX5 98 6 8 "[I" true := ⟨_, _, _, _, rfl, by decide, rfl, aT_in (List.mem_of_getElem? (i := 256) (by decide +kernel)) rfl⟩
theorem lfX6_15 : aF RX6 15 6 8 "[I" true := ⟨_, _, _, _, rfl, by decide, rfl, aT_in (List.mem_of_getElem? (i := 254) (by decide +kernel)) rfl⟩
theorem lfX6_18 : aF RX6 18 6 9 "[I" true := ⟨_, _, _, _, rfl, by decide, rfl, aT_in (List.mem_of_getElem? (i := 257) (by decide +kernel)) rfl⟩
theorem lfX6_21 : aF RX6 21 6 10 "[I" true := ⟨_, _, _, _, rfl, by decide, rfl, aT_in (List.mem_of_getElem? (i := 260) (by decide +kernel)) rfl⟩
theorem lfX6_33 : aF RX6 33 6 14 "[I" true := ⟨_, _, _, _, rfl, by decide, rfl, aT_in (List.mem_of_getElem? (i := 272) (by decide +kernel)) rfl⟩
theorem lfX6_36 : aF RX6 36 6 0 "Z" false := ⟨_, _, _, _, rfl, by decide, rfl, aT_in (List.mem_of_getElem? (i := 229) (by decide +kernel)) rfl⟩
theorem lfX6_40 : aF RX6 40 6 1 "I" false := ⟨_, _, _, _, rfl, by decide, rfl, aT_in (List.mem_of_getElem? (i := 232) (by decide +kernel)) rfl⟩
theorem lfX6_44 : aF RX6 44 6 2 "I" false := ⟨_, _, _, _, rfl, by decide, rfl, aT_in (List.mem_of_getElem? (i := 235) (by decide +kernel)) rfl⟩
theorem lfX6_47 : aF RX6 47 6 3 "I" false := ⟨_, _, _, _, rfl, by decide, rfl, aT_in (List.mem_of_getElem? (i := 238) (by decide +kernel)) rfl⟩
theorem lfX6_50 : aF RX6 50 6 4 "I" false := ⟨_, _, _, _, rfl, by decide, rfl, aT_in (List.mem_of_getElem? (i := 241) (by decide +kernel)) rfl⟩
theorem lfX6_53 : aF RX6 53 6 5 "I" false := ⟨_, _, _, _, rfl, by decide, rfl, aT_in (List.mem_of_getElem? (i := 245) (by decide +kernel)) rfl⟩
theorem lfX6_56 : aF RX6 56 6 6 "I" false := ⟨_, _, _, _, rfl, by decide, rfl, aT_in (List.mem_of_getElem? (i := 249) (by decide +kernel)) rfl⟩
theorem lfX6_9 : aF RX6 9 6 7 "[I" true := ⟨_, _, _, _, rfl, by decide, rfl, aT_in (List.mem_of_getElem? (i := 252) (by decide +kernel)) rfl⟩
theorem lfX7_10 : aF RX7 10 7 0 "LWeatherHand$Reader;" true := ⟨_, _, _, _, rfl, by decide, rfl, aT_in (List.mem_of_getElem? (i := 304) (by decide +kernel)) rfl⟩
theorem lfX7_106 : aF RX7 106 2 3 "I" false := ⟨_, _, _, _, rfl, by decide, rfl, aT_in (List.mem_of_getElem? (i := 173) (by decide +kernel)) rfl⟩
theorem lfX7_109 : aF RX7 109 6 6 "I" false := ⟨_, _, _, _, rfl, by decide, rfl, aT_in (List.mem_of_getElem? (i := 250) (by decide +kernel)) rfl⟩
theorem lfX7_112 : aF RX7 112 6 0 "Z" false := ⟨_, _, _, _, rfl, by decide, rfl, aT_in (List.mem_of_getElem? (i := 230) (by decide +kernel)) rfl⟩
theorem lfX7_115 : aF RX7 115 6 1 "I" false := ⟨_, _, _, _, rfl, by decide, rfl, aT_in (List.mem_of_getElem? (i := 233) (by decide +kernel)) rfl⟩
theorem lfX7_118 : aF RX7 118 6 2 "I" false := ⟨_, _, _, _, rfl, by decide, rfl, aT_in (List.mem_of_getElem? (i := 236) (by decide +kernel)) rfl⟩
theorem lfX7_121 : aF RX7 121 6 3 "I" false := ⟨_, _, _, _, rfl, by decide, rfl, aT_in (List.mem_of_getElem? (i := 239) (by decide +kernel)) rfl⟩
theorem lfX7_124 : aF RX7 124 6 5 "I" false := ⟨_, _, _, _, rfl, by decide, rfl, aT_in (List.mem_of_getElem? (i := 246) (by decide +kernel)) rfl⟩
theorem lfX7_127 : aF RX7 127 5 1 "I" false := ⟨_, _, _, _, rfl, by decide, rfl, aT_in (List.mem_of_getElem? (i := 86) (by decide +kernel)) rfl⟩
theorem lfX7_130 : aF RX7 130 0 4 "I" false := ⟨_, _, _, _, rfl, by decide, rfl, aT_in (List.mem_of_getElem? (i := 114) (by decide +kernel)) rfl⟩
theorem lfX7_136 : aF RX7 136 3 6 "I" false := ⟨_, _, _, _, rfl, by decide, rfl, aT_in (List.mem_of_getElem? (i := 147) (by decide +kernel)) rfl⟩
theorem lfX7_161 : aF RX7 161 6 8 "[I" true := ⟨_, _, _, _, rfl, by decide, rfl, aT_in (List.mem_of_getElem? (i := 255) (by decide +kernel)) rfl⟩
theorem lfX7_164 : aF RX7 164 6 9 "[I" true := ⟨_, _, _, _, rfl, by decide, rfl, aT_in (List.mem_of_getElem? (i := 258) (by decide +kernel)) rfl⟩
theorem lfX7_167 : aF RX7 167 6 10 "[I" true := ⟨_, _, _, _, rfl, by decide, rfl, aT_in (List.mem_of_getElem? (i := 261) (by decide +kernel)) rfl⟩
theorem lfX7_19 : aF RX7 19 7 1 "LWeatherHand$Archive;" true := ⟨_, _, _, _, rfl, by decide, rfl, aT_in (List.mem_of_getElem? (i := 305) (by decide +kernel)) rfl⟩
theorem lfX7_23 : aF RX7 23 7 2 "LWeatherHand$Archive;" true := ⟨_, _, _, _, rfl, by decide, rfl, aT_in (List.mem_of_getElem? (i := 306) (by decide +kernel)) rfl⟩
theorem lfX7_252 : aF RX7 252 1 4 "I" false := ⟨_, _, _, _, rfl, by decide, rfl, aT_in (List.mem_of_getElem? (i := 194) (by decide +kernel)) rfl⟩
theorem lfX7_26 : aF RX7 26 7 3 "LWeatherHand$Archive;" true := ⟨_, _, _, _, rfl, by decide, rfl, aT_in (List.mem_of_getElem? (i := 307) (by decide +kernel)) rfl⟩
theorem lfX7_269 : aF RX7 269 4 1 "I" false := ⟨_, _, _, _, rfl, by decide, rfl, aT_in (List.mem_of_getElem? (i := 214) (by decide +kernel)) rfl⟩
theorem lfX7_295 : aF RX7 295 0 5 "I" false := ⟨_, _, _, _, rfl, by decide, rfl, aT_in (List.mem_of_getElem? (i := 117) (by decide +kernel)) rfl⟩
theorem lfX7_32 : aF RX7 32 7 4 "LWeatherHand$Deeds;" true := ⟨_, _, _, _, rfl, by decide, rfl, aT_in (List.mem_of_getElem? (i := 308) (by decide +kernel)) rfl⟩
theorem lfX7_39 : aF RX7 39 7 5 "LWeatherHand$Book;" true := ⟨_, _, _, _, rfl, by decide, rfl, aT_in (List.mem_of_getElem? (i := 309) (by decide +kernel)) rfl⟩
theorem lfX7_46 : aF RX7 46 7 6 "LWeatherHand$Beginnings;" true := ⟨_, _, _, _, rfl, by decide, rfl, aT_in (List.mem_of_getElem? (i := 310) (by decide +kernel)) rfl⟩
theorem lfX7_53 : aF RX7 53 7 7 "LWeatherHand$Finding;" true := ⟨_, _, _, _, rfl, by decide, rfl, aT_in (List.mem_of_getElem? (i := 311) (by decide +kernel)) rfl⟩
theorem lfX7_57 : aF RX7 57 7 8 "[I" true := ⟨_, _, _, _, rfl, by decide, rfl, aT_in (List.mem_of_getElem? (i := 312) (by decide +kernel)) rfl⟩
theorem lfX7_64 : aF RX7 64 7 9 "LWeatherHand$Valley;" false := ⟨_, _, _, _, rfl, by decide, rfl, aT_in (List.mem_of_getElem? (i := 313) (by decide +kernel)) rfl⟩
theorem lfX7_68 : aF RX7 68 7 10 "LWeatherHand$Valley;" false := ⟨_, _, _, _, rfl, by decide, rfl, aT_in (List.mem_of_getElem? (i := 314) (by decide +kernel)) rfl⟩
theorem lfX7_71 : aF RX7 71 7 11 "I" false := ⟨_, _, _, _, rfl, by decide, rfl, aT_in (List.mem_of_getElem? (i := 315) (by decide +kernel)) rfl⟩
theorem lfX7_87 : aF RX7 87 5 4 "I" false := ⟨_, _, _, _, rfl, by decide, rfl, aT_in (List.mem_of_getElem? (i := 90) (by decide +kernel)) rfl⟩
theorem lfX7_95 : aF RX7 95 0 6 "Z" false := ⟨_, _, _, _, rfl, by decide, rfl, aT_in (List.mem_of_getElem? (i := 118) (by decide +kernel)) rfl⟩
theorem lfX8_105 : aF RX8 105 8 3 "Z" false := ⟨_, _, _, _, rfl, by decide, rfl, aT_in (List.mem_of_getElem? (i := 823) (by decide +kernel)) rfl⟩
theorem lfX8_113 : aF RX8 113 8 7 "I" false := ⟨_, _, _, _, rfl, by decide, rfl, aT_in (List.mem_of_getElem? (i := 827) (by decide +kernel)) rfl⟩
theorem lfX8_116 : aF RX8 116 8 12 "I" false := ⟨_, _, _, _, rfl, by decide, rfl, aT_in (List.mem_of_getElem? (i := 832) (by decide +kernel)) rfl⟩
theorem lfX8_119 : aF RX8 119 8 17 "I" false := ⟨_, _, _, _, rfl, by decide, rfl, aT_in (List.mem_of_getElem? (i := 837) (by decide +kernel)) rfl⟩
theorem lfX8_13 : aF RX8 13 8 1 "[Z" true := ⟨_, _, _, _, rfl, by decide, rfl, aT_in (List.mem_of_getElem? (i := 821) (by decide +kernel)) rfl⟩
theorem lfX8_141 : aF RX8 141 8 16 "I" false := ⟨_, _, _, _, rfl, by decide, rfl, aT_in (List.mem_of_getElem? (i := 836) (by decide +kernel)) rfl⟩
theorem lfX8_144 : aF RX8 144 8 2 "Z" false := ⟨_, _, _, _, rfl, by decide, rfl, aT_in (List.mem_of_getElem? (i := 822) (by decide +kernel)) rfl⟩
theorem lfX8_147 : aF RX8 147 8 6 "I" false := ⟨_, _, _, _, rfl, by decide, rfl, aT_in (List.mem_of_getElem? (i := 826) (by decide +kernel)) rfl⟩
theorem lfX8_150 : aF RX8 150 8 11 "I" false := ⟨_, _, _, _, rfl, by decide, rfl, aT_in (List.mem_of_getElem? (i := 831) (by decide +kernel)) rfl⟩
theorem lfX8_160 : aF RX8 160 8 32 "I" false := ⟨_, _, _, _, rfl, by decide, rfl, aT_in (List.mem_of_getElem? (i := 852) (by decide +kernel)) rfl⟩
theorem lfX8_163 : aF RX8 163 8 25 "I" false := ⟨_, _, _, _, rfl, by decide, rfl, aT_in (List.mem_of_getElem? (i := 845) (by decide +kernel)) rfl⟩
theorem lfX8_17 : aF RX8 17 8 4 "[I" true := ⟨_, _, _, _, rfl, by decide, rfl, aT_in (List.mem_of_getElem? (i := 824) (by decide +kernel)) rfl⟩
theorem lfX8_20 : aF RX8 20 8 5 "[I" true := ⟨_, _, _, _, rfl, by decide, rfl, aT_in (List.mem_of_getElem? (i := 825) (by decide +kernel)) rfl⟩
theorem lfX8_23 : aF RX8 23 8 8 "[I" true := ⟨_, _, _, _, rfl, by decide, rfl, aT_in (List.mem_of_getElem? (i := 828) (by decide +kernel)) rfl⟩
theorem lfX8_26 : aF RX8 26 8 9 "[I" true := ⟨_, _, _, _, rfl, by decide, rfl, aT_in (List.mem_of_getElem? (i := 829) (by decide +kernel)) rfl⟩
theorem lfX8_29 : aF RX8 29 8 10 "[I" true := ⟨_, _, _, _, rfl, by decide, rfl, aT_in (List.mem_of_getElem? (i := 830) (by decide +kernel)) rfl⟩
theorem lfX8_32 : aF RX8 32 8 13 "[I" true := ⟨_, _, _, _, rfl, by decide, rfl, aT_in (List.mem_of_getElem? (i := 833) (by decide +kernel)) rfl⟩
theorem lfX8_35 : aF RX8 35 8 14 "[I" true := ⟨_, _, _, _, rfl, by decide, rfl, aT_in (List.mem_of_getElem? (i := 834) (by decide +kernel)) rfl⟩
theorem lfX8_38 : aF RX8 38 8 15 "[I" true := ⟨_, _, _, _, rfl, by decide, rfl, aT_in (List.mem_of_getElem? (i := 835) (by decide +kernel)) rfl⟩
theorem lfX8_41 : aF RX8 41 8 18 "[I" true := ⟨_, _, _, _, rfl, by decide, rfl, aT_in (List.mem_of_getElem? (i := 838) (by decide +kernel)) rfl⟩
theorem lfX8_44 : aF RX8 44 8 23 "I" false := ⟨_, _, _, _, rfl, by decide, rfl, aT_in (List.mem_of_getElem? (i := 843) (by decide +kernel)) rfl⟩
theorem lfX8_48 : aF RX8 48 8 24 "[I" true := ⟨_, _, _, _, rfl, by decide, rfl, aT_in (List.mem_of_getElem? (i := 844) (by decide +kernel)) rfl⟩
theorem lfX8_51 : aF RX8 51 8 26 "[Z" true := ⟨_, _, _, _, rfl, by decide, rfl, aT_in (List.mem_of_getElem? (i := 846) (by decide +kernel)) rfl⟩
theorem lfX8_54 : aF RX8 54 8 27 "[I" true := ⟨_, _, _, _, rfl, by decide, rfl, aT_in (List.mem_of_getElem? (i := 847) (by decide +kernel)) rfl⟩
theorem lfX8_57 : aF RX8 57 8 28 "[I" true := ⟨_, _, _, _, rfl, by decide, rfl, aT_in (List.mem_of_getElem? (i := 848) (by decide +kernel)) rfl⟩
theorem lfX8_60 : aF RX8 60 8 29 "[I" true := ⟨_, _, _, _, rfl, by decide, rfl, aT_in (List.mem_of_getElem? (i := 849) (by decide +kernel)) rfl⟩
theorem lfX8_63 : aF RX8 63 8 30 "[I" true := ⟨_, _, _, _, rfl, by decide, rfl, aT_in (List.mem_of_getElem? (i := 850) (by decide +kernel)) rfl⟩
theorem lfX8_66 : aF RX8 66 8 31 "[I" true := ⟨_, _, _, _, rfl, by decide, rfl, aT_in (List.mem_of_getElem? (i := 851) (by decide +kernel)) rfl⟩
theorem lfX8_7 : aF RX8 7 8 0 "[I" true := ⟨_, _, _, _, rfl, by decide, rfl, aT_in (List.mem_of_getElem? (i := 820) (by decide +kernel)) rfl⟩
theorem lfX8_76 : aF RX8 76 8 19 "I" false := ⟨_, _, _, _, rfl, by decide, rfl, aT_in (List.mem_of_getElem? (i := 839) (by decide +kernel)) rfl⟩
theorem lfX8_80 : aF RX8 80 8 20 "I" false := ⟨_, _, _, _, rfl, by decide, rfl, aT_in (List.mem_of_getElem? (i := 840) (by decide +kernel)) rfl⟩
theorem lfX8_83 : aF RX8 83 8 22 "I" false := ⟨_, _, _, _, rfl, by decide, rfl, aT_in (List.mem_of_getElem? (i := 842) (by decide +kernel)) rfl⟩
theorem lfX8_90 : aF RX8 90 8 21 "I" false := ⟨_, _, _, _, rfl, by decide, rfl, aT_in (List.mem_of_getElem? (i := 841) (by decide +kernel)) rfl⟩
theorem lmX0_99 : Cond.methodLink RX0 99 Lib.Math.max.name ∈ aT := aT_in (List.mem_of_getElem? (i := 665) (by decide +kernel)) rfl
theorem lmX1_58 : Cond.methodLink RX1 58 Lib.Math.max.name ∈ aT := aT_in (List.mem_of_getElem? (i := 696) (by decide +kernel)) rfl
theorem lmX3_34 : Cond.methodLink RX3 34 Lib.Math.min.name ∈ aT := aT_in (List.mem_of_getElem? (i := 581) (by decide +kernel)) rfl
theorem lmX4_36 : Cond.methodLink RX4 36 Lib.Math.min.name ∈ aT := aT_in (List.mem_of_getElem? (i := 730) (by decide +kernel)) rfl
theorem lmX6_59 : Cond.methodLink RX6 59 Lib.Math.max.name ∈ aT := aT_in (List.mem_of_getElem? (i := 436) (by decide +kernel)) rfl
theorem lmX6_65 : Cond.methodLink RX6 65 Lib.Math.min.name ∈ aT := aT_in (List.mem_of_getElem? (i := 439) (by decide +kernel)) rfl
theorem lvX1_39 : aLS RX1 39 mX1_fits 6 := ⟨oX1_fits, aT_in (List.mem_of_getElem? (i := 680) (by decide +kernel)) rfl, isX1_fits⟩
theorem lvX1_55 : aLS RX1 55 mX1_kindOfLook 1 := ⟨oX1_kindOfLook, aT_in (List.mem_of_getElem? (i := 693) (by decide +kernel)) rfl, isX1_kindOfLook⟩
theorem lvX4_46 : aLS RX4 46 mX4_handIn 3 := ⟨oX4_handIn, aT_in (List.mem_of_getElem? (i := 735) (by decide +kernel)) rfl, isX4_handIn⟩
theorem lvX5_116 : aLS RX5 116 mX5_isFigure 1 := ⟨oX5_isFigure, aT_in (List.mem_of_getElem? (i := 393) (by decide +kernel)) rfl, isX5_isFigure⟩
theorem lvX5_40 : aLS RX5 40 mX5_mayStand 2 := ⟨oX5_mayStand, aT_in (List.mem_of_getElem? (i := 375) (by decide +kernel)) rfl, isX5_mayStand⟩
theorem lvX5_48 : aLS RX5 48 mX5_isTooMany 2 := ⟨oX5_isTooMany, aT_in (List.mem_of_getElem? (i := 382) (by decide +kernel)) rfl, isX5_isTooMany⟩
theorem lvX7_139 : aLS RX7 139 mX7_isHour 1 := ⟨oX7_isHour, aT_in (List.mem_of_getElem? (i := 492) (by decide +kernel)) rfl, isX7_isHour⟩
theorem lvX7_257 : aLS RX7 257 mX7_isLook 1 := ⟨oX7_isLook, aT_in (List.mem_of_getElem? (i := 701) (by decide +kernel)) rfl, isX7_isLook⟩
theorem lvX7_283 : aLS RX7 283 mJ6_bitCount_0f7a4 1 := ⟨oJ6_bitCount_0f7a4, aT_in (List.mem_of_getElem? (i := 470) (by decide +kernel)) rfl, isJ6_bitCount_0f7a4⟩
theorem lvX7_298 : aLS RX7 298 mX7_isImage 1 := ⟨oX7_isImage, aT_in (List.mem_of_getElem? (i := 796) (by decide +kernel)) rfl, isX7_isImage⟩
theorem lvX8_172 : aLS RX8 172 mX8_one 1 := ⟨oX8_one, aT_in (List.mem_of_getElem? (i := 994) (by decide +kernel)) rfl, isX8_one⟩
theorem lvX8_179 : aLS RX8 179 mX8_isHour 1 := ⟨oX8_isHour, aT_in (List.mem_of_getElem? (i := 1005) (by decide +kernel)) rfl, isX8_isHour⟩
theorem lvX8_254 : aLS RX8 254 mX8_has 2 := ⟨oX8_has, aT_in (List.mem_of_getElem? (i := 1153) (by decide +kernel)) rfl, isX8_has⟩
theorem lvX8_270 : aLS RX8 270 mX8_figure 3 := ⟨oX8_figure, aT_in (List.mem_of_getElem? (i := 1182) (by decide +kernel)) rfl, isX8_figure⟩
theorem lvX8_284 : aLS RX8 284 mX8_ones 1 := ⟨oX8_ones, aT_in (List.mem_of_getElem? (i := 1206) (by decide +kernel)) rfl, isX8_ones⟩
theorem lvX8_71 : aLS RX8 71 mX8_in 3 := ⟨oX8_in, aT_in (List.mem_of_getElem? (i := 926) (by decide +kernel)) rfl, isX8_in⟩
theorem lvL_102 : aLV RL 102 mX8_hands 8 1 := ⟨oX8_hands, ⟨_, rfl, rfl⟩, aT_in (List.mem_of_getElem? (i := 1170) (by decide +kernel)) rfl, ivX8_hands.1, ivX8_hands.2⟩
theorem lvL_103 : aLV RL 103 mX7_forged 7 2 := ⟨oX7_forged, ⟨_, rfl, rfl⟩, aT_in (List.mem_of_getElem? (i := 742) (by decide +kernel)) rfl, ivX7_forged.1, ivX7_forged.2⟩
theorem lvL_106 : aLV RL 106 mX8_forged 8 2 := ⟨oX8_forged, ⟨_, rfl, rfl⟩, aT_in (List.mem_of_getElem? (i := 1185) (by decide +kernel)) rfl, ivX8_forged.1, ivX8_forged.2⟩
theorem lvL_107 : aLV RL 107 mX7_air 7 3 := ⟨oX7_air, ⟨_, rfl, rfl⟩, aT_in (List.mem_of_getElem? (i := 747) (by decide +kernel)) rfl, ivX7_air.1, ivX7_air.2⟩
theorem lvL_110 : aLV RL 110 mX8_air 8 3 := ⟨oX8_air, ⟨_, rfl, rfl⟩, aT_in (List.mem_of_getElem? (i := 1189) (by decide +kernel)) rfl, ivX8_air.1, ivX8_air.2⟩
theorem lvL_111 : aLV RL 111 mX7_rain 7 1 := ⟨oX7_rain, ⟨_, rfl, rfl⟩, aT_in (List.mem_of_getElem? (i := 751) (by decide +kernel)) rfl, ivX7_rain.1, ivX7_rain.2⟩
theorem lvL_114 : aLV RL 114 mX8_rain 8 1 := ⟨oX8_rain, ⟨_, rfl, rfl⟩, aT_in (List.mem_of_getElem? (i := 1193) (by decide +kernel)) rfl, ivX8_rain.1, ivX8_rain.2⟩
theorem lvL_115 : aLV RL 115 mX7_measure 7 2 := ⟨oX7_measure, ⟨_, rfl, rfl⟩, aT_in (List.mem_of_getElem? (i := 761) (by decide +kernel)) rfl, ivX7_measure.1, ivX7_measure.2⟩
theorem lvL_118 : aLV RL 118 mX8_measure 8 2 := ⟨oX8_measure, ⟨_, rfl, rfl⟩, aT_in (List.mem_of_getElem? (i := 1202) (by decide +kernel)) rfl, ivX8_measure.1, ivX8_measure.2⟩
theorem lvL_119 : aLV RL 119 mX7_write 7 3 := ⟨oX7_write, ⟨_, rfl, rfl⟩, aT_in (List.mem_of_getElem? (i := 765) (by decide +kernel)) rfl, ivX7_write.1, ivX7_write.2⟩
theorem lvL_122 : aLV RL 122 mX8_write 8 3 := ⟨oX8_write, ⟨_, rfl, rfl⟩, aT_in (List.mem_of_getElem? (i := 1209) (by decide +kernel)) rfl, ivX8_write.1, ivX8_write.2⟩
theorem lvL_123 : aLV RL 123 mX7_judge 7 0 := ⟨oX7_judge, ⟨_, rfl, rfl⟩, aT_in (List.mem_of_getElem? (i := 774) (by decide +kernel)) rfl, ivX7_judge.1, ivX7_judge.2⟩
theorem lvL_126 : aLV RL 126 mX8_judge 8 0 := ⟨oX8_judge, ⟨_, rfl, rfl⟩, aT_in (List.mem_of_getElem? (i := 1214) (by decide +kernel)) rfl, ivX8_judge.1, ivX8_judge.2⟩
theorem lvL_127 : aLV RL 127 mX7_tear 7 0 := ⟨oX7_tear, ⟨_, rfl, rfl⟩, aT_in (List.mem_of_getElem? (i := 784) (by decide +kernel)) rfl, ivX7_tear.1, ivX7_tear.2⟩
theorem lvL_13 : aLV RL 13 mX7_feed 7 1 := ⟨oX7_feed, ⟨_, rfl, rfl⟩, aT_in (List.mem_of_getElem? (i := 341) (by decide +kernel)) rfl, ivX7_feed.1, ivX7_feed.2⟩
theorem lvL_130 : aLV RL 130 mX8_tear 8 0 := ⟨oX8_tear, ⟨_, rfl, rfl⟩, aT_in (List.mem_of_getElem? (i := 1218) (by decide +kernel)) rfl, ivX8_tear.1, ivX8_tear.2⟩
theorem lvL_131 : aLV RL 131 mX7_seed 7 1 := ⟨oX7_seed, ⟨_, rfl, rfl⟩, aT_in (List.mem_of_getElem? (i := 788) (by decide +kernel)) rfl, ivX7_seed.1, ivX7_seed.2⟩
theorem lvL_134 : aLV RL 134 mX8_seed 8 1 := ⟨oX8_seed, ⟨_, rfl, rfl⟩, aT_in (List.mem_of_getElem? (i := 1222) (by decide +kernel)) rfl, ivX8_seed.1, ivX8_seed.2⟩
theorem lvL_135 : aLV RL 135 mX7_keep 7 1 := ⟨oX7_keep, ⟨_, rfl, rfl⟩, aT_in (List.mem_of_getElem? (i := 792) (by decide +kernel)) rfl, ivX7_keep.1, ivX7_keep.2⟩
theorem lvL_138 : aLV RL 138 mX8_keep 8 1 := ⟨oX8_keep, ⟨_, rfl, rfl⟩, aT_in (List.mem_of_getElem? (i := 1226) (by decide +kernel)) rfl, ivX8_keep.1, ivX8_keep.2⟩
theorem lvL_139 : aLV RL 139 mX7_goBack 7 1 := ⟨oX7_goBack, ⟨_, rfl, rfl⟩, aT_in (List.mem_of_getElem? (i := 810) (by decide +kernel)) rfl, ivX7_goBack.1, ivX7_goBack.2⟩
theorem lvL_142 : aLV RL 142 mX8_goBack 8 1 := ⟨oX8_goBack, ⟨_, rfl, rfl⟩, aT_in (List.mem_of_getElem? (i := 1230) (by decide +kernel)) rfl, ivX8_goBack.1, ivX8_goBack.2⟩
theorem lvL_17 : aLV RL 17 mX8_feed 8 1 := ⟨oX8_feed, ⟨_, rfl, rfl⟩, aT_in (List.mem_of_getElem? (i := 921) (by decide +kernel)) rfl, ivX8_feed.1, ivX8_feed.2⟩
theorem lvL_18 : aLV RL 18 mX7_valley 7 0 := ⟨oX7_valley, ⟨_, rfl, rfl⟩, aT_in (List.mem_of_getElem? (i := 351) (by decide +kernel)) rfl, ivX7_valley.1, ivX7_valley.2⟩
theorem lvL_22 : aLV RL 22 mX8_valley 8 0 := ⟨oX8_valley, ⟨_, rfl, rfl⟩, aT_in (List.mem_of_getElem? (i := 931) (by decide +kernel)) rfl, ivX8_valley.1, ivX8_valley.2⟩
theorem lvL_23 : aLV RL 23 mX7_fault 7 0 := ⟨oX7_fault, ⟨_, rfl, rfl⟩, aT_in (List.mem_of_getElem? (i := 476) (by decide +kernel)) rfl, ivX7_fault.1, ivX7_fault.2⟩
theorem lvL_26 : aLV RL 26 mX8_fault 8 0 := ⟨oX8_fault, ⟨_, rfl, rfl⟩, aT_in (List.mem_of_getElem? (i := 986) (by decide +kernel)) rfl, ivX8_fault.1, ivX8_fault.2⟩
theorem lvL_27 : aLV RL 27 mX7_told 7 1 := ⟨oX7_told, ⟨_, rfl, rfl⟩, aT_in (List.mem_of_getElem? (i := 480) (by decide +kernel)) rfl, ivX7_told.1, ivX7_told.2⟩
theorem lvL_30 : aLV RL 30 mX8_told 8 1 := ⟨oX8_told, ⟨_, rfl, rfl⟩, aT_in (List.mem_of_getElem? (i := 990) (by decide +kernel)) rfl, ivX8_told.1, ivX8_told.2⟩
theorem lvL_31 : aLV RL 31 mX7_weather 7 2 := ⟨oX7_weather, ⟨_, rfl, rfl⟩, aT_in (List.mem_of_getElem? (i := 488) (by decide +kernel)) rfl, ivX7_weather.1, ivX7_weather.2⟩
theorem lvL_35 : aLV RL 35 mX8_weather 8 2 := ⟨oX8_weather, ⟨_, rfl, rfl⟩, aT_in (List.mem_of_getElem? (i := 1001) (by decide +kernel)) rfl, ivX8_weather.1, ivX8_weather.2⟩
theorem lvL_36 : aLV RL 36 mX7_hand 7 2 := ⟨oX7_hand, ⟨_, rfl, rfl⟩, aT_in (List.mem_of_getElem? (i := 500) (by decide +kernel)) rfl, ivX7_hand.1, ivX7_hand.2⟩
theorem lvL_39 : aLV RL 39 mX8_hand 8 2 := ⟨oX8_hand, ⟨_, rfl, rfl⟩, aT_in (List.mem_of_getElem? (i := 1023) (by decide +kernel)) rfl, ivX8_hand.1, ivX8_hand.2⟩
theorem lvL_40 : aLV RL 40 mX7_letter 7 3 := ⟨oX7_letter, ⟨_, rfl, rfl⟩, aT_in (List.mem_of_getElem? (i := 506) (by decide +kernel)) rfl, ivX7_letter.1, ivX7_letter.2⟩
theorem lvL_44 : aLV RL 44 mX8_letter 8 3 := ⟨oX8_letter, ⟨_, rfl, rfl⟩, aT_in (List.mem_of_getElem? (i := 1032) (by decide +kernel)) rfl, ivX8_letter.1, ivX8_letter.2⟩
theorem lvL_45 : aLV RL 45 mX7_add 7 4 := ⟨oX7_add, ⟨_, rfl, rfl⟩, aT_in (List.mem_of_getElem? (i := 559) (by decide +kernel)) rfl, ivX7_add.1, ivX7_add.2⟩
theorem lvL_49 : aLV RL 49 mX8_add 8 4 := ⟨oX8_add, ⟨_, rfl, rfl⟩, aT_in (List.mem_of_getElem? (i := 1072) (by decide +kernel)) rfl, ivX8_add.1, ivX8_add.2⟩
theorem lvL_50 : aLV RL 50 mX7_blot 7 1 := ⟨oX7_blot, ⟨_, rfl, rfl⟩, aT_in (List.mem_of_getElem? (i := 582) (by decide +kernel)) rfl, ivX7_blot.1, ivX7_blot.2⟩
theorem lvL_53 : aLV RL 53 mX8_blot 8 1 := ⟨oX8_blot, ⟨_, rfl, rfl⟩, aT_in (List.mem_of_getElem? (i := 1084) (by decide +kernel)) rfl, ivX8_blot.1, ivX8_blot.2⟩
theorem lvL_54 : aLV RL 54 mX7_bottle 7 1 := ⟨oX7_bottle, ⟨_, rfl, rfl⟩, aT_in (List.mem_of_getElem? (i := 595) (by decide +kernel)) rfl, ivX7_bottle.1, ivX7_bottle.2⟩
theorem lvL_57 : aLV RL 57 mX8_bottle 8 1 := ⟨oX8_bottle, ⟨_, rfl, rfl⟩, aT_in (List.mem_of_getElem? (i := 1088) (by decide +kernel)) rfl, ivX8_bottle.1, ivX8_bottle.2⟩
theorem lvL_58 : aLV RL 58 mX7_drift 7 1 := ⟨oX7_drift, ⟨_, rfl, rfl⟩, aT_in (List.mem_of_getElem? (i := 603) (by decide +kernel)) rfl, ivX7_drift.1, ivX7_drift.2⟩
theorem lvL_61 : aLV RL 61 mX8_drift 8 1 := ⟨oX8_drift, ⟨_, rfl, rfl⟩, aT_in (List.mem_of_getElem? (i := 1092) (by decide +kernel)) rfl, ivX8_drift.1, ivX8_drift.2⟩
theorem lvL_62 : aLV RL 62 mX7_undo 7 1 := ⟨oX7_undo, ⟨_, rfl, rfl⟩, aT_in (List.mem_of_getElem? (i := 615) (by decide +kernel)) rfl, ivX7_undo.1, ivX7_undo.2⟩
theorem lvL_65 : aLV RL 65 mX8_undo 8 1 := ⟨oX8_undo, ⟨_, rfl, rfl⟩, aT_in (List.mem_of_getElem? (i := 1105) (by decide +kernel)) rfl, ivX8_undo.1, ivX8_undo.2⟩
theorem lvL_66 : aLV RL 66 mX7_look 7 2 := ⟨oX7_look, ⟨_, rfl, rfl⟩, aT_in (List.mem_of_getElem? (i := 625) (by decide +kernel)) rfl, ivX7_look.1, ivX7_look.2⟩
theorem lvL_69 : aLV RL 69 mX8_look 8 2 := ⟨oX8_look, ⟨_, rfl, rfl⟩, aT_in (List.mem_of_getElem? (i := 1109) (by decide +kernel)) rfl, ivX8_look.1, ivX8_look.2⟩
theorem lvL_70 : aLV RL 70 mX7_written 7 4 := ⟨oX7_written, ⟨_, rfl, rfl⟩, aT_in (List.mem_of_getElem? (i := 630) (by decide +kernel)) rfl, ivX7_written.1, ivX7_written.2⟩
theorem lvL_74 : aLV RL 74 mX8_written 8 4 := ⟨oX8_written, ⟨_, rfl, rfl⟩, aT_in (List.mem_of_getElem? (i := 1113) (by decide +kernel)) rfl, ivX8_written.1, ivX8_written.2⟩
theorem lvL_75 : aLV RL 75 mX7_who 7 2 := ⟨oX7_who, ⟨_, rfl, rfl⟩, aT_in (List.mem_of_getElem? (i := 639) (by decide +kernel)) rfl, ivX7_who.1, ivX7_who.2⟩
theorem lvL_78 : aLV RL 78 mX8_who 8 2 := ⟨oX8_who, ⟨_, rfl, rfl⟩, aT_in (List.mem_of_getElem? (i := 1121) (by decide +kernel)) rfl, ivX8_who.1, ivX8_who.2⟩
theorem lvL_79 : aLV RL 79 mX7_dated 7 3 := ⟨oX7_dated, ⟨_, rfl, rfl⟩, aT_in (List.mem_of_getElem? (i := 647) (by decide +kernel)) rfl, ivX7_dated.1, ivX7_dated.2⟩
theorem lvL_82 : aLV RL 82 mX8_dated 8 3 := ⟨oX8_dated, ⟨_, rfl, rfl⟩, aT_in (List.mem_of_getElem? (i := 1125) (by decide +kernel)) rfl, ivX8_dated.1, ivX8_dated.2⟩
theorem lvL_83 : aLV RL 83 mX7_addedAt 7 3 := ⟨oX7_addedAt, ⟨_, rfl, rfl⟩, aT_in (List.mem_of_getElem? (i := 656) (by decide +kernel)) rfl, ivX7_addedAt.1, ivX7_addedAt.2⟩
theorem lvL_86 : aLV RL 86 mX8_addedAt 8 3 := ⟨oX8_addedAt, ⟨_, rfl, rfl⟩, aT_in (List.mem_of_getElem? (i := 1133) (by decide +kernel)) rfl, ivX8_addedAt.1, ivX8_addedAt.2⟩
theorem lvL_87 : aLV RL 87 mX7_next 7 2 := ⟨oX7_next, ⟨_, rfl, rfl⟩, aT_in (List.mem_of_getElem? (i := 671) (by decide +kernel)) rfl, ivX7_next.1, ivX7_next.2⟩
theorem lvL_90 : aLV RL 90 mX8_next 8 2 := ⟨oX8_next, ⟨_, rfl, rfl⟩, aT_in (List.mem_of_getElem? (i := 1141) (by decide +kernel)) rfl, ivX8_next.1, ivX8_next.2⟩
theorem lvL_91 : aLV RL 91 mX7_soonest 7 3 := ⟨oX7_soonest, ⟨_, rfl, rfl⟩, aT_in (List.mem_of_getElem? (i := 697) (by decide +kernel)) rfl, ivX7_soonest.1, ivX7_soonest.2⟩
theorem lvL_94 : aLV RL 94 mX8_soonest 8 3 := ⟨oX8_soonest, ⟨_, rfl, rfl⟩, aT_in (List.mem_of_getElem? (i := 1160) (by decide +kernel)) rfl, ivX8_soonest.1, ivX8_soonest.2⟩
theorem lvL_95 : aLV RL 95 mX7_likely 7 2 := ⟨oX7_likely, ⟨_, rfl, rfl⟩, aT_in (List.mem_of_getElem? (i := 704) (by decide +kernel)) rfl, ivX7_likely.1, ivX7_likely.2⟩
theorem lvL_98 : aLV RL 98 mX8_likely 8 2 := ⟨oX8_likely, ⟨_, rfl, rfl⟩, aT_in (List.mem_of_getElem? (i := 1165) (by decide +kernel)) rfl, ivX8_likely.1, ivX8_likely.2⟩
theorem lvL_99 : aLV RL 99 mX7_hands 7 1 := ⟨oX7_hands, ⟨_, rfl, rfl⟩, aT_in (List.mem_of_getElem? (i := 709) (by decide +kernel)) rfl, ivX7_hands.1, ivX7_hands.2⟩
theorem lvX0_104 : aLV RX0 104 mX0_longestRow 0 4 := ⟨oX0_longestRow, ⟨_, rfl, rfl⟩, aT_in (List.mem_of_getElem? (i := 670) (by decide +kernel)) rfl, ivX0_longestRow.1, ivX0_longestRow.2⟩
theorem lvX0_108 : aLV RX0 108 mX0_writerOf 0 2 := ⟨oX0_writerOf, ⟨_, rfl, rfl⟩, aT_in (List.mem_of_getElem? (i := 759) (by decide +kernel)) rfl, ivX0_writerOf.1, ivX0_writerOf.2⟩
theorem lvX0_111 : aLV RX0 111 mX6_makeLook 6 3 := ⟨oX6_makeLook, ⟨_, rfl, rfl⟩, aT_in (List.mem_of_getElem? (i := 760) (by decide +kernel)) rfl, ivX6_makeLook.1, ivX6_makeLook.2⟩
theorem lvX0_28 : aLV RX0 28 mX6_hasPaper 6 1 := ⟨oX6_hasPaper, ⟨_, rfl, rfl⟩, aT_in (List.mem_of_getElem? (i := 450) (by decide +kernel)) rfl, ivX6_hasPaper.1, ivX6_hasPaper.2⟩
theorem lvX0_43 : aLV RX0 43 mX0_beginPaper 0 4 := ⟨oX0_beginPaper, ⟨_, rfl, rfl⟩, aT_in (List.mem_of_getElem? (i := 454) (by decide +kernel)) rfl, ivX0_beginPaper.1, ivX0_beginPaper.2⟩
theorem lvX0_47 : aLV RX0 47 mX0_put 0 4 := ⟨oX0_put, ⟨_, rfl, rfl⟩, aT_in (List.mem_of_getElem? (i := 458) (by decide +kernel)) rfl, ivX0_put.1, ivX0_put.2⟩
theorem lvX0_59 : aLV RX0 59 mX0_countOf 0 1 := ⟨oX0_countOf, ⟨_, rfl, rfl⟩, aT_in (List.mem_of_getElem? (i := 523) (by decide +kernel)) rfl, ivX0_countOf.1, ivX0_countOf.2⟩
theorem lvX0_63 : aLV RX0 63 mX0_isForged 0 2 := ⟨oX0_isForged, ⟨_, rfl, rfl⟩, aT_in (List.mem_of_getElem? (i := 524) (by decide +kernel)) rfl, ivX0_isForged.1, ivX0_isForged.2⟩
theorem lvX0_67 : aLV RX0 67 mX0_hasLetter 0 2 := ⟨oX0_hasLetter, ⟨_, rfl, rfl⟩, aT_in (List.mem_of_getElem? (i := 532) (by decide +kernel)) rfl, ivX0_hasLetter.1, ivX0_hasLetter.2⟩
theorem lvX0_70 : aLV RX0 70 mX0_airOf 0 2 := ⟨oX0_airOf, ⟨_, rfl, rfl⟩, aT_in (List.mem_of_getElem? (i := 528) (by decide +kernel)) rfl, ivX0_airOf.1, ivX0_airOf.2⟩
theorem lvX0_74 : aLV RX0 74 mX6_lookAt 6 2 := ⟨oX6_lookAt, ⟨_, rfl, rfl⟩, aT_in (List.mem_of_getElem? (i := 541) (by decide +kernel)) rfl, ivX6_lookAt.1, ivX6_lookAt.2⟩
theorem lvX0_77 : aLV RX0 77 mX0_lookOf 0 3 := ⟨oX0_lookOf, ⟨_, rfl, rfl⟩, aT_in (List.mem_of_getElem? (i := 655) (by decide +kernel)) rfl, ivX0_lookOf.1, ivX0_lookOf.2⟩
theorem lvX0_81 : aLV RX0 81 mX0_hourOf 0 2 := ⟨oX0_hourOf, ⟨_, rfl, rfl⟩, aT_in (List.mem_of_getElem? (i := 725) (by decide +kernel)) rfl, ivX0_hourOf.1, ivX0_hourOf.2⟩
theorem lvX0_84 : aLV RX0 84 mX0_looksAsBy 0 4 := ⟨oX0_looksAsBy, ⟨_, rfl, rfl⟩, aT_in (List.mem_of_getElem? (i := 721) (by decide +kernel)) rfl, ivX0_looksAsBy.1, ivX0_looksAsBy.2⟩
theorem lvX0_95 : aLV RX0 95 mX0_rowFrom 0 5 := ⟨oX0_rowFrom, ⟨_, rfl, rfl⟩, aT_in (List.mem_of_getElem? (i := 664) (by decide +kernel)) rfl, ivX0_rowFrom.1, ivX0_rowFrom.2⟩
theorem lvX1_28 : aLV RX1 28 mX0_countOf 0 1 := ⟨oX0_countOf, ⟨_, rfl, rfl⟩, aT_in (List.mem_of_getElem? (i := 679) (by decide +kernel)) rfl, ivX0_countOf.1, ivX0_countOf.2⟩
theorem lvX1_43 : aLV RX1 43 mX0_lookOf 0 3 := ⟨oX0_lookOf, ⟨_, rfl, rfl⟩, aT_in (List.mem_of_getElem? (i := 683) (by decide +kernel)) rfl, ivX0_lookOf.1, ivX0_lookOf.2⟩
theorem lvX1_47 : aLV RX1 47 mX6_lookAt 6 2 := ⟨oX6_lookAt, ⟨_, rfl, rfl⟩, aT_in (List.mem_of_getElem? (i := 684) (by decide +kernel)) rfl, ivX6_lookAt.1, ivX6_lookAt.2⟩
theorem lvX1_51 : aLV RX1 51 mX1_greatestPart 1 2 := ⟨oX1_greatestPart, ⟨_, rfl, rfl⟩, aT_in (List.mem_of_getElem? (i := 689) (by decide +kernel)) rfl, ivX1_greatestPart.1, ivX1_greatestPart.2⟩
theorem lvX2_26 : aLV RX2 26 mX0_hasLetter 0 2 := ⟨oX0_hasLetter, ⟨_, rfl, rfl⟩, aT_in (List.mem_of_getElem? (i := 782) (by decide +kernel)) rfl, ivX0_hasLetter.1, ivX0_hasLetter.2⟩
theorem lvX2_32 : aLV RX2 32 mX0_lookOf 0 3 := ⟨oX0_lookOf, ⟨_, rfl, rfl⟩, aT_in (List.mem_of_getElem? (i := 783) (by decide +kernel)) rfl, ivX0_lookOf.1, ivX0_lookOf.2⟩
theorem lvX3_40 : aLV RX3 40 mX3_begin 3 1 := ⟨oX3_begin, ⟨_, rfl, rfl⟩, aT_in (List.mem_of_getElem? (i := 577) (by decide +kernel)) rfl, ivX3_begin.1, ivX3_begin.2⟩
theorem lvX3_44 : aLV RX3 44 mX0_dropLast 0 1 := ⟨oX0_dropLast, ⟨_, rfl, rfl⟩, aT_in (List.mem_of_getElem? (i := 623) (by decide +kernel)) rfl, ivX0_dropLast.1, ivX0_dropLast.2⟩
theorem lvX3_49 : aLV RX3 49 mX0_put 0 4 := ⟨oX0_put, ⟨_, rfl, rfl⟩, aT_in (List.mem_of_getElem? (i := 624) (by decide +kernel)) rfl, ivX0_put.1, ivX0_put.2⟩
theorem lvX4_24 : aLV RX4 24 mX0_countAsBy 0 3 := ⟨oX0_countAsBy, ⟨_, rfl, rfl⟩, aT_in (List.mem_of_getElem? (i := 717) (by decide +kernel)) rfl, ivX0_countAsBy.1, ivX0_countAsBy.2⟩
theorem lvX4_42 : aLV RX4 42 mX4_likenessOf 4 3 := ⟨oX4_likenessOf, ⟨_, rfl, rfl⟩, aT_in (List.mem_of_getElem? (i := 731) (by decide +kernel)) rfl, ivX4_likenessOf.1, ivX4_likenessOf.2⟩
theorem lvX5_29 : aLV RX5 29 mX5_skipBlanks 5 0 := ⟨oX5_skipBlanks, ⟨_, rfl, rfl⟩, aT_in (List.mem_of_getElem? (i := 363) (by decide +kernel)) rfl, ivX5_skipBlanks.1, ivX5_skipBlanks.2⟩
theorem lvX5_32 : aLV RX5 32 mX5_readClause 5 1 := ⟨oX5_readClause, ⟨_, rfl, rfl⟩, aT_in (List.mem_of_getElem? (i := 371) (by decide +kernel)) rfl, ivX5_readClause.1, ivX5_readClause.2⟩
theorem lvX5_36 : aLV RX5 36 mX5_current 5 0 := ⟨oX5_current, ⟨_, rfl, rfl⟩, aT_in (List.mem_of_getElem? (i := 367) (by decide +kernel)) rfl, ivX5_current.1, ivX5_current.2⟩
theorem lvX5_44 : aLV RX5 44 mX5_fail 5 2 := ⟨oX5_fail, ⟨_, rfl, rfl⟩, aT_in (List.mem_of_getElem? (i := 378) (by decide +kernel)) rfl, ivX5_fail.1, ivX5_fail.2⟩
theorem lvX5_51 : aLV RX5 51 mX5_readWeather 5 1 := ⟨oX5_readWeather, ⟨_, rfl, rfl⟩, aT_in (List.mem_of_getElem? (i := 385) (by decide +kernel)) rfl, ivX5_readWeather.1, ivX5_readWeather.2⟩
theorem lvX5_54 : aLV RX5 54 mX5_readRains 5 1 := ⟨oX5_readRains, ⟨_, rfl, rfl⟩, aT_in (List.mem_of_getElem? (i := 396) (by decide +kernel)) rfl, ivX5_readRains.1, ivX5_readRains.2⟩
theorem lvX5_57 : aLV RX5 57 mX5_readHand 5 1 := ⟨oX5_readHand, ⟨_, rfl, rfl⟩, aT_in (List.mem_of_getElem? (i := 404) (by decide +kernel)) rfl, ivX5_readHand.1, ivX5_readHand.2⟩
theorem lvX5_60 : aLV RX5 60 mX5_readPaper 5 1 := ⟨oX5_readPaper, ⟨_, rfl, rfl⟩, aT_in (List.mem_of_getElem? (i := 408) (by decide +kernel)) rfl, ivX5_readPaper.1, ivX5_readPaper.2⟩
theorem lvX5_63 : aLV RX5 63 mX5_takeIf 5 1 := ⟨oX5_takeIf, ⟨_, rfl, rfl⟩, aT_in (List.mem_of_getElem? (i := 400) (by decide +kernel)) rfl, ivX5_takeIf.1, ivX5_takeIf.2⟩
theorem lvX5_82 : aLV RX5 82 mX5_readNumber 5 2 := ⟨oX5_readNumber, ⟨_, rfl, rfl⟩, aT_in (List.mem_of_getElem? (i := 389) (by decide +kernel)) rfl, ivX5_readNumber.1, ivX5_readNumber.2⟩
theorem lvX6_68 : aLV RX6 68 mX6_hasHand 6 1 := ⟨oX6_hasHand, ⟨_, rfl, rfl⟩, aT_in (List.mem_of_getElem? (i := 424) (by decide +kernel)) rfl, ivX6_hasHand.1, ivX6_hasHand.2⟩
theorem lvX6_72 : aLV RX6 72 mX6_windAt 6 1 := ⟨oX6_windAt, ⟨_, rfl, rfl⟩, aT_in (List.mem_of_getElem? (i := 428) (by decide +kernel)) rfl, ivX6_windAt.1, ivX6_windAt.2⟩
theorem lvX6_76 : aLV RX6 76 mX6_dampAt 6 2 := ⟨oX6_dampAt, ⟨_, rfl, rfl⟩, aT_in (List.mem_of_getElem? (i := 432) (by decide +kernel)) rfl, ivX6_dampAt.1, ivX6_dampAt.2⟩
theorem lvX6_79 : aLV RX6 79 mX6_lightAt 6 1 := ⟨oX6_lightAt, ⟨_, rfl, rfl⟩, aT_in (List.mem_of_getElem? (i := 442) (by decide +kernel)) rfl, ivX6_lightAt.1, ivX6_lightAt.2⟩
theorem lvX6_82 : aLV RX6 82 mX6_rainOf 6 1 := ⟨oX6_rainOf, ⟨_, rfl, rfl⟩, aT_in (List.mem_of_getElem? (i := 416) (by decide +kernel)) rfl, ivX6_rainOf.1, ivX6_rainOf.2⟩
theorem lvX6_85 : aLV RX6 85 mX6_makeLook 6 3 := ⟨oX6_makeLook, ⟨_, rfl, rfl⟩, aT_in (List.mem_of_getElem? (i := 420) (by decide +kernel)) rfl, ivX6_makeLook.1, ivX6_makeLook.2⟩
theorem lvX6_92 : aLV RX6 92 mX6_lookAt 6 2 := ⟨oX6_lookAt, ⟨_, rfl, rfl⟩, aT_in (List.mem_of_getElem? (i := 638) (by decide +kernel)) rfl, ivX6_lookAt.1, ivX6_lookAt.2⟩
theorem lvX7_102 : aLV RX7 102 mX7_dropMeasures 7 0 := ⟨oX7_dropMeasures, ⟨_, rfl, rfl⟩, aT_in (List.mem_of_getElem? (i := 466) (by decide +kernel)) rfl, ivX7_dropMeasures.1, ivX7_dropMeasures.2⟩
theorem lvX7_133 : aLV RX7 133 mX0_countAll 0 0 := ⟨oX0_countAll, ⟨_, rfl, rfl⟩, aT_in (List.mem_of_getElem? (i := 484) (by decide +kernel)) rfl, ivX0_countAll.1, ivX0_countAll.2⟩
theorem lvX7_144 : aLV RX7 144 mX6_windAt 6 1 := ⟨oX6_windAt, ⟨_, rfl, rfl⟩, aT_in (List.mem_of_getElem? (i := 496) (by decide +kernel)) rfl, ivX6_windAt.1, ivX6_windAt.2⟩
theorem lvX7_147 : aLV RX7 147 mX6_rainOf 6 1 := ⟨oX6_rainOf, ⟨_, rfl, rfl⟩, aT_in (List.mem_of_getElem? (i := 497) (by decide +kernel)) rfl, ivX6_rainOf.1, ivX6_rainOf.2⟩
theorem lvX7_150 : aLV RX7 150 mX6_dampAt 6 2 := ⟨oX6_dampAt, ⟨_, rfl, rfl⟩, aT_in (List.mem_of_getElem? (i := 498) (by decide +kernel)) rfl, ivX6_dampAt.1, ivX6_dampAt.2⟩
theorem lvX7_154 : aLV RX7 154 mX6_lightAt 6 1 := ⟨oX6_lightAt, ⟨_, rfl, rfl⟩, aT_in (List.mem_of_getElem? (i := 499) (by decide +kernel)) rfl, ivX6_lightAt.1, ivX6_lightAt.2⟩
theorem lvX7_157 : aLV RX7 157 mX6_hasHand 6 1 := ⟨oX6_hasHand, ⟨_, rfl, rfl⟩, aT_in (List.mem_of_getElem? (i := 504) (by decide +kernel)) rfl, ivX6_hasHand.1, ivX6_hasHand.2⟩
theorem lvX7_170 : aLV RX7 170 mX6_hasPaper 6 1 := ⟨oX6_hasPaper, ⟨_, rfl, rfl⟩, aT_in (List.mem_of_getElem? (i := 510) (by decide +kernel)) rfl, ivX6_hasPaper.1, ivX6_hasPaper.2⟩
theorem lvX7_173 : aLV RX7 173 mX7_ofAllLetters 7 2 := ⟨oX7_ofAllLetters, ⟨_, rfl, rfl⟩, aT_in (List.mem_of_getElem? (i := 511) (by decide +kernel)) rfl, ivX7_ofAllLetters.1, ivX7_ofAllLetters.2⟩
theorem lvX7_176 : aLV RX7 176 mX0_hasLetter 0 2 := ⟨oX0_hasLetter, ⟨_, rfl, rfl⟩, aT_in (List.mem_of_getElem? (i := 536) (by decide +kernel)) rfl, ivX0_hasLetter.1, ivX0_hasLetter.2⟩
theorem lvX7_180 : aLV RX7 180 mX0_lookOf 0 3 := ⟨oX0_lookOf, ⟨_, rfl, rfl⟩, aT_in (List.mem_of_getElem? (i := 537) (by decide +kernel)) rfl, ivX0_lookOf.1, ivX0_lookOf.2⟩
theorem lvX7_184 : aLV RX7 184 mX0_hourOf 0 2 := ⟨oX0_hourOf, ⟨_, rfl, rfl⟩, aT_in (List.mem_of_getElem? (i := 546) (by decide +kernel)) rfl, ivX0_hourOf.1, ivX0_hourOf.2⟩
theorem lvX7_187 : aLV RX7 187 mX0_writerOf 0 2 := ⟨oX0_writerOf, ⟨_, rfl, rfl⟩, aT_in (List.mem_of_getElem? (i := 550) (by decide +kernel)) rfl, ivX0_writerOf.1, ivX0_writerOf.2⟩
theorem lvX7_190 : aLV RX7 190 mX7_isMeasured 7 2 := ⟨oX7_isMeasured, ⟨_, rfl, rfl⟩, aT_in (List.mem_of_getElem? (i := 554) (by decide +kernel)) rfl, ivX7_isMeasured.1, ivX7_isMeasured.2⟩
theorem lvX7_193 : aLV RX7 193 mX0_isForged 0 2 := ⟨oX0_isForged, ⟨_, rfl, rfl⟩, aT_in (List.mem_of_getElem? (i := 558) (by decide +kernel)) rfl, ivX0_isForged.1, ivX0_isForged.2⟩
theorem lvX7_196 : aLV RX7 196 mX0_isFull 0 1 := ⟨oX0_isFull, ⟨_, rfl, rfl⟩, aT_in (List.mem_of_getElem? (i := 563) (by decide +kernel)) rfl, ivX0_isFull.1, ivX0_isFull.2⟩
theorem lvX7_200 : aLV RX7 200 mX7_append 7 4 := ⟨oX7_append, ⟨_, rfl, rfl⟩, aT_in (List.mem_of_getElem? (i := 568) (by decide +kernel)) rfl, ivX7_append.1, ivX7_append.2⟩
theorem lvX7_204 : aLV RX7 204 mX0_countOf 0 1 := ⟨oX0_countOf, ⟨_, rfl, rfl⟩, aT_in (List.mem_of_getElem? (i := 515) (by decide +kernel)) rfl, ivX0_countOf.1, ivX0_countOf.2⟩
theorem lvX7_207 : aLV RX7 207 mX0_airOf 0 2 := ⟨oX0_airOf, ⟨_, rfl, rfl⟩, aT_in (List.mem_of_getElem? (i := 586) (by decide +kernel)) rfl, ivX0_airOf.1, ivX0_airOf.2⟩
theorem lvX7_210 : aLV RX7 210 mX3_noteBlotted 3 4 := ⟨oX3_noteBlotted, ⟨_, rfl, rfl⟩, aT_in (List.mem_of_getElem? (i := 587) (by decide +kernel)) rfl, ivX3_noteBlotted.1, ivX3_noteBlotted.2⟩
theorem lvX7_213 : aLV RX7 213 mX0_dropLast 0 1 := ⟨oX0_dropLast, ⟨_, rfl, rfl⟩, aT_in (List.mem_of_getElem? (i := 591) (by decide +kernel)) rfl, ivX0_dropLast.1, ivX0_dropLast.2⟩
theorem lvX7_217 : aLV RX7 217 mX3_noteBottled 3 1 := ⟨oX3_noteBottled, ⟨_, rfl, rfl⟩, aT_in (List.mem_of_getElem? (i := 599) (by decide +kernel)) rfl, ivX3_noteBottled.1, ivX3_noteBottled.2⟩
theorem lvX7_220 : aLV RX7 220 mX0_draw 0 1 := ⟨oX0_draw, ⟨_, rfl, rfl⟩, aT_in (List.mem_of_getElem? (i := 607) (by decide +kernel)) rfl, ivX0_draw.1, ivX0_draw.2⟩
theorem lvX7_223 : aLV RX7 223 mX3_takeBackLast 3 1 := ⟨oX3_takeBackLast, ⟨_, rfl, rfl⟩, aT_in (List.mem_of_getElem? (i := 619) (by decide +kernel)) rfl, ivX3_takeBackLast.1, ivX3_takeBackLast.2⟩
theorem lvX7_227 : aLV RX7 227 mX6_lookAt 6 2 := ⟨oX6_lookAt, ⟨_, rfl, rfl⟩, aT_in (List.mem_of_getElem? (i := 629) (by decide +kernel)) rfl, ivX6_lookAt.1, ivX6_lookAt.2⟩
theorem lvX7_230 : aLV RX7 230 mX6_hoursOfLook 6 3 := ⟨oX6_hoursOfLook, ⟨_, rfl, rfl⟩, aT_in (List.mem_of_getElem? (i := 634) (by decide +kernel)) rfl, ivX6_hoursOfLook.1, ivX6_hoursOfLook.2⟩
theorem lvX7_234 : aLV RX7 234 mX6_firstHour 6 3 := ⟨oX6_firstHour, ⟨_, rfl, rfl⟩, aT_in (List.mem_of_getElem? (i := 643) (by decide +kernel)) rfl, ivX6_firstHour.1, ivX6_firstHour.2⟩
theorem lvX7_237 : aLV RX7 237 mX0_rowFrom 0 5 := ⟨oX0_rowFrom, ⟨_, rfl, rfl⟩, aT_in (List.mem_of_getElem? (i := 651) (by decide +kernel)) rfl, ivX0_rowFrom.1, ivX0_rowFrom.2⟩
theorem lvX7_241 : aLV RX7 241 mX0_longestRow 0 4 := ⟨oX0_longestRow, ⟨_, rfl, rfl⟩, aT_in (List.mem_of_getElem? (i := 660) (by decide +kernel)) rfl, ivX0_longestRow.1, ivX0_longestRow.2⟩
theorem lvX7_245 : aLV RX7 245 mX0_fewestRows 0 3 := ⟨oX0_fewestRows, ⟨_, rfl, rfl⟩, aT_in (List.mem_of_getElem? (i := 666) (by decide +kernel)) rfl, ivX0_fewestRows.1, ivX0_fewestRows.2⟩
theorem lvX7_248 : aLV RX7 248 mX1_gather 1 4 := ⟨oX1_gather, ⟨_, rfl, rfl⟩, aT_in (List.mem_of_getElem? (i := 675) (by decide +kernel)) rfl, ivX1_gather.1, ivX1_gather.2⟩
theorem lvX7_253 : aLV RX7 253 mX1_bestLetter 1 2 := ⟨oX1_bestLetter, ⟨_, rfl, rfl⟩, aT_in (List.mem_of_getElem? (i := 685) (by decide +kernel)) rfl, ivX1_bestLetter.1, ivX1_bestLetter.2⟩
theorem lvX7_261 : aLV RX7 261 mX4_compare 4 2 := ⟨oX4_compare, ⟨_, rfl, rfl⟩, aT_in (List.mem_of_getElem? (i := 713) (by decide +kernel)) rfl, ivX4_compare.1, ivX4_compare.2⟩
theorem lvX7_265 : aLV RX7 265 mX4_search 4 2 := ⟨oX4_search, ⟨_, rfl, rfl⟩, aT_in (List.mem_of_getElem? (i := 726) (by decide +kernel)) rfl, ivX4_search.1, ivX4_search.2⟩
theorem lvX7_272 : aLV RX7 272 mX4_handOf 4 2 := ⟨oX4_handOf, ⟨_, rfl, rfl⟩, aT_in (List.mem_of_getElem? (i := 738) (by decide +kernel)) rfl, ivX4_handOf.1, ivX4_handOf.2⟩
theorem lvX7_275 : aLV RX7 275 mX0_looksAsBy 0 4 := ⟨oX0_looksAsBy, ⟨_, rfl, rfl⟩, aT_in (List.mem_of_getElem? (i := 746) (by decide +kernel)) rfl, ivX0_looksAsBy.1, ivX0_looksAsBy.2⟩
theorem lvX7_279 : aLV RX7 279 mX0_fitsRain 0 3 := ⟨oX0_fitsRain, ⟨_, rfl, rfl⟩, aT_in (List.mem_of_getElem? (i := 755) (by decide +kernel)) rfl, ivX0_fitsRain.1, ivX0_fitsRain.2⟩
theorem lvX7_288 : aLV RX7 288 mX2_enter 2 3 := ⟨oX2_enter, ⟨_, rfl, rfl⟩, aT_in (List.mem_of_getElem? (i := 769) (by decide +kernel)) rfl, ivX2_enter.1, ivX2_enter.2⟩
theorem lvX7_291 : aLV RX7 291 mX2_firstWrong 2 2 := ⟨oX2_firstWrong, ⟨_, rfl, rfl⟩, aT_in (List.mem_of_getElem? (i := 778) (by decide +kernel)) rfl, ivX2_firstWrong.1, ivX2_firstWrong.2⟩
theorem lvX7_301 : aLV RX7 301 mX7_imageOf 7 1 := ⟨oX7_imageOf, ⟨_, rfl, rfl⟩, aT_in (List.mem_of_getElem? (i := 799) (by decide +kernel)) rfl, ivX7_imageOf.1, ivX7_imageOf.2⟩
theorem lvX7_305 : aLV RX7 305 mX0_copyFrom 0 1 := ⟨oX0_copyFrom, ⟨_, rfl, rfl⟩, aT_in (List.mem_of_getElem? (i := 803) (by decide +kernel)) rfl, ivX0_copyFrom.1, ivX0_copyFrom.2⟩
theorem lvX7_308 : aLV RX7 308 mX0_countForged 0 1 := ⟨oX0_countForged, ⟨_, rfl, rfl⟩, aT_in (List.mem_of_getElem? (i := 519) (by decide +kernel)) rfl, ivX0_countForged.1, ivX0_countForged.2⟩
theorem lvX7_311 : aLV RX7 311 mX0_put 0 4 := ⟨oX0_put, ⟨_, rfl, rfl⟩, aT_in (List.mem_of_getElem? (i := 572) (by decide +kernel)) rfl, ivX0_put.1, ivX0_put.2⟩
theorem lvX7_314 : aLV RX7 314 mX3_noteAdded 3 1 := ⟨oX3_noteAdded, ⟨_, rfl, rfl⟩, aT_in (List.mem_of_getElem? (i := 573) (by decide +kernel)) rfl, ivX3_noteAdded.1, ivX3_noteAdded.2⟩
theorem lvX7_76 : aLV RX7 76 mX5_take 5 1 := ⟨oX5_take, ⟨_, rfl, rfl⟩, aT_in (List.mem_of_getElem? (i := 346) (by decide +kernel)) rfl, ivX5_take.1, ivX5_take.2⟩
theorem lvX7_80 : aLV RX7 80 mX6_clear 6 0 := ⟨oX6_clear, ⟨_, rfl, rfl⟩, aT_in (List.mem_of_getElem? (i := 355) (by decide +kernel)) rfl, ivX6_clear.1, ivX6_clear.2⟩
theorem lvX7_83 : aLV RX7 83 mX5_readInto 5 1 := ⟨oX5_readInto, ⟨_, rfl, rfl⟩, aT_in (List.mem_of_getElem? (i := 359) (by decide +kernel)) rfl, ivX5_readInto.1, ivX5_readInto.2⟩
theorem lvX7_88 : aLV RX7 88 mX6_fillLooks 6 0 := ⟨oX6_fillLooks, ⟨_, rfl, rfl⟩, aT_in (List.mem_of_getElem? (i := 412) (by decide +kernel)) rfl, ivX6_fillLooks.1, ivX6_fillLooks.2⟩
theorem lvX7_91 : aLV RX7 91 mX0_beginAs 0 1 := ⟨oX0_beginAs, ⟨_, rfl, rfl⟩, aT_in (List.mem_of_getElem? (i := 446) (by decide +kernel)) rfl, ivX0_beginAs.1, ivX0_beginAs.2⟩
theorem lvX7_99 : aLV RX7 99 mX3_forget 3 0 := ⟨oX3_forget, ⟨_, rfl, rfl⟩, aT_in (List.mem_of_getElem? (i := 462) (by decide +kernel)) rfl, ivX3_forget.1, ivX3_forget.2⟩
theorem lvX8_102 : aLV RX8 102 mX8_takeNumber 8 0 := ⟨oX8_takeNumber, ⟨_, rfl, rfl⟩, aT_in (List.mem_of_getElem? (i := 955) (by decide +kernel)) rfl, ivX8_takeNumber.1, ivX8_takeNumber.2⟩
theorem lvX8_109 : aLV RX8 109 mX8_takeIn 8 2 := ⟨oX8_takeIn, ⟨_, rfl, rfl⟩, aT_in (List.mem_of_getElem? (i := 951) (by decide +kernel)) rfl, ivX8_takeIn.1, ivX8_takeIn.2⟩
theorem lvX8_122 : aLV RX8 122 mX8_takeValley 8 1 := ⟨oX8_takeValley, ⟨_, rfl, rfl⟩, aT_in (List.mem_of_getElem? (i := 947) (by decide +kernel)) rfl, ivX8_takeValley.1, ivX8_takeValley.2⟩
theorem lvX8_126 : aLV RX8 126 mX8_takeRains 8 1 := ⟨oX8_takeRains, ⟨_, rfl, rfl⟩, aT_in (List.mem_of_getElem? (i := 962) (by decide +kernel)) rfl, ivX8_takeRains.1, ivX8_takeRains.2⟩
theorem lvX8_129 : aLV RX8 129 mX8_takeHand 8 1 := ⟨oX8_takeHand, ⟨_, rfl, rfl⟩, aT_in (List.mem_of_getElem? (i := 966) (by decide +kernel)) rfl, ivX8_takeHand.1, ivX8_takeHand.2⟩
theorem lvX8_132 : aLV RX8 132 mX8_takePaper 8 1 := ⟨oX8_takePaper, ⟨_, rfl, rfl⟩, aT_in (List.mem_of_getElem? (i := 970) (by decide +kernel)) rfl, ivX8_takePaper.1, ivX8_takePaper.2⟩
theorem lvX8_135 : aLV RX8 135 mX8_takeClause 8 0 := ⟨oX8_takeClause, ⟨_, rfl, rfl⟩, aT_in (List.mem_of_getElem? (i := 939) (by decide +kernel)) rfl, ivX8_takeClause.1, ivX8_takeClause.2⟩
theorem lvX8_138 : aLV RX8 138 mX8_take 8 0 := ⟨oX8_take, ⟨_, rfl, rfl⟩, aT_in (List.mem_of_getElem? (i := 974) (by decide +kernel)) rfl, ivX8_take.1, ivX8_take.2⟩
theorem lvX8_153 : aLV RX8 153 mX8_takeHands 8 0 := ⟨oX8_takeHands, ⟨_, rfl, rfl⟩, aT_in (List.mem_of_getElem? (i := 978) (by decide +kernel)) rfl, ivX8_takeHands.1, ivX8_takeHands.2⟩
theorem lvX8_156 : aLV RX8 156 mX8_put 8 4 := ⟨oX8_put, ⟨_, rfl, rfl⟩, aT_in (List.mem_of_getElem? (i := 982) (by decide +kernel)) rfl, ivX8_put.1, ivX8_put.2⟩
theorem lvX8_166 : aLV RX8 166 mX8_isPaper 8 1 := ⟨oX8_isPaper, ⟨_, rfl, rfl⟩, aT_in (List.mem_of_getElem? (i := 1036) (by decide +kernel)) rfl, ivX8_isPaper.1, ivX8_isPaper.2⟩
theorem lvX8_176 : aLV RX8 176 mX8_allLetters 8 0 := ⟨oX8_allLetters, ⟨_, rfl, rfl⟩, aT_in (List.mem_of_getElem? (i := 997) (by decide +kernel)) rfl, ivX8_allLetters.1, ivX8_allLetters.2⟩
theorem lvX8_185 : aLV RX8 185 mX8_rainOf 8 1 := ⟨oX8_rainOf, ⟨_, rfl, rfl⟩, aT_in (List.mem_of_getElem? (i := 1011) (by decide +kernel)) rfl, ivX8_rainOf.1, ivX8_rainOf.2⟩
theorem lvX8_189 : aLV RX8 189 mX8_dampBy 8 2 := ⟨oX8_dampBy, ⟨_, rfl, rfl⟩, aT_in (List.mem_of_getElem? (i := 1015) (by decide +kernel)) rfl, ivX8_dampBy.1, ivX8_dampBy.2⟩
theorem lvX8_192 : aLV RX8 192 mX8_lightAt 8 1 := ⟨oX8_lightAt, ⟨_, rfl, rfl⟩, aT_in (List.mem_of_getElem? (i := 1019) (by decide +kernel)) rfl, ivX8_lightAt.1, ivX8_lightAt.2⟩
theorem lvX8_195 : aLV RX8 195 mX8_isHand 8 1 := ⟨oX8_isHand, ⟨_, rfl, rfl⟩, aT_in (List.mem_of_getElem? (i := 1027) (by decide +kernel)) rfl, ivX8_isHand.1, ivX8_isHand.2⟩
theorem lvX8_199 : aLV RX8 199 mX8_lookBy 8 3 := ⟨oX8_lookBy, ⟨_, rfl, rfl⟩, aT_in (List.mem_of_getElem? (i := 1068) (by decide +kernel)) rfl, ivX8_lookBy.1, ivX8_lookBy.2⟩
theorem lvX8_203 : aLV RX8 203 mX8_airOf 8 2 := ⟨oX8_airOf, ⟨_, rfl, rfl⟩, aT_in (List.mem_of_getElem? (i := 1048) (by decide +kernel)) rfl, ivX8_airOf.1, ivX8_airOf.2⟩
theorem lvX8_206 : aLV RX8 206 mX8_handOf 8 2 := ⟨oX8_handOf, ⟨_, rfl, rfl⟩, aT_in (List.mem_of_getElem? (i := 1056) (by decide +kernel)) rfl, ivX8_handOf.1, ivX8_handOf.2⟩
theorem lvX8_209 : aLV RX8 209 mX8_hourOf 8 2 := ⟨oX8_hourOf, ⟨_, rfl, rfl⟩, aT_in (List.mem_of_getElem? (i := 1060) (by decide +kernel)) rfl, ivX8_hourOf.1, ivX8_hourOf.2⟩
theorem lvX8_212 : aLV RX8 212 mX8_lookAt 8 2 := ⟨oX8_lookAt, ⟨_, rfl, rfl⟩, aT_in (List.mem_of_getElem? (i := 1064) (by decide +kernel)) rfl, ivX8_lookAt.1, ivX8_lookAt.2⟩
theorem lvX8_215 : aLV RX8 215 mX8_isLetter 8 2 := ⟨oX8_isLetter, ⟨_, rfl, rfl⟩, aT_in (List.mem_of_getElem? (i := 1040) (by decide +kernel)) rfl, ivX8_isLetter.1, ivX8_isLetter.2⟩
theorem lvX8_219 : aLV RX8 219 mX8_forgedIn 8 1 := ⟨oX8_forgedIn, ⟨_, rfl, rfl⟩, aT_in (List.mem_of_getElem? (i := 1044) (by decide +kernel)) rfl, ivX8_forgedIn.1, ivX8_forgedIn.2⟩
theorem lvX8_222 : aLV RX8 222 mX8_lookOf 8 2 := ⟨oX8_lookOf, ⟨_, rfl, rfl⟩, aT_in (List.mem_of_getElem? (i := 1052) (by decide +kernel)) rfl, ivX8_lookOf.1, ivX8_lookOf.2⟩
theorem lvX8_225 : aLV RX8 225 mX8_copy 8 2 := ⟨oX8_copy, ⟨_, rfl, rfl⟩, aT_in (List.mem_of_getElem? (i := 1080) (by decide +kernel)) rfl, ivX8_copy.1, ivX8_copy.2⟩
theorem lvX8_229 : aLV RX8 229 mX8_remember 8 0 := ⟨oX8_remember, ⟨_, rfl, rfl⟩, aT_in (List.mem_of_getElem? (i := 1076) (by decide +kernel)) rfl, ivX8_remember.1, ivX8_remember.2⟩
theorem lvX8_241 : aLV RX8 241 mX8_draw 8 1 := ⟨oX8_draw, ⟨_, rfl, rfl⟩, aT_in (List.mem_of_getElem? (i := 1097) (by decide +kernel)) rfl, ivX8_draw.1, ivX8_draw.2⟩
theorem lvX8_244 : aLV RX8 244 mX8_hoursOf 8 3 := ⟨oX8_hoursOf, ⟨_, rfl, rfl⟩, aT_in (List.mem_of_getElem? (i := 1117) (by decide +kernel)) rfl, ivX8_hoursOf.1, ivX8_hoursOf.2⟩
theorem lvX8_247 : aLV RX8 247 mX8_runFrom 8 4 := ⟨oX8_runFrom, ⟨_, rfl, rfl⟩, aT_in (List.mem_of_getElem? (i := 1129) (by decide +kernel)) rfl, ivX8_runFrom.1, ivX8_runFrom.2⟩
theorem lvX8_251 : aLV RX8 251 mX8_longestRun 8 3 := ⟨oX8_longestRun, ⟨_, rfl, rfl⟩, aT_in (List.mem_of_getElem? (i := 1137) (by decide +kernel)) rfl, ivX8_longestRun.1, ivX8_longestRun.2⟩
theorem lvX8_257 : aLV RX8 257 mX8_couldBegin 8 3 := ⟨oX8_couldBegin, ⟨_, rfl, rfl⟩, aT_in (List.mem_of_getElem? (i := 1149) (by decide +kernel)) rfl, ivX8_couldBegin.1, ivX8_couldBegin.2⟩
theorem lvX8_261 : aLV RX8 261 mX8_findBegins 8 1 := ⟨oX8_findBegins, ⟨_, rfl, rfl⟩, aT_in (List.mem_of_getElem? (i := 1145) (by decide +kernel)) rfl, ivX8_findBegins.1, ivX8_findBegins.2⟩
theorem lvX8_264 : aLV RX8 264 mX8_greatestPart 8 1 := ⟨oX8_greatestPart, ⟨_, rfl, rfl⟩, aT_in (List.mem_of_getElem? (i := 1156) (by decide +kernel)) rfl, ivX8_greatestPart.1, ivX8_greatestPart.2⟩
theorem lvX8_273 : aLV RX8 273 mX8_layFits 8 0 := ⟨oX8_layFits, ⟨_, rfl, rfl⟩, aT_in (List.mem_of_getElem? (i := 1174) (by decide +kernel)) rfl, ivX8_layFits.1, ivX8_layFits.2⟩
theorem lvX8_276 : aLV RX8 276 mX8_fitsBy 8 1 := ⟨oX8_fitsBy, ⟨_, rfl, rfl⟩, aT_in (List.mem_of_getElem? (i := 1178) (by decide +kernel)) rfl, ivX8_fitsBy.1, ivX8_fitsBy.2⟩
theorem lvX8_281 : aLV RX8 281 mX8_rained 8 2 := ⟨oX8_rained, ⟨_, rfl, rfl⟩, aT_in (List.mem_of_getElem? (i := 1198) (by decide +kernel)) rfl, ivX8_rained.1, ivX8_rained.2⟩
theorem lvX8_86 : aLV RX8 86 mX8_here 8 0 := ⟨oX8_here, ⟨_, rfl, rfl⟩, aT_in (List.mem_of_getElem? (i := 935) (by decide +kernel)) rfl, ivX8_here.1, ivX8_here.2⟩
theorem lvX8_97 : aLV RX8 97 mX8_want 8 3 := ⟨oX8_want, ⟨_, rfl, rfl⟩, aT_in (List.mem_of_getElem? (i := 943) (by decide +kernel)) rfl, ivX8_want.1, ivX8_want.2⟩
