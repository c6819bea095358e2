/-- java/util/Arrays.fill([II)V -/
def hdr_0 : jm_Hd := ((⟨"java/util/Arrays", "fill", "([II)V"⟩, prog_28_method_103_code, 4, none), (0, 0))
/-- java/lang/Double.isNaN(D)Z -/
def hdr_1 : jm_Hd := ((⟨"java/lang/Double", "isNaN", "(D)Z"⟩, prog_15_method_6_code, 2, some .boolean), (0, 0))
/-- java/lang/Double.doubleToLongBits(D)J -/
def hdr_2 : jm_Hd := ((⟨"java/lang/Double", "doubleToLongBits", "(D)J"⟩, prog_15_method_23_code, 2, some .long), (1, 40))
/-- java/lang/Float.isNaN(F)Z -/
def hdr_3 : jm_Hd := ((⟨"java/lang/Float", "isNaN", "(F)Z"⟩, prog_17_method_6_code, 1, some .boolean), (0, 0))
/-- java/lang/Float.floatToIntBits(F)I -/
def hdr_4 : jm_Hd := ((⟨"java/lang/Float", "floatToIntBits", "(F)I"⟩, prog_17_method_24_code, 1, some .int), (1, 40))
/-- FrameRound.feed(IIIII)I -/
def hdr_5 : jm_Hd := ((⟨"FrameRound", "feed", "(IIIII)I"⟩, prog_1_method_2_code, 6, some .int), (1, 22))
/-- FrameRound.plan(I)I -/
def hdr_6 : jm_Hd := ((⟨"FrameRound", "plan", "(I)I"⟩, prog_1_method_3_code, 4, some .int), (9, 222))
/-- FrameRound.fault()I -/
def hdr_7 : jm_Hd := ((⟨"FrameRound", "fault", "()I"⟩, prog_1_method_4_code, 1, some .int), (0, 0))
/-- FrameRound.where()I -/
def hdr_8 : jm_Hd := ((⟨"FrameRound", "where", "()I"⟩, prog_1_method_5_code, 1, some .int), (0, 0))
/-- FrameRound.refused(I)I -/
def hdr_9 : jm_Hd := ((⟨"FrameRound", "refused", "(I)I"⟩, prog_1_method_6_code, 2, some .int), (0, 0))
/-- FrameRound.answered(I)I -/
def hdr_10 : jm_Hd := ((⟨"FrameRound", "answered", "(I)I"⟩, prog_1_method_7_code, 2, some .int), (0, 0))
/-- FrameRound.beginClock()V -/
def hdr_11 : jm_Hd := ((⟨"FrameRound", "beginClock", "()V"⟩, prog_1_method_8_code, 1, none), (1, 20))
/-- FrameRound.mode(II)I -/
def hdr_12 : jm_Hd := ((⟨"FrameRound", "mode", "(II)I"⟩, prog_1_method_9_code, 4, some .int), (1, 22))
/-- FrameRound.task(III)I -/
def hdr_13 : jm_Hd := ((⟨"FrameRound", "task", "(III)I"⟩, prog_1_method_10_code, 5, some .int), (2, 49))
/-- FrameRound.job(III)I -/
def hdr_14 : jm_Hd := ((⟨"FrameRound", "job", "(III)I"⟩, prog_1_method_11_code, 5, some .int), (2, 43))
/-- FrameRound.load(I)J -/
def hdr_15 : jm_Hd := ((⟨"FrameRound", "load", "(I)J"⟩, prog_1_method_12_code, 6, some .long), (1, 29))
/-- FrameRound.isMode(I)Z -/
def hdr_16 : jm_Hd := ((⟨"FrameRound", "isMode", "(I)Z"⟩, prog_1_method_13_code, 2, some .boolean), (0, 0))
/-- FrameRound.isTask(II)Z -/
def hdr_17 : jm_Hd := ((⟨"FrameRound", "isTask", "(II)Z"⟩, prog_1_method_14_code, 3, some .boolean), (1, 21))
/-- FrameRound.isJob(II)Z -/
def hdr_18 : jm_Hd := ((⟨"FrameRound", "isJob", "(II)Z"⟩, prog_1_method_15_code, 3, some .boolean), (1, 21))
/-- FrameRound.isFrame(II)Z -/
def hdr_19 : jm_Hd := ((⟨"FrameRound", "isFrame", "(II)Z"⟩, prog_1_method_16_code, 3, some .boolean), (1, 21))
/-- FrameRound.judge(II)I -/
def hdr_20 : jm_Hd := ((⟨"FrameRound", "judge", "(II)I"⟩, prog_1_method_17_code, 4, some .int), (5, 115))
/-- FrameRound.most(II)I -/
def hdr_21 : jm_Hd := ((⟨"FrameRound", "most", "(II)I"⟩, prog_1_method_18_code, 4, some .int), (4, 92))
/-- FrameRound.over(II)I -/
def hdr_22 : jm_Hd := ((⟨"FrameRound", "over", "(II)I"⟩, prog_1_method_19_code, 5, some .int), (4, 92))
/-- FrameRound.cutFrames(II)I -/
def hdr_23 : jm_Hd := ((⟨"FrameRound", "cutFrames", "(II)I"⟩, prog_1_method_20_code, 4, some .int), (4, 92))
/-- FrameRound.cutJobs(II)I -/
def hdr_24 : jm_Hd := ((⟨"FrameRound", "cutJobs", "(II)I"⟩, prog_1_method_21_code, 4, some .int), (4, 92))
/-- FrameRound.goods(I)I -/
def hdr_25 : jm_Hd := ((⟨"FrameRound", "goods", "(I)I"⟩, prog_1_method_22_code, 4, some .int), (6, 133))
/-- FrameRound.good(II)I -/
def hdr_26 : jm_Hd := ((⟨"FrameRound", "good", "(II)I"⟩, prog_1_method_23_code, 5, some .int), (6, 133))
/-- FrameRound.piecesBy(II)I -/
def hdr_27 : jm_Hd := ((⟨"FrameRound", "piecesBy", "(II)I"⟩, prog_1_method_24_code, 4, some .int), (6, 133))
/-- FrameRound.fewestBy(I)I -/
def hdr_28 : jm_Hd := ((⟨"FrameRound", "fewestBy", "(I)I"⟩, prog_1_method_25_code, 5, some .int), (6, 133))
/-- FrameRound.headroom(II)I -/
def hdr_29 : jm_Hd := ((⟨"FrameRound", "headroom", "(II)I"⟩, prog_1_method_26_code, 7, some .int), (5, 113))
/-- FrameRound.reserveUpTo(I)I -/
def hdr_30 : jm_Hd := ((⟨"FrameRound", "reserveUpTo", "(I)I"⟩, prog_1_method_27_code, 6, some .int), (5, 112))
/-- FrameRound.lengthRefusal(II)I -/
def hdr_31 : jm_Hd := ((⟨"FrameRound", "lengthRefusal", "(II)I"⟩, prog_1_method_28_code, 3, some .int), (1, 21))
/-- FrameRound.spreadBy(II)I -/
def hdr_32 : jm_Hd := ((⟨"FrameRound", "spreadBy", "(II)I"⟩, prog_1_method_29_code, 3, some .int), (3, 70))
/-- FrameRound.judgement(LFrameRound$Mode;I)I -/
def hdr_33 : jm_Hd := ((⟨"FrameRound", "judgement", "(LFrameRound$Mode;I)I"⟩, prog_1_method_30_code, 6, some .int), (4, 90))
/-- FrameRound.isGood(LFrameRound$Mode;I)Z -/
def hdr_34 : jm_Hd := ((⟨"FrameRound", "isGood", "(LFrameRound$Mode;I)Z"⟩, prog_1_method_31_code, 3, some .boolean), (5, 111))
/-- FrameRound.fitsWithReserve(LFrameRound$Mode;I)Z -/
def hdr_35 : jm_Hd := ((⟨"FrameRound", "fitsWithReserve", "(LFrameRound$Mode;I)Z"⟩, prog_1_method_32_code, 3, some .boolean), (4, 90))
/-- FrameRound.hasTable(I)I -/
def hdr_36 : jm_Hd := ((⟨"FrameRound", "hasTable", "(I)I"⟩, prog_1_method_33_code, 2, some .int), (1, 21))
/-- FrameRound.pieces(I)I -/
def hdr_37 : jm_Hd := ((⟨"FrameRound", "pieces", "(I)I"⟩, prog_1_method_34_code, 3, some .int), (2, 43))
/-- FrameRound.swaps(I)I -/
def hdr_38 : jm_Hd := ((⟨"FrameRound", "swaps", "(I)I"⟩, prog_1_method_35_code, 3, some .int), (2, 43))
/-- FrameRound.share(III)I -/
def hdr_39 : jm_Hd := ((⟨"FrameRound", "share", "(III)I"⟩, prog_1_method_36_code, 5, some .int), (2, 43))
/-- FrameRound.begins(III)I -/
def hdr_40 : jm_Hd := ((⟨"FrameRound", "begins", "(III)I"⟩, prog_1_method_37_code, 5, some .int), (2, 43))
/-- FrameRound.finishes(II)I -/
def hdr_41 : jm_Hd := ((⟨"FrameRound", "finishes", "(II)I"⟩, prog_1_method_38_code, 4, some .int), (2, 46))
/-- FrameRound.slack(II)I -/
def hdr_42 : jm_Hd := ((⟨"FrameRound", "slack", "(II)I"⟩, prog_1_method_39_code, 4, some .int), (2, 43))
/-- FrameRound.openAt(II)I -/
def hdr_43 : jm_Hd := ((⟨"FrameRound", "openAt", "(II)I"⟩, prog_1_method_40_code, 4, some .int), (2, 45))
/-- FrameRound.tableRefusal(IZ)I -/
def hdr_44 : jm_Hd := ((⟨"FrameRound", "tableRefusal", "(IZ)I"⟩, prog_1_method_41_code, 3, some .int), (1, 21))
/-- FrameRound.clock(I)I -/
def hdr_45 : jm_Hd := ((⟨"FrameRound", "clock", "(I)I"⟩, prog_1_method_42_code, 2, some .int), (1, 21))
/-- FrameRound.ahead(II)I -/
def hdr_46 : jm_Hd := ((⟨"FrameRound", "ahead", "(II)I"⟩, prog_1_method_43_code, 4, some .int), (5, 106))
/-- FrameRound.waiting(II)I -/
def hdr_47 : jm_Hd := ((⟨"FrameRound", "waiting", "(II)I"⟩, prog_1_method_44_code, 3, some .int), (6, 130))
/-- FrameRound.canTake(II)I -/
def hdr_48 : jm_Hd := ((⟨"FrameRound", "canTake", "(II)I"⟩, prog_1_method_45_code, 4, some .int), (4, 93))
/-- FrameRound.take(II)I -/
def hdr_49 : jm_Hd := ((⟨"FrameRound", "take", "(II)I"⟩, prog_1_method_46_code, 4, some .int), (4, 93))
/-- FrameRound.soonest(I)I -/
def hdr_50 : jm_Hd := ((⟨"FrameRound", "soonest", "(I)I"⟩, prog_1_method_47_code, 4, some .int), (4, 93))
/-- FrameRound.greatest(I)I -/
def hdr_51 : jm_Hd := ((⟨"FrameRound", "greatest", "(I)I"⟩, prog_1_method_48_code, 4, some .int), (4, 93))
/-- FrameRound.spare()I -/
def hdr_52 : jm_Hd := ((⟨"FrameRound", "spare", "()I"⟩, prog_1_method_49_code, 2, some .int), (5, 111))
/-- FrameRound.step(I)I -/
def hdr_53 : jm_Hd := ((⟨"FrameRound", "step", "(I)I"⟩, prog_1_method_50_code, 4, some .int), (5, 111))
/-- FrameRound.run(I)I -/
def hdr_54 : jm_Hd := ((⟨"FrameRound", "run", "(I)I"⟩, prog_1_method_51_code, 5, some .int), (4, 89))
/-- FrameRound.safeEnd(I)I -/
def hdr_55 : jm_Hd := ((⟨"FrameRound", "safeEnd", "(I)I"⟩, prog_1_method_52_code, 3, some .int), (5, 114))
/-- FrameRound.change(I)I -/
def hdr_56 : jm_Hd := ((⟨"FrameRound", "change", "(I)I"⟩, prog_1_method_53_code, 4, some .int), (5, 114))
/-- FrameRound.keep()Z -/
def hdr_57 : jm_Hd := ((⟨"FrameRound", "keep", "()Z"⟩, prog_1_method_54_code, 1, some .boolean), (2, 61))
/-- FrameRound.back()Z -/
def hdr_58 : jm_Hd := ((⟨"FrameRound", "back", "()Z"⟩, prog_1_method_55_code, 1, some .boolean), (2, 61))
/-- FrameRound.clockRefusal(Z)I -/
def hdr_59 : jm_Hd := ((⟨"FrameRound", "clockRefusal", "(Z)I"⟩, prog_1_method_56_code, 2, some .int), (0, 0))
/-- FrameRound.switchRefusal(I)I -/
def hdr_60 : jm_Hd := ((⟨"FrameRound", "switchRefusal", "(I)I"⟩, prog_1_method_57_code, 3, some .int), (1, 21))
/-- FrameRound.isNeed(I)Z -/
def hdr_61 : jm_Hd := ((⟨"FrameRound", "isNeed", "(I)Z"⟩, prog_1_method_58_code, 1, some .boolean), (0, 0))
/-- FrameRound.isDue(I)Z -/
def hdr_62 : jm_Hd := ((⟨"FrameRound", "isDue", "(I)Z"⟩, prog_1_method_59_code, 2, some .boolean), (0, 0))
/-- FrameRound.framesToSwitch()I -/
def hdr_63 : jm_Hd := ((⟨"FrameRound", "framesToSwitch", "()I"⟩, prog_1_method_60_code, 2, some .int), (1, 20))
/-- FrameRound.modeAhead(I)I -/
def hdr_64 : jm_Hd := ((⟨"FrameRound", "modeAhead", "(I)I"⟩, prog_1_method_61_code, 2, some .int), (2, 41))
/-- FrameRound.frameAhead(I)I -/
def hdr_65 : jm_Hd := ((⟨"FrameRound", "frameAhead", "(I)I"⟩, prog_1_method_62_code, 4, some .int), (3, 62))
/-- FrameRound.beginningAhead(I)I -/
def hdr_66 : jm_Hd := ((⟨"FrameRound", "beginningAhead", "(I)I"⟩, prog_1_method_63_code, 4, some .int), (3, 62))
/-- FrameRound.slackAhead(I)I -/
def hdr_67 : jm_Hd := ((⟨"FrameRound", "slackAhead", "(I)I"⟩, prog_1_method_64_code, 2, some .int), (4, 85))
/-- FrameRound.endOfWaiting(I)I -/
def hdr_68 : jm_Hd := ((⟨"FrameRound", "endOfWaiting", "(I)I"⟩, prog_1_method_65_code, 5, some .int), (5, 106))
/-- FrameRound.surveyAhead()V -/
def hdr_69 : jm_Hd := ((⟨"FrameRound", "surveyAhead", "()V"⟩, prog_1_method_66_code, 1, none), (1, 26))
/-- FrameRound.spareNow()I -/
def hdr_70 : jm_Hd := ((⟨"FrameRound", "spareNow", "()I"⟩, prog_1_method_67_code, 2, some .int), (4, 90))
/-- FrameRound.goThroughFrame(I)V -/
def hdr_71 : jm_Hd := ((⟨"FrameRound", "goThroughFrame", "(I)V"⟩, prog_1_method_68_code, 3, none), (3, 67))
/-- FrameRound.firstSafeEnd(I)I -/
def hdr_72 : jm_Hd := ((⟨"FrameRound", "firstSafeEnd", "(I)I"⟩, prog_1_method_69_code, 5, some .int), (4, 90))
/-- FrameRound.recost(III)I -/
def hdr_73 : jm_Hd := ((⟨"FrameRound", "recost", "(III)I"⟩, prog_1_method_70_code, 5, some .int), (7, 154))
/-- FrameRound.reframe(II)I -/
def hdr_74 : jm_Hd := ((⟨"FrameRound", "reframe", "(II)I"⟩, prog_1_method_71_code, 5, some .int), (7, 154))
/-- FrameRound.reserve(II)I -/
def hdr_75 : jm_Hd := ((⟨"FrameRound", "reserve", "(II)I"⟩, prog_1_method_72_code, 5, some .int), (7, 154))
/-- FrameRound.makeAnew(I)V -/
def hdr_76 : jm_Hd := ((⟨"FrameRound", "makeAnew", "(I)V"⟩, prog_1_method_73_code, 2, none), (6, 133))
/-- FrameRound.ticks(III)J -/
def hdr_77 : jm_Hd := ((⟨"FrameRound", "ticks", "(III)J"⟩, prog_1_method_74_code, 5, some .long), (2, 45))
/-- FrameRound.astray(III)I -/
def hdr_78 : jm_Hd := ((⟨"FrameRound", "astray", "(III)I"⟩, prog_1_method_75_code, 8, some .int), (2, 45))
/-- FrameRound.timerRefusal(III)I -/
def hdr_79 : jm_Hd := ((⟨"FrameRound", "timerRefusal", "(III)I"⟩, prog_1_method_76_code, 5, some .int), (1, 21))
/-- FrameRound.idle(I)I -/
def hdr_80 : jm_Hd := ((⟨"FrameRound", "idle", "(I)I"⟩, prog_1_method_77_code, 3, some .int), (1, 23))
/-- FrameRound.size(I)I -/
def hdr_81 : jm_Hd := ((⟨"FrameRound", "size", "(I)I"⟩, prog_1_method_78_code, 2, some .int), (1, 22))
/-- FrameRound.trouble()I -/
def hdr_82 : jm_Hd := ((⟨"FrameRound", "trouble", "()I"⟩, prog_1_method_79_code, 1, some .int), (0, 0))
/-- FrameRound.commonDivisor(II)I -/
def hdr_83 : jm_Hd := ((⟨"FrameRound", "commonDivisor", "(II)I"⟩, prog_1_method_80_code, 6, some .int), (0, 0))
/-- FrameRoundModel.thrown()I -/
def hdr_84 : jm_Hd := ((⟨"FrameRoundModel", "thrown", "()I"⟩, prog_11_method_1_code, 1, some .int), (0, 0))
/-- FrameRoundModel.in(III)Z -/
def hdr_85 : jm_Hd := ((⟨"FrameRoundModel", "in", "(III)Z"⟩, prog_11_method_2_code, 3, some .boolean), (0, 0))
/-- FrameRoundModel.anew()V -/
def hdr_86 : jm_Hd := ((⟨"FrameRoundModel", "anew", "()V"⟩, prog_11_method_3_code, 1, none), (0, 0))
/-- FrameRoundModel.no(I)I -/
def hdr_87 : jm_Hd := ((⟨"FrameRoundModel", "no", "(I)I"⟩, prog_11_method_4_code, 2, some .int), (0, 0))
/-- FrameRoundModel.feed(IIIII)I -/
def hdr_88 : jm_Hd := ((⟨"FrameRoundModel", "feed", "(IIIII)I"⟩, prog_11_method_6_code, 6, some .int), (1, 22))
/-- FrameRoundModel.laysWord(I)V -/
def hdr_89 : jm_Hd := ((⟨"FrameRoundModel", "laysWord", "(I)V"⟩, prog_11_method_7_code, 3, none), (0, 0))
/-- FrameRoundModel.common(II)I -/
def hdr_90 : jm_Hd := ((⟨"FrameRoundModel", "common", "(II)I"⟩, prog_11_method_8_code, 5, some .int), (0, 0))
/-- FrameRoundModel.roundWith(II)I -/
def hdr_91 : jm_Hd := ((⟨"FrameRoundModel", "roundWith", "(II)I"⟩, prog_11_method_9_code, 5, some .int), (1, 24))
/-- FrameRoundModel.see(I)I -/
def hdr_92 : jm_Hd := ((⟨"FrameRoundModel", "see", "(I)I"⟩, prog_11_method_10_code, 2, some .int), (0, 0))
/-- FrameRoundModel.reads()V -/
def hdr_93 : jm_Hd := ((⟨"FrameRoundModel", "reads", "()V"⟩, prog_11_method_11_code, 2, none), (1, 22))
/-- FrameRoundModel.isWord(Ljava/lang/String;)Z -/
def hdr_94 : jm_Hd := ((⟨"FrameRoundModel", "isWord", "(Ljava/lang/String;)Z"⟩, prog_11_method_12_code, 3, some .boolean), (5, 130))
/-- FrameRoundModel.errs(I)I -/
def hdr_95 : jm_Hd := ((⟨"FrameRoundModel", "errs", "(I)I"⟩, prog_11_method_13_code, 2, some .int), (0, 0))
/-- FrameRoundModel.told(Ljava/lang/String;II)I -/
def hdr_96 : jm_Hd := ((⟨"FrameRoundModel", "told", "(Ljava/lang/String;II)I"⟩, prog_11_method_14_code, 4, some .int), (6, 152))
/-- FrameRoundModel.readMode()I -/
def hdr_97 : jm_Hd := ((⟨"FrameRoundModel", "readMode", "()I"⟩, prog_11_method_15_code, 4, some .int), (7, 175))
/-- FrameRoundModel.jobsWith(III)I -/
def hdr_98 : jm_Hd := ((⟨"FrameRoundModel", "jobsWith", "(III)I"⟩, prog_11_method_16_code, 6, some .int), (0, 0))
/-- FrameRoundModel.readTask()I -/
def hdr_99 : jm_Hd := ((⟨"FrameRoundModel", "readTask", "()I"⟩, prog_11_method_17_code, 8, some .int), (7, 175))
/-- FrameRoundModel.readLine()I -/
def hdr_100 : jm_Hd := ((⟨"FrameRoundModel", "readLine", "()I"⟩, prog_11_method_18_code, 1, some .int), (8, 202))
/-- FrameRoundModel.readPlan(I)I -/
def hdr_101 : jm_Hd := ((⟨"FrameRoundModel", "readPlan", "(I)I"⟩, prog_11_method_19_code, 2, some .int), (9, 222))
/-- FrameRoundModel.plan(I)I -/
def hdr_102 : jm_Hd := ((⟨"FrameRoundModel", "plan", "(I)I"⟩, prog_11_method_20_code, 5, some .int), (10, 243))
/-- FrameRoundModel.fault()I -/
def hdr_103 : jm_Hd := ((⟨"FrameRoundModel", "fault", "()I"⟩, prog_11_method_21_code, 1, some .int), (0, 0))
/-- FrameRoundModel.where()I -/
def hdr_104 : jm_Hd := ((⟨"FrameRoundModel", "where", "()I"⟩, prog_11_method_22_code, 1, some .int), (0, 0))
/-- FrameRoundModel.findsJobs(I)V -/
def hdr_105 : jm_Hd := ((⟨"FrameRoundModel", "findsJobs", "(I)V"⟩, prog_11_method_23_code, 5, none), (0, 0))
/-- FrameRoundModel.taskOf(II)I -/
def hdr_106 : jm_Hd := ((⟨"FrameRoundModel", "taskOf", "(II)I"⟩, prog_11_method_24_code, 3, some .int), (0, 0))
/-- FrameRoundModel.dueOf(II)I -/
def hdr_107 : jm_Hd := ((⟨"FrameRoundModel", "dueOf", "(II)I"⟩, prog_11_method_25_code, 3, some .int), (1, 22))
/-- FrameRoundModel.costsOf(I)I -/
def hdr_108 : jm_Hd := ((⟨"FrameRoundModel", "costsOf", "(I)I"⟩, prog_11_method_26_code, 4, some .int), (1, 22))
/-- FrameRoundModel.firstOf(III)I -/
def hdr_109 : jm_Hd := ((⟨"FrameRoundModel", "firstOf", "(III)I"⟩, prog_11_method_27_code, 4, some .int), (0, 0))
/-- FrameRoundModel.lastOf(III)I -/
def hdr_110 : jm_Hd := ((⟨"FrameRoundModel", "lastOf", "(III)I"⟩, prog_11_method_28_code, 4, some .int), (2, 44))
/-- FrameRoundModel.isEmpty(III)Z -/
def hdr_111 : jm_Hd := ((⟨"FrameRoundModel", "isEmpty", "(III)Z"⟩, prog_11_method_29_code, 4, some .boolean), (3, 67))
/-- FrameRoundModel.reach(III)I -/
def hdr_112 : jm_Hd := ((⟨"FrameRoundModel", "reach", "(III)I"⟩, prog_11_method_30_code, 7, some .int), (1, 24))
/-- FrameRoundModel.isMode(I)Z -/
def hdr_113 : jm_Hd := ((⟨"FrameRoundModel", "isMode", "(I)Z"⟩, prog_11_method_31_code, 2, some .boolean), (1, 22))
/-- FrameRoundModel.mode(II)I -/
def hdr_114 : jm_Hd := ((⟨"FrameRoundModel", "mode", "(II)I"⟩, prog_11_method_32_code, 3, some .int), (2, 45))
/-- FrameRoundModel.task(III)I -/
def hdr_115 : jm_Hd := ((⟨"FrameRoundModel", "task", "(III)I"⟩, prog_11_method_33_code, 5, some .int), (2, 50))
/-- FrameRoundModel.job(III)I -/
def hdr_116 : jm_Hd := ((⟨"FrameRoundModel", "job", "(III)I"⟩, prog_11_method_34_code, 5, some .int), (4, 90))
/-- FrameRoundModel.load(I)J -/
def hdr_117 : jm_Hd := ((⟨"FrameRoundModel", "load", "(I)J"⟩, prog_11_method_35_code, 5, some .long), (2, 61))
/-- FrameRoundModel.setsUp(II)V -/
def hdr_118 : jm_Hd := ((⟨"FrameRoundModel", "setsUp", "(II)V"⟩, prog_11_method_36_code, 4, none), (3, 67))
/-- FrameRoundModel.asksIn(II)I -/
def hdr_119 : jm_Hd := ((⟨"FrameRoundModel", "asksIn", "(II)I"⟩, prog_11_method_37_code, 5, some .int), (0, 0))
/-- FrameRoundModel.asksNowhere()I -/
def hdr_120 : jm_Hd := ((⟨"FrameRoundModel", "asksNowhere", "()I"⟩, prog_11_method_38_code, 3, some .int), (0, 0))
/-- FrameRoundModel.overWithout(I)I -/
def hdr_121 : jm_Hd := ((⟨"FrameRoundModel", "overWithout", "(I)I"⟩, prog_11_method_39_code, 6, some .int), (1, 24))
/-- FrameRoundModel.overAll()I -/
def hdr_122 : jm_Hd := ((⟨"FrameRoundModel", "overAll", "()I"⟩, prog_11_method_40_code, 1, some .int), (2, 49))
/-- FrameRoundModel.isLength(I)Z -/
def hdr_123 : jm_Hd := ((⟨"FrameRoundModel", "isLength", "(I)Z"⟩, prog_11_method_41_code, 2, some .boolean), (1, 22))
/-- FrameRoundModel.lengthWhy(II)I -/
def hdr_124 : jm_Hd := ((⟨"FrameRoundModel", "lengthWhy", "(II)I"⟩, prog_11_method_42_code, 3, some .int), (2, 43))
/-- FrameRoundModel.judged(II)I -/
def hdr_125 : jm_Hd := ((⟨"FrameRoundModel", "judged", "(II)I"⟩, prog_11_method_43_code, 5, some .int), (4, 90))
/-- FrameRoundModel.isGood(II)Z -/
def hdr_126 : jm_Hd := ((⟨"FrameRoundModel", "isGood", "(II)Z"⟩, prog_11_method_44_code, 3, some .boolean), (5, 114))
/-- FrameRoundModel.judge(II)I -/
def hdr_127 : jm_Hd := ((⟨"FrameRoundModel", "judge", "(II)I"⟩, prog_11_method_45_code, 4, some .int), (5, 114))
/-- FrameRoundModel.most(II)I -/
def hdr_128 : jm_Hd := ((⟨"FrameRoundModel", "most", "(II)I"⟩, prog_11_method_46_code, 4, some .int), (4, 90))
/-- FrameRoundModel.over(II)I -/
def hdr_129 : jm_Hd := ((⟨"FrameRoundModel", "over", "(II)I"⟩, prog_11_method_47_code, 4, some .int), (4, 90))
/-- FrameRoundModel.cutOf()I -/
def hdr_130 : jm_Hd := ((⟨"FrameRoundModel", "cutOf", "()I"⟩, prog_11_method_48_code, 4, some .int), (2, 49))
/-- FrameRoundModel.cutFrames(II)I -/
def hdr_131 : jm_Hd := ((⟨"FrameRoundModel", "cutFrames", "(II)I"⟩, prog_11_method_49_code, 4, some .int), (4, 90))
/-- FrameRoundModel.cutJobs(II)I -/
def hdr_132 : jm_Hd := ((⟨"FrameRoundModel", "cutJobs", "(II)I"⟩, prog_11_method_50_code, 9, some .int), (4, 90))
/-- FrameRoundModel.goods(I)I -/
def hdr_133 : jm_Hd := ((⟨"FrameRoundModel", "goods", "(I)I"⟩, prog_11_method_51_code, 4, some .int), (6, 136))
/-- FrameRoundModel.good(II)I -/
def hdr_134 : jm_Hd := ((⟨"FrameRoundModel", "good", "(II)I"⟩, prog_11_method_52_code, 5, some .int), (6, 136))
/-- FrameRoundModel.canBe(III)Z -/
def hdr_135 : jm_Hd := ((⟨"FrameRoundModel", "canBe", "(III)Z"⟩, prog_11_method_53_code, 9, some .boolean), (0, 0))
/-- FrameRoundModel.fills()V -/
def hdr_136 : jm_Hd := ((⟨"FrameRoundModel", "fills", "()V"⟩, prog_11_method_54_code, 6, none), (1, 28))
/-- FrameRoundModel.tidies()Z -/
def hdr_137 : jm_Hd := ((⟨"FrameRoundModel", "tidies", "()Z"⟩, prog_11_method_55_code, 5, some .boolean), (0, 0))
/-- FrameRoundModel.lays(II)V -/
def hdr_138 : jm_Hd := ((⟨"FrameRoundModel", "lays", "(II)V"⟩, prog_11_method_56_code, 3, none), (4, 90))
/-- FrameRoundModel.piecesThere()I -/
def hdr_139 : jm_Hd := ((⟨"FrameRoundModel", "piecesThere", "()I"⟩, prog_11_method_57_code, 3, some .int), (0, 0))
/-- FrameRoundModel.piecesBy(II)I -/
def hdr_140 : jm_Hd := ((⟨"FrameRoundModel", "piecesBy", "(II)I"⟩, prog_11_method_58_code, 4, some .int), (6, 136))
/-- FrameRoundModel.fewestBy(I)I -/
def hdr_141 : jm_Hd := ((⟨"FrameRoundModel", "fewestBy", "(I)I"⟩, prog_11_method_59_code, 6, some .int), (6, 136))
/-- FrameRoundModel.headroom(II)I -/
def hdr_142 : jm_Hd := ((⟨"FrameRoundModel", "headroom", "(II)I"⟩, prog_11_method_60_code, 5, some .int), (4, 90))
/-- FrameRoundModel.reserveUpTo(I)I -/
def hdr_143 : jm_Hd := ((⟨"FrameRoundModel", "reserveUpTo", "(I)I"⟩, prog_11_method_61_code, 3, some .int), (4, 90))
/-- FrameRoundModel.isLaid(I)Z -/
def hdr_144 : jm_Hd := ((⟨"FrameRoundModel", "isLaid", "(I)Z"⟩, prog_11_method_62_code, 4, some .boolean), (6, 136))
/-- FrameRoundModel.framesOf(I)I -/
def hdr_145 : jm_Hd := ((⟨"FrameRoundModel", "framesOf", "(I)I"⟩, prog_11_method_63_code, 2, some .int), (0, 0))
/-- FrameRoundModel.has(III)I -/
def hdr_146 : jm_Hd := ((⟨"FrameRoundModel", "has", "(III)I"⟩, prog_11_method_64_code, 4, some .int), (0, 0))
/-- FrameRoundModel.tableWhy(IZ)I -/
def hdr_147 : jm_Hd := ((⟨"FrameRoundModel", "tableWhy", "(IZ)I"⟩, prog_11_method_65_code, 3, some .int), (7, 159))
/-- FrameRoundModel.isJob(II)Z -/
def hdr_148 : jm_Hd := ((⟨"FrameRoundModel", "isJob", "(II)Z"⟩, prog_11_method_66_code, 3, some .boolean), (2, 43))
/-- FrameRoundModel.isFrame(II)Z -/
def hdr_149 : jm_Hd := ((⟨"FrameRoundModel", "isFrame", "(II)Z"⟩, prog_11_method_67_code, 3, some .boolean), (2, 43))
/-- FrameRoundModel.hasTable(I)I -/
def hdr_150 : jm_Hd := ((⟨"FrameRoundModel", "hasTable", "(I)I"⟩, prog_11_method_68_code, 2, some .int), (7, 159))
/-- FrameRoundModel.pieces(I)I -/
def hdr_151 : jm_Hd := ((⟨"FrameRoundModel", "pieces", "(I)I"⟩, prog_11_method_69_code, 5, some .int), (8, 181))
/-- FrameRoundModel.swaps(I)I -/
def hdr_152 : jm_Hd := ((⟨"FrameRoundModel", "swaps", "(I)I"⟩, prog_11_method_70_code, 3, some .int), (8, 181))
/-- FrameRoundModel.share(III)I -/
def hdr_153 : jm_Hd := ((⟨"FrameRoundModel", "share", "(III)I"⟩, prog_11_method_71_code, 5, some .int), (8, 181))
/-- FrameRoundModel.beginOf(III)I -/
def hdr_154 : jm_Hd := ((⟨"FrameRoundModel", "beginOf", "(III)I"⟩, prog_11_method_72_code, 7, some .int), (2, 44))
/-- FrameRoundModel.begins(III)I -/
def hdr_155 : jm_Hd := ((⟨"FrameRoundModel", "begins", "(III)I"⟩, prog_11_method_73_code, 5, some .int), (8, 181))
/-- FrameRoundModel.finishes(II)I -/
def hdr_156 : jm_Hd := ((⟨"FrameRoundModel", "finishes", "(II)I"⟩, prog_11_method_74_code, 5, some .int), (8, 181))
/-- FrameRoundModel.slack(II)I -/
def hdr_157 : jm_Hd := ((⟨"FrameRoundModel", "slack", "(II)I"⟩, prog_11_method_75_code, 4, some .int), (8, 181))
/-- FrameRoundModel.openOf(II)I -/
def hdr_158 : jm_Hd := ((⟨"FrameRoundModel", "openOf", "(II)I"⟩, prog_11_method_76_code, 7, some .int), (1, 23))
/-- FrameRoundModel.openAt(II)I -/
def hdr_159 : jm_Hd := ((⟨"FrameRoundModel", "openAt", "(II)I"⟩, prog_11_method_77_code, 4, some .int), (8, 181))
/-- FrameRoundModel.startsClock()V -/
def hdr_160 : jm_Hd := ((⟨"FrameRoundModel", "startsClock", "()V"⟩, prog_11_method_78_code, 2, none), (0, 0))
/-- FrameRoundModel.clockWhy(Z)I -/
def hdr_161 : jm_Hd := ((⟨"FrameRoundModel", "clockWhy", "(Z)I"⟩, prog_11_method_79_code, 2, some .int), (7, 159))
/-- FrameRoundModel.turns()V -/
def hdr_162 : jm_Hd := ((⟨"FrameRoundModel", "turns", "()V"⟩, prog_11_method_80_code, 1, none), (0, 0))
/-- FrameRoundModel.looks(II)V -/
def hdr_163 : jm_Hd := ((⟨"FrameRoundModel", "looks", "(II)V"⟩, prog_11_method_81_code, 3, none), (1, 20))
/-- FrameRoundModel.looksAhead()V -/
def hdr_164 : jm_Hd := ((⟨"FrameRoundModel", "looksAhead", "()V"⟩, prog_11_method_82_code, 1, none), (2, 42))
/-- FrameRoundModel.seenEnd()I -/
def hdr_165 : jm_Hd := ((⟨"FrameRoundModel", "seenEnd", "()I"⟩, prog_11_method_83_code, 1, some .int), (0, 0))
/-- FrameRoundModel.seenSlack()I -/
def hdr_166 : jm_Hd := ((⟨"FrameRoundModel", "seenSlack", "()I"⟩, prog_11_method_84_code, 1, some .int), (0, 0))
/-- FrameRoundModel.goesOn()V -/
def hdr_167 : jm_Hd := ((⟨"FrameRoundModel", "goesOn", "()V"⟩, prog_11_method_85_code, 1, none), (1, 21))
/-- FrameRoundModel.areInTime(I)Z -/
def hdr_168 : jm_Hd := ((⟨"FrameRoundModel", "areInTime", "(I)Z"⟩, prog_11_method_86_code, 7, some .boolean), (2, 41))
/-- FrameRoundModel.clock(I)I -/
def hdr_169 : jm_Hd := ((⟨"FrameRoundModel", "clock", "(I)I"⟩, prog_11_method_87_code, 2, some .int), (1, 22))
/-- FrameRoundModel.ahead(II)I -/
def hdr_170 : jm_Hd := ((⟨"FrameRoundModel", "ahead", "(II)I"⟩, prog_11_method_88_code, 5, some .int), (8, 180))
/-- FrameRoundModel.waiting(II)I -/
def hdr_171 : jm_Hd := ((⟨"FrameRoundModel", "waiting", "(II)I"⟩, prog_11_method_89_code, 5, some .int), (3, 62))
/-- FrameRoundModel.puts(II)I -/
def hdr_172 : jm_Hd := ((⟨"FrameRoundModel", "puts", "(II)I"⟩, prog_11_method_90_code, 4, some .int), (0, 0))
/-- FrameRoundModel.takesOut(I)V -/
def hdr_173 : jm_Hd := ((⟨"FrameRoundModel", "takesOut", "(I)V"⟩, prog_11_method_91_code, 3, none), (0, 0))
/-- FrameRoundModel.canBeTaken(II)Z -/
def hdr_174 : jm_Hd := ((⟨"FrameRoundModel", "canBeTaken", "(II)Z"⟩, prog_11_method_92_code, 5, some .boolean), (3, 67))
/-- FrameRoundModel.isNeed(I)Z -/
def hdr_175 : jm_Hd := ((⟨"FrameRoundModel", "isNeed", "(I)Z"⟩, prog_11_method_93_code, 2, some .boolean), (1, 22))
/-- FrameRoundModel.isDue(I)Z -/
def hdr_176 : jm_Hd := ((⟨"FrameRoundModel", "isDue", "(I)Z"⟩, prog_11_method_94_code, 2, some .boolean), (1, 22))
/-- FrameRoundModel.canTake(II)I -/
def hdr_177 : jm_Hd := ((⟨"FrameRoundModel", "canTake", "(II)I"⟩, prog_11_method_95_code, 4, some .int), (8, 180))
/-- FrameRoundModel.take(II)I -/
def hdr_178 : jm_Hd := ((⟨"FrameRoundModel", "take", "(II)I"⟩, prog_11_method_96_code, 4, some .int), (8, 180))
/-- FrameRoundModel.soonest(I)I -/
def hdr_179 : jm_Hd := ((⟨"FrameRoundModel", "soonest", "(I)I"⟩, prog_11_method_97_code, 4, some .int), (8, 180))
/-- FrameRoundModel.greatest(I)I -/
def hdr_180 : jm_Hd := ((⟨"FrameRoundModel", "greatest", "(I)I"⟩, prog_11_method_98_code, 4, some .int), (8, 180))
/-- FrameRoundModel.spareNow()I -/
def hdr_181 : jm_Hd := ((⟨"FrameRoundModel", "spareNow", "()I"⟩, prog_11_method_99_code, 3, some .int), (3, 67))
/-- FrameRoundModel.spare()I -/
def hdr_182 : jm_Hd := ((⟨"FrameRoundModel", "spare", "()I"⟩, prog_11_method_100_code, 2, some .int), (8, 180))
/-- FrameRoundModel.steps(I)I -/
def hdr_183 : jm_Hd := ((⟨"FrameRoundModel", "steps", "(I)I"⟩, prog_11_method_101_code, 8, some .int), (4, 89))
/-- FrameRoundModel.step(I)I -/
def hdr_184 : jm_Hd := ((⟨"FrameRoundModel", "step", "(I)I"⟩, prog_11_method_102_code, 3, some .int), (8, 180))
/-- FrameRoundModel.run(I)I -/
def hdr_185 : jm_Hd := ((⟨"FrameRoundModel", "run", "(I)I"⟩, prog_11_method_103_code, 5, some .int), (8, 180))
/-- FrameRoundModel.switchWhy(I)I -/
def hdr_186 : jm_Hd := ((⟨"FrameRoundModel", "switchWhy", "(I)I"⟩, prog_11_method_104_code, 3, some .int), (8, 180))
/-- FrameRoundModel.safeFor(I)I -/
def hdr_187 : jm_Hd := ((⟨"FrameRoundModel", "safeFor", "(I)I"⟩, prog_11_method_105_code, 5, some .int), (3, 67))
/-- FrameRoundModel.safeEnd(I)I -/
def hdr_188 : jm_Hd := ((⟨"FrameRoundModel", "safeEnd", "(I)I"⟩, prog_11_method_106_code, 3, some .int), (9, 202))
/-- FrameRoundModel.change(I)I -/
def hdr_189 : jm_Hd := ((⟨"FrameRoundModel", "change", "(I)I"⟩, prog_11_method_107_code, 4, some .int), (9, 202))
/-- FrameRoundModel.keep()Z -/
def hdr_190 : jm_Hd := ((⟨"FrameRoundModel", "keep", "()Z"⟩, prog_11_method_108_code, 2, some .boolean), (1, 20))
/-- FrameRoundModel.back()Z -/
def hdr_191 : jm_Hd := ((⟨"FrameRoundModel", "back", "()Z"⟩, prog_11_method_109_code, 2, some .boolean), (1, 20))
/-- FrameRoundModel.recost(III)I -/
def hdr_192 : jm_Hd := ((⟨"FrameRoundModel", "recost", "(III)I"⟩, prog_11_method_110_code, 5, some .int), (2, 43))
/-- FrameRoundModel.reframe(II)I -/
def hdr_193 : jm_Hd := ((⟨"FrameRoundModel", "reframe", "(II)I"⟩, prog_11_method_111_code, 4, some .int), (2, 43))
/-- FrameRoundModel.reserve(II)I -/
def hdr_194 : jm_Hd := ((⟨"FrameRoundModel", "reserve", "(II)I"⟩, prog_11_method_112_code, 4, some .int), (2, 43))
/-- FrameRoundModel.timerWhy(III)I -/
def hdr_195 : jm_Hd := ((⟨"FrameRoundModel", "timerWhy", "(III)I"⟩, prog_11_method_113_code, 4, some .int), (2, 43))
/-- FrameRoundModel.ticks(III)J -/
def hdr_196 : jm_Hd := ((⟨"FrameRoundModel", "ticks", "(III)J"⟩, prog_11_method_114_code, 7, some .long), (3, 66))
/-- FrameRoundModel.astray(III)I -/
def hdr_197 : jm_Hd := ((⟨"FrameRoundModel", "astray", "(III)I"⟩, prog_11_method_115_code, 7, some .int), (3, 66))
/-- FrameRoundModel.idle(I)I -/
def hdr_198 : jm_Hd := ((⟨"FrameRoundModel", "idle", "(I)I"⟩, prog_11_method_116_code, 7, some .int), (7, 159))
/-- FrameRoundModel.size(I)I -/
def hdr_199 : jm_Hd := ((⟨"FrameRoundModel", "size", "(I)I"⟩, prog_11_method_117_code, 5, some .int), (0, 0))
/-- FrameRoundModel.trouble()I -/
def hdr_200 : jm_Hd := ((⟨"FrameRoundModel", "trouble", "()I"⟩, prog_11_method_118_code, 1, some .int), (0, 0))
/-- FrameRound$Clock.begin()V -/
def hdr_201 : jm_Hd := ((⟨"FrameRound$Clock", "begin", "()V"⟩, prog_2_method_2_code, 1, none), (0, 0))
/-- FrameRound$Clock.become(LFrameRound$Clock;)V -/
def hdr_202 : jm_Hd := ((⟨"FrameRound$Clock", "become", "(LFrameRound$Clock;)V"⟩, prog_2_method_3_code, 2, none), (1, 40))
/-- FrameRound$Clock.tell(I)I -/
def hdr_203 : jm_Hd := ((⟨"FrameRound$Clock", "tell", "(I)I"⟩, prog_2_method_4_code, 2, some .int), (0, 0))
/-- FrameRound$Clock.hasSwitch()Z -/
def hdr_204 : jm_Hd := ((⟨"FrameRound$Clock", "hasSwitch", "()Z"⟩, prog_2_method_5_code, 1, some .boolean), (0, 0))
/-- FrameRound$Clock.needsUpTo(I)I -/
def hdr_205 : jm_Hd := ((⟨"FrameRound$Clock", "needsUpTo", "(I)I"⟩, prog_2_method_6_code, 4, some .int), (0, 0))
/-- FrameRound$Clock.add(II)I -/
def hdr_206 : jm_Hd := ((⟨"FrameRound$Clock", "add", "(II)I"⟩, prog_2_method_7_code, 5, some .int), (0, 0))
/-- FrameRound$Clock.advance(III)V -/
def hdr_207 : jm_Hd := ((⟨"FrameRound$Clock", "advance", "(III)V"⟩, prog_2_method_8_code, 8, none), (2, 40))
/-- FrameRound$Clock.noteDone(I)V -/
def hdr_208 : jm_Hd := ((⟨"FrameRound$Clock", "noteDone", "(I)V"⟩, prog_2_method_9_code, 2, none), (0, 0))
/-- FrameRound$Clock.removeFirst(I)V -/
def hdr_209 : jm_Hd := ((⟨"FrameRound$Clock", "removeFirst", "(I)V"⟩, prog_2_method_10_code, 3, none), (0, 0))
/-- FrameRound$Clock.switchIfTime()V -/
def hdr_210 : jm_Hd := ((⟨"FrameRound$Clock", "switchIfTime", "()V"⟩, prog_2_method_11_code, 1, none), (1, 20))
/-- FrameRound$Flow.lay(LFrameRound$Mode;II)V -/
def hdr_211 : jm_Hd := ((⟨"FrameRound$Flow", "lay", "(LFrameRound$Mode;II)V"⟩, prog_3_method_2_code, 5, none), (1, 21))
/-- FrameRound$Flow.isEmpty(I)Z -/
def hdr_212 : jm_Hd := ((⟨"FrameRound$Flow", "isEmpty", "(I)Z"⟩, prog_3_method_3_code, 2, some .boolean), (0, 0))
/-- FrameRound$Flow.hasEmptyWindow()Z -/
def hdr_213 : jm_Hd := ((⟨"FrameRound$Flow", "hasEmptyWindow", "()Z"⟩, prog_3_method_4_code, 2, some .boolean), (1, 21))
/-- FrameRound$Flow.allCosts()I -/
def hdr_214 : jm_Hd := ((⟨"FrameRound$Flow", "allCosts", "()I"⟩, prog_3_method_5_code, 3, some .int), (0, 0))
/-- FrameRound$Flow.isGoodIn(LFrameRound$Mode;)Z -/
def hdr_215 : jm_Hd := ((⟨"FrameRound$Flow", "isGoodIn", "(LFrameRound$Mode;)Z"⟩, prog_3_method_6_code, 2, some .boolean), (4, 90))
/-- FrameRound$Flow.fits()Z -/
def hdr_216 : jm_Hd := ((⟨"FrameRound$Flow", "fits", "()Z"⟩, prog_3_method_7_code, 1, some .boolean), (3, 70))
/-- FrameRound$Flow.fitsWithCost(II)Z -/
def hdr_217 : jm_Hd := ((⟨"FrameRound$Flow", "fitsWithCost", "(II)Z"⟩, prog_3_method_8_code, 4, some .boolean), (4, 90))
/-- FrameRound$Flow.empty()V -/
def hdr_218 : jm_Hd := ((⟨"FrameRound$Flow", "empty", "()V"⟩, prog_3_method_9_code, 2, none), (1, 23))
/-- FrameRound$Flow.spread()I -/
def hdr_219 : jm_Hd := ((⟨"FrameRound$Flow", "spread", "()I"⟩, prog_3_method_10_code, 3, some .int), (2, 48))
/-- FrameRound$Flow.spreadIn(I)I -/
def hdr_220 : jm_Hd := ((⟨"FrameRound$Flow", "spreadIn", "(I)I"⟩, prog_3_method_11_code, 6, some .int), (1, 23))
/-- FrameRound$Flow.mostUrgent(I)I -/
def hdr_221 : jm_Hd := ((⟨"FrameRound$Flow", "mostUrgent", "(I)I"⟩, prog_3_method_12_code, 4, some .int), (0, 0))
/-- FrameRound$Flow.put(III)V -/
def hdr_222 : jm_Hd := ((⟨"FrameRound$Flow", "put", "(III)V"⟩, prog_3_method_13_code, 4, none), (0, 0))
/-- FrameRound$Flow.cut()I -/
def hdr_223 : jm_Hd := ((⟨"FrameRound$Flow", "cut", "()I"⟩, prog_3_method_14_code, 5, some .int), (3, 65))
/-- FrameRound$Flow.window(I)I -/
def hdr_224 : jm_Hd := ((⟨"FrameRound$Flow", "window", "(I)I"⟩, prog_3_method_15_code, 2, some .int), (1, 21))
/-- FrameRound$Flow.windowsOf(I)I -/
def hdr_225 : jm_Hd := ((⟨"FrameRound$Flow", "windowsOf", "(I)I"⟩, prog_3_method_16_code, 4, some .int), (2, 42))
/-- FrameRound$Flow.holdersOf(I)I -/
def hdr_226 : jm_Hd := ((⟨"FrameRound$Flow", "holdersOf", "(I)I"⟩, prog_3_method_17_code, 5, some .int), (0, 0))
/-- FrameRound$Flow.jobsWithin(I)I -/
def hdr_227 : jm_Hd := ((⟨"FrameRound$Flow", "jobsWithin", "(I)I"⟩, prog_3_method_18_code, 4, some .int), (2, 42))
/-- FrameRound$Mode.begin(II)V -/
def hdr_228 : jm_Hd := ((⟨"FrameRound$Mode", "begin", "(II)V"⟩, prog_4_method_2_code, 3, none), (0, 0))
/-- FrameRound$Mode.round()I -/
def hdr_229 : jm_Hd := ((⟨"FrameRound$Mode", "round", "()I"⟩, prog_4_method_3_code, 1, some .int), (0, 0))
/-- FrameRound$Mode.isInRound(I)Z -/
def hdr_230 : jm_Hd := ((⟨"FrameRound$Mode", "isInRound", "(I)Z"⟩, prog_4_method_4_code, 2, some .boolean), (1, 20))
/-- FrameRound$Mode.commonWith(I)I -/
def hdr_231 : jm_Hd := ((⟨"FrameRound$Mode", "commonWith", "(I)I"⟩, prog_4_method_5_code, 3, some .int), (1, 25))
/-- FrameRound$Mode.jobsWith(I)I -/
def hdr_232 : jm_Hd := ((⟨"FrameRound$Mode", "jobsWith", "(I)I"⟩, prog_4_method_6_code, 5, some .int), (2, 47))
/-- FrameRound$Mode.jobsOf(I)I -/
def hdr_233 : jm_Hd := ((⟨"FrameRound$Mode", "jobsOf", "(I)I"⟩, prog_4_method_7_code, 2, some .int), (0, 0))
/-- FrameRound$Mode.addTask(II)I -/
def hdr_234 : jm_Hd := ((⟨"FrameRound$Mode", "addTask", "(II)I"⟩, prog_4_method_8_code, 4, some .int), (2, 47))
/-- FrameRound$Mode.numberJobs()V -/
def hdr_235 : jm_Hd := ((⟨"FrameRound$Mode", "numberJobs", "()V"⟩, prog_4_method_9_code, 3, none), (1, 22))
/-- FrameRound$Mode.isReleased(II)Z -/
def hdr_236 : jm_Hd := ((⟨"FrameRound$Mode", "isReleased", "(II)Z"⟩, prog_4_method_10_code, 3, some .boolean), (0, 0))
/-- FrameRound$Mode.reach(II)I -/
def hdr_237 : jm_Hd := ((⟨"FrameRound$Mode", "reach", "(II)I"⟩, prog_4_method_11_code, 5, some .int), (1, 25))
/-- FrameRound$Plan.allTasks()I -/
def hdr_238 : jm_Hd := ((⟨"FrameRound$Plan", "allTasks", "()I"⟩, prog_5_method_2_code, 3, some .int), (0, 0))
/-- FrameRound$Plan.allJobs()I -/
def hdr_239 : jm_Hd := ((⟨"FrameRound$Plan", "allJobs", "()I"⟩, prog_5_method_3_code, 3, some .int), (0, 0))
/-- FrameRound$Reader.append(I)V -/
def hdr_240 : jm_Hd := ((⟨"FrameRound$Reader", "append", "(I)V"⟩, prog_6_method_2_code, 3, none), (0, 0))
/-- FrameRound$Reader.read(I)I -/
def hdr_241 : jm_Hd := ((⟨"FrameRound$Reader", "read", "(I)I"⟩, prog_6_method_3_code, 4, some .int), (8, 199))
/-- FrameRound$Reader.fail(I)Z -/
def hdr_242 : jm_Hd := ((⟨"FrameRound$Reader", "fail", "(I)Z"⟩, prog_6_method_4_code, 2, some .boolean), (0, 0))
/-- FrameRound$Reader.readMode()Z -/
def hdr_243 : jm_Hd := ((⟨"FrameRound$Reader", "readMode", "()Z"⟩, prog_6_method_5_code, 2, some .boolean), (7, 175))
/-- FrameRound$Reader.readTask()Z -/
def hdr_244 : jm_Hd := ((⟨"FrameRound$Reader", "readTask", "()Z"⟩, prog_6_method_6_code, 5, some .boolean), (7, 175))
/-- FrameRound$Reader.readPart(Ljava/lang/String;II)Z -/
def hdr_245 : jm_Hd := ((⟨"FrameRound$Reader", "readPart", "(Ljava/lang/String;II)Z"⟩, prog_6_method_7_code, 4, some .boolean), (6, 152))
/-- FrameRound$Reader.isWord(Ljava/lang/String;)Z -/
def hdr_246 : jm_Hd := ((⟨"FrameRound$Reader", "isWord", "(Ljava/lang/String;)Z"⟩, prog_6_method_8_code, 3, some .boolean), (5, 130))
/-- FrameRound$Reader.signAt(I)I -/
def hdr_247 : jm_Hd := ((⟨"FrameRound$Reader", "signAt", "(I)I"⟩, prog_6_method_9_code, 2, some .int), (0, 0))
/-- FrameRound$Reader.next()V -/
def hdr_248 : jm_Hd := ((⟨"FrameRound$Reader", "next", "()V"⟩, prog_6_method_10_code, 1, none), (2, 41))
/-- FrameRound$Reader.nextWord()V -/
def hdr_249 : jm_Hd := ((⟨"FrameRound$Reader", "nextWord", "()V"⟩, prog_6_method_11_code, 1, none), (1, 21))
/-- FrameRound$Reader.nextWhole()V -/
def hdr_250 : jm_Hd := ((⟨"FrameRound$Reader", "nextWhole", "()V"⟩, prog_6_method_12_code, 1, none), (1, 21))
/-- FrameRound$Reader.isLetter(I)Z -/
def hdr_251 : jm_Hd := ((⟨"FrameRound$Reader", "isLetter", "(I)Z"⟩, prog_6_method_13_code, 1, some .boolean), (0, 0))
/-- FrameRound$Reader.isDigit(I)Z -/
def hdr_252 : jm_Hd := ((⟨"FrameRound$Reader", "isDigit", "(I)Z"⟩, prog_6_method_14_code, 1, some .boolean), (0, 0))
/-- FrameRound$Supply.sumUp([ILFrameRound$Flow;I)V -/
def hdr_253 : jm_Hd := ((⟨"FrameRound$Supply", "sumUp", "([ILFrameRound$Flow;I)V"⟩, prog_7_method_2_code, 7, none), (0, 0))
/-- FrameRound$Supply.upTo(I)I -/
def hdr_254 : jm_Hd := ((⟨"FrameRound$Supply", "upTo", "(I)I"⟩, prog_7_method_3_code, 4, some .int), (1, 21))
/-- FrameRound$Supply.margin(LFrameRound$Clock;)I -/
def hdr_255 : jm_Hd := ((⟨"FrameRound$Supply", "margin", "(LFrameRound$Clock;)I"⟩, prog_7_method_4_code, 2, some .int), (3, 69))
/-- FrameRound$Supply.leastMargin(LFrameRound$Clock;I)I -/
def hdr_256 : jm_Hd := ((⟨"FrameRound$Supply", "leastMargin", "(LFrameRound$Clock;I)I"⟩, prog_7_method_5_code, 6, some .int), (2, 44))
/-- FrameRound$Supply.leftFor(LFrameRound$Clock;I)I -/
def hdr_257 : jm_Hd := ((⟨"FrameRound$Supply", "leftFor", "(LFrameRound$Clock;I)I"⟩, prog_7_method_6_code, 5, some .int), (3, 69))
/-- FrameRound$Table.make(LFrameRound$Mode;I)V -/
def hdr_258 : jm_Hd := ((⟨"FrameRound$Table", "make", "(LFrameRound$Mode;I)V"⟩, prog_8_method_2_code, 3, none), (5, 111))
/-- FrameRound$Table.fill()V -/
def hdr_259 : jm_Hd := ((⟨"FrameRound$Table", "fill", "()V"⟩, prog_8_method_3_code, 3, none), (3, 75))
/-- FrameRound$Table.mostIn(II)I -/
def hdr_260 : jm_Hd := ((⟨"FrameRound$Table", "mostIn", "(II)I"⟩, prog_8_method_4_code, 5, some .int), (2, 51))
/-- FrameRound$Table.leastLeft(III)I -/
def hdr_261 : jm_Hd := ((⟨"FrameRound$Table", "leastLeft", "(III)I"⟩, prog_8_method_5_code, 7, some .int), (1, 25))
/-- FrameRound$Table.costsOfLater(III)I -/
def hdr_262 : jm_Hd := ((⟨"FrameRound$Table", "costsOfLater", "(III)I"⟩, prog_8_method_6_code, 6, some .int), (0, 0))
/-- FrameRound$Table.tidy()V -/
def hdr_263 : jm_Hd := ((⟨"FrameRound$Table", "tidy", "()V"⟩, prog_8_method_7_code, 2, none), (2, 47))
/-- FrameRound$Table.tidyOnce()Z -/
def hdr_264 : jm_Hd := ((⟨"FrameRound$Table", "tidyOnce", "()Z"⟩, prog_8_method_8_code, 5, some .boolean), (1, 23))
/-- FrameRound$Table.otherFrameFor(II)I -/
def hdr_265 : jm_Hd := ((⟨"FrameRound$Table", "otherFrameFor", "(II)I"⟩, prog_8_method_9_code, 4, some .int), (0, 0))
/-- FrameRound$Table.countPieces()I -/
def hdr_266 : jm_Hd := ((⟨"FrameRound$Table", "countPieces", "()I"⟩, prog_8_method_10_code, 4, some .int), (0, 0))
/-- FrameRound$Table.pieceStart(II)I -/
def hdr_267 : jm_Hd := ((⟨"FrameRound$Table", "pieceStart", "(II)I"⟩, prog_8_method_11_code, 5, some .int), (0, 0))
/-- FrameRound$Table.lastFrame(I)I -/
def hdr_268 : jm_Hd := ((⟨"FrameRound$Table", "lastFrame", "(I)I"⟩, prog_8_method_12_code, 3, some .int), (0, 0))
/-- FrameRound$Table.lastEnd(I)I -/
def hdr_269 : jm_Hd := ((⟨"FrameRound$Table", "lastEnd", "(I)I"⟩, prog_8_method_13_code, 3, some .int), (1, 24))
/-- FrameRound$Table.openJobs(I)I -/
def hdr_270 : jm_Hd := ((⟨"FrameRound$Table", "openJobs", "(I)I"⟩, prog_8_method_14_code, 4, some .int), (1, 22))
/-- FrameRound$Table.emptyFrame(I)I -/
def hdr_271 : jm_Hd := ((⟨"FrameRound$Table", "emptyFrame", "(I)I"⟩, prog_8_method_15_code, 4, some .int), (0, 0))
/-- FrameRound$Timer.tick(I)D -/
def hdr_272 : jm_Hd := ((⟨"FrameRound$Timer", "tick", "(I)D"⟩, prog_9_method_2_code, 1, some .double), (1, 21))
/-- FrameRound$Timer.leftOver(DD)D -/
def hdr_273 : jm_Hd := ((⟨"FrameRound$Timer", "leftOver", "(DD)D"⟩, prog_9_method_3_code, 10, some .double), (0, 0))
/-- FrameRound$Timer.bits(DII)J -/
def hdr_274 : jm_Hd := ((⟨"FrameRound$Timer", "bits", "(DII)J"⟩, prog_9_method_4_code, 10, some .long), (0, 0))
abbrev cod_0 : List jm_I := [.inl (jm_ic 0), .inl (jm_istore 2), .inl (jm_aload 0), .inl jm_alen, .inl (jm_istore 3), .inl (jm_iload 2), .inl (jm_iload 3), .inl (jm_icge 14), .inl (jm_aload 0), .inl (jm_iload 2), .inl (jm_iload 1), .inl jm_iast, .inl (jm_iinc 2 1), .inl (jm_goto 5), .inr (.inl jm_vret)]
def met_0 : jm_M := (hdr_0.1, hdr_0.2, [0, 1, 2, 3, 4, 5, 6, 7, 10, 11, 12, 13, 14, 17, 20], cod_0)
abbrev cod_1 : List jm_I := [.inl (jm_dload 0), .inl (jm_dload 0), .inl (jm_dcmp .l), .inl (jm_ifeq 6), .inl (jm_ic 1), .inl (jm_goto 7), .inl (jm_ic 0), .inr (.inl (jm_nret .boolean))]
def met_1 : jm_M := (hdr_1.1, hdr_1.2, [0, 1, 2, 3, 6, 7, 10, 11], cod_1)
abbrev cod_2 : List jm_I := [.inl (jm_dload 0), .inr (.inr (1, 1, 0)), .inl (jm_ifne 6), .inl (jm_dload 0), .inl jm_d2raw, .inr (.inl jm_lret), .inl (jm_lc 9221120237041090560), .inr (.inl jm_lret)]
def met_2 : jm_M := (hdr_2.1, hdr_2.2, [0, 1, 4, 7, 8, 11, 12, 15], cod_2)
abbrev cod_3 : List jm_I := [.inl (jm_fload 0), .inl (jm_fload 0), .inl (jm_fcmp .l), .inl (jm_ifeq 6), .inl (jm_ic 1), .inl (jm_goto 7), .inl (jm_ic 0), .inr (.inl (jm_nret .boolean))]
def met_3 : jm_M := (hdr_3.1, hdr_3.2, [0, 1, 2, 3, 6, 7, 10, 11], cod_3)
abbrev cod_4 : List jm_I := [.inl (jm_fload 0), .inr (.inr (3, 1, 0)), .inl (jm_ifne 6), .inl (jm_fload 0), .inl jm_f2raw, .inr (.inl jm_iret), .inl (jm_ic 2143289344), .inr (.inl jm_iret)]
def met_4 : jm_M := (hdr_4.1, hdr_4.2, [0, 1, 4, 7, 8, 11, 12, 14], cod_4)
abbrev cod_5 : List jm_I := [.inl (jm_aload 0), .inl (jm_gS 7 0 4 (fun _ => 0)), .inl (jm_gI 4 1), .inl (jm_ic 680), .inl (jm_icle 7), .inl (jm_ic (-1)), .inr (.inl jm_iret), .inl (jm_aload 0), .inl (jm_gS 7 0 4 (fun _ => 0)), .inl (jm_iload 1), .inr (.inr (240, 2, 5)), .inl (jm_aload 0), .inl (jm_gS 7 0 4 (fun _ => 0)), .inl (jm_iload 2), .inr (.inr (240, 2, 5)), .inl (jm_aload 0), .inl (jm_gS 7 0 4 (fun _ => 0)), .inl (jm_iload 3), .inr (.inr (240, 2, 5)), .inl (jm_aload 0), .inl (jm_gS 7 0 4 (fun _ => 0)), .inl (jm_iload 4), .inr (.inr (240, 2, 5)), .inl (jm_aload 0), .inl (jm_gS 7 0 4 (fun _ => 0)), .inl (jm_iload 5), .inr (.inr (240, 2, 5)), .inl (jm_aload 0), .inl (jm_gS 7 0 4 (fun _ => 0)), .inl (jm_gI 4 1), .inr (.inl jm_iret)]
def met_5 : jm_M := (hdr_5.1, hdr_5.2, [0, 1, 4, 7, 10, 13, 14, 15, 16, 19, 20, 23, 24, 27, 28, 31, 32, 35, 36, 39, 40, 43, 45, 48, 49, 52, 54, 57, 58, 61, 64], cod_5)
abbrev cod_6 : List jm_I := [.inl (jm_iload 1), .inl (jm_iflt 7), .inl (jm_iload 1), .inl (jm_aload 0), .inl (jm_gS 7 0 4 (fun _ => 0)), .inl (jm_gI 4 1), .inl (jm_icle 11), .inl (jm_aload 0), .inl (jm_ic 2), .inr (.inr (9, 2, 8)), .inr (.inl jm_iret), .inl (jm_aload 0), .inl (jm_aload 0), .inl (jm_gS 7 0 4 (fun _ => 0)), .inl (jm_iload 1), .inr (.inr (241, 2, 5)), .inl (jm_pI 7 9), .inl (jm_aload 0), .inl (jm_gI 7 9), .inl (jm_ifeq 29), .inl (jm_aload 0), .inl (jm_aload 0), .inl (jm_gS 7 0 4 (fun _ => 0)), .inl (jm_gI 4 8), .inl (jm_pI 7 10), .inl (jm_aload 0), .inl (jm_ic 4), .inr (.inr (9, 2, 8)), .inr (.inl jm_iret), .inl (jm_aload 0), .inl (jm_gM 7 1 3), .inl (jm_astore 2), .inl (jm_aload 0), .inl (jm_aload 0), .inl (jm_gS 7 0 4 (fun _ => 0)), .inl (jm_gM 4 9 3), .inl (jm_pM 7 1 3), .inl (jm_aload 0), .inl (jm_gS 7 0 4 (fun _ => 0)), .inl (jm_aload 2), .inl (jm_pM 4 9 3), .inl (jm_ic 0), .inl (jm_istore 3), .inl (jm_iload 3), .inl (jm_aload 0), .inl (jm_gM 7 1 3), .inl (jm_gI 3 0), .inl (jm_icge 66), .inl (jm_aload 0), .inl (jm_gS 7 2 32 (fun i => i)), .inl (jm_iload 3), .inl jm_aald, .inl (jm_aload 0), .inl (jm_gM 7 1 3), .inl (jm_gS 3 1 28 (fun i => i)), .inl (jm_iload 3), .inl jm_aald, .inl (jm_aload 0), .inl (jm_gM 7 1 3), .inl (jm_gS 3 1 28 (fun i => i)), .inl (jm_iload 3), .inl jm_aald, .inl (jm_gI 2 0), .inr (.inr (258, 3, 7)), .inl (jm_iinc 3 1), .inl (jm_goto 43), .inl (jm_aload 0), .inr (.inr (11, 1, 8)), .inl (jm_aload 0), .inl (jm_aload 0), .inl (jm_gM 7 1 3), .inl (jm_gI 3 0), .inr (.inr (10, 2, 8)), .inr (.inl jm_iret)]
def met_6 : jm_M := (hdr_6.1, hdr_6.2, [0, 1, 4, 5, 6, 9, 12, 15, 16, 17, 20, 21, 22, 23, 26, 27, 30, 33, 34, 37, 40, 41, 42, 45, 48, 51, 52, 53, 56, 57, 58, 61, 62, 63, 64, 67, 70, 73, 74, 77, 78, 81, 82, 83, 84, 85, 88, 91, 94, 95, 98, 99, 100, 101, 104, 107, 108, 109, 110, 113, 116, 117, 118, 121, 124, 127, 130, 131, 134, 135, 136, 139, 142, 145], cod_6)
abbrev cod_7 : List jm_I := [.inl (jm_aload 0), .inl (jm_gI 7 9), .inr (.inl jm_iret)]
def met_7 : jm_M := (hdr_7.1, hdr_7.2, [0, 1, 4], cod_7)
abbrev cod_8 : List jm_I := [.inl (jm_aload 0), .inl (jm_gI 7 8), .inl (jm_ic 4), .inl (jm_icne 7), .inl (jm_aload 0), .inl (jm_gI 7 10), .inl (jm_goto 8), .inl (jm_ic (-1)), .inr (.inl jm_iret)]
def met_8 : jm_M := (hdr_8.1, hdr_8.2, [0, 1, 4, 5, 8, 9, 12, 15, 16], cod_8)
abbrev cod_9 : List jm_I := [.inl (jm_aload 0), .inl (jm_iload 1), .inl (jm_pI 7 8), .inl (jm_ic (-1)), .inr (.inl jm_iret)]
def met_9 : jm_M := (hdr_9.1, hdr_9.2, [0, 1, 2, 5, 6], cod_9)
abbrev cod_10 : List jm_I := [.inl (jm_aload 0), .inl (jm_ic 0), .inl (jm_pI 7 8), .inl (jm_iload 1), .inr (.inl jm_iret)]
def met_10 : jm_M := (hdr_10.1, hdr_10.2, [0, 1, 2, 5, 6], cod_10)
abbrev cod_11 : List jm_I := [.inl (jm_aload 0), .inl (jm_gS 7 5 0 (fun _ => 0)), .inr (.inr (201, 1, 1)), .inl (jm_aload 0), .inl (jm_ic 0), .inl (jm_pZ 7 7), .inr (.inl jm_vret)]
def met_11 : jm_M := (hdr_11.1, hdr_11.2, [0, 1, 4, 7, 8, 9, 12], cod_11)
abbrev cod_12 : List jm_I := [.inl (jm_aload 0), .inl (jm_iload 1), .inr (.inr (16, 2, 8)), .inl (jm_ifeq 9), .inl (jm_iload 2), .inl (jm_iflt 9), .inl (jm_iload 2), .inl (jm_ic 6), .inl (jm_icle 13), .inl (jm_aload 0), .inl (jm_ic 1), .inr (.inr (9, 2, 8)), .inr (.inl jm_iret), .inl (jm_aload 0), .inl (jm_gM 7 1 3), .inl (jm_gS 3 1 28 (fun i => i)), .inl (jm_iload 1), .inl jm_aald, .inl (jm_astore 3), .inl (jm_iload 2), .inl (jm_tsw 0 [21, 26, 31, 36, 41, 46] 55), .inl (jm_aload 0), .inl (jm_aload 3), .inl (jm_gI 2 0), .inr (.inr (10, 2, 8)), .inr (.inl jm_iret), .inl (jm_aload 0), .inl (jm_aload 3), .inl (jm_gI 2 1), .inr (.inr (10, 2, 8)), .inr (.inl jm_iret), .inl (jm_aload 0), .inl (jm_aload 3), .inl (jm_gI 2 2), .inr (.inr (10, 2, 8)), .inr (.inl jm_iret), .inl (jm_aload 0), .inl (jm_aload 3), .inr (.inr (229, 1, 3)), .inr (.inr (10, 2, 8)), .inr (.inl jm_iret), .inl (jm_aload 0), .inl (jm_aload 3), .inl (jm_gI 2 3), .inr (.inr (10, 2, 8)), .inr (.inl jm_iret), .inl (jm_aload 0), .inl (jm_aload 0), .inl (jm_gS 7 2 32 (fun i => i)), .inl (jm_iload 1), .inl jm_aald, .inl (jm_gS 6 0 1 (fun i => i)), .inl (jm_gI 1 2), .inr (.inr (10, 2, 8)), .inr (.inl jm_iret), .inl (jm_aload 0), .inl (jm_aload 0), .inl (jm_gS 7 2 32 (fun i => i)), .inl (jm_iload 1), .inl jm_aald, .inl (jm_gS 6 0 1 (fun i => i)), .inr (.inr (214, 1, 2)), .inr (.inr (10, 2, 8)), .inr (.inl jm_iret)]
def met_12 : jm_M := (hdr_12.1, hdr_12.2, [0, 1, 2, 5, 8, 9, 12, 13, 15, 18, 19, 20, 23, 24, 25, 28, 31, 32, 33, 34, 35, 72, 73, 74, 77, 80, 81, 82, 83, 86, 89, 90, 91, 92, 95, 98, 99, 100, 101, 104, 107, 108, 109, 110, 113, 116, 117, 118, 119, 122, 123, 124, 127, 130, 133, 134, 135, 136, 139, 140, 141, 144, 147, 150], cod_12)
abbrev cod_13 : List jm_I := [.inl (jm_aload 0), .inl (jm_iload 1), .inl (jm_iload 2), .inr (.inr (17, 3, 8)), .inl (jm_ifeq 10), .inl (jm_iload 3), .inl (jm_iflt 10), .inl (jm_iload 3), .inl (jm_ic 5), .inl (jm_icle 14), .inl (jm_aload 0), .inl (jm_ic 1), .inr (.inr (9, 2, 8)), .inr (.inl jm_iret), .inl (jm_aload 0), .inl (jm_gM 7 1 3), .inl (jm_gS 3 1 28 (fun i => i)), .inl (jm_iload 1), .inl jm_aald, .inl (jm_astore 4), .inl (jm_iload 3), .inl (jm_tsw 0 [22, 29, 36, 43, 50] 56), .inl (jm_aload 0), .inl (jm_aload 4), .inl (jm_gS 2 5 22 (fun i => i)), .inl (jm_iload 2), .inl jm_iald, .inr (.inr (10, 2, 8)), .inr (.inl jm_iret), .inl (jm_aload 0), .inl (jm_aload 4), .inl (jm_gS 2 6 23 (fun i => i)), .inl (jm_iload 2), .inl jm_iald, .inr (.inr (10, 2, 8)), .inr (.inl jm_iret), .inl (jm_aload 0), .inl (jm_aload 4), .inl (jm_gS 2 7 24 (fun i => i)), .inl (jm_iload 2), .inl jm_iald, .inr (.inr (10, 2, 8)), .inr (.inl jm_iret), .inl (jm_aload 0), .inl (jm_aload 4), .inl (jm_gS 2 8 25 (fun i => i)), .inl (jm_iload 2), .inl jm_iald, .inr (.inr (10, 2, 8)), .inr (.inl jm_iret), .inl (jm_aload 0), .inl (jm_aload 4), .inl (jm_iload 2), .inr (.inr (233, 2, 3)), .inr (.inr (10, 2, 8)), .inr (.inl jm_iret), .inl (jm_aload 0), .inl (jm_aload 4), .inl (jm_iload 2), .inl (jm_aload 4), .inl (jm_gI 2 0), .inr (.inr (237, 3, 3)), .inr (.inr (10, 2, 8)), .inr (.inl jm_iret)]
def met_13 : jm_M := (hdr_13.1, hdr_13.2, [0, 1, 2, 3, 6, 9, 10, 13, 14, 15, 18, 19, 20, 23, 24, 25, 28, 31, 32, 33, 35, 36, 72, 73, 75, 78, 79, 80, 83, 84, 85, 87, 90, 91, 92, 95, 96, 97, 99, 102, 103, 104, 107, 108, 109, 111, 114, 115, 116, 119, 120, 121, 123, 124, 127, 130, 131, 132, 134, 135, 137, 140, 143, 146], cod_13)
abbrev cod_14 : List jm_I := [.inl (jm_aload 0), .inl (jm_iload 1), .inl (jm_iload 2), .inr (.inr (18, 3, 8)), .inl (jm_ifeq 10), .inl (jm_iload 3), .inl (jm_iflt 10), .inl (jm_iload 3), .inl (jm_ic 5), .inl (jm_icle 14), .inl (jm_aload 0), .inl (jm_ic 1), .inr (.inr (9, 2, 8)), .inr (.inl jm_iret), .inl (jm_aload 0), .inl (jm_gS 7 2 32 (fun i => i)), .inl (jm_iload 1), .inl jm_aald, .inl (jm_gS 6 0 1 (fun i => i)), .inl (jm_astore 4), .inl (jm_iload 3), .inl (jm_tsw 0 [22, 29, 36, 43, 50] 63), .inl (jm_aload 0), .inl (jm_aload 4), .inl (jm_gS 1 4 12 (fun i => i)), .inl (jm_iload 2), .inl jm_iald, .inr (.inr (10, 2, 8)), .inr (.inl jm_iret), .inl (jm_aload 0), .inl (jm_aload 4), .inl (jm_gS 1 5 13 (fun i => i)), .inl (jm_iload 2), .inl jm_iald, .inr (.inr (10, 2, 8)), .inr (.inl jm_iret), .inl (jm_aload 0), .inl (jm_aload 4), .inl (jm_gS 1 6 14 (fun i => i)), .inl (jm_iload 2), .inl jm_iald, .inr (.inr (10, 2, 8)), .inr (.inl jm_iret), .inl (jm_aload 0), .inl (jm_aload 4), .inl (jm_gS 1 7 15 (fun i => i)), .inl (jm_iload 2), .inl jm_iald, .inr (.inr (10, 2, 8)), .inr (.inl jm_iret), .inl (jm_aload 0), .inl (jm_aload 4), .inl (jm_iload 2), .inr (.inr (212, 2, 2)), .inl (jm_ifeq 57), .inl (jm_ic (-2)), .inl (jm_goto 61), .inl (jm_aload 4), .inl (jm_gS 1 8 16 (fun i => i)), .inl (jm_iload 2), .inl jm_iald, .inr (.inr (10, 2, 8)), .inr (.inl jm_iret), .inl (jm_aload 0), .inl (jm_aload 4), .inl (jm_iload 2), .inr (.inr (212, 2, 2)), .inl (jm_ifeq 70), .inl (jm_ic (-2)), .inl (jm_goto 74), .inl (jm_aload 4), .inl (jm_gS 1 9 17 (fun i => i)), .inl (jm_iload 2), .inl jm_iald, .inr (.inr (10, 2, 8)), .inr (.inl jm_iret)]
def met_14 : jm_M := (hdr_14.1, hdr_14.2, [0, 1, 2, 3, 6, 9, 10, 13, 14, 15, 18, 19, 20, 23, 24, 25, 28, 29, 30, 33, 35, 36, 72, 73, 75, 78, 79, 80, 83, 84, 85, 87, 90, 91, 92, 95, 96, 97, 99, 102, 103, 104, 107, 108, 109, 111, 114, 115, 116, 119, 120, 121, 123, 124, 127, 130, 132, 135, 137, 140, 141, 142, 145, 146, 147, 149, 150, 153, 156, 158, 161, 163, 166, 167, 168, 171], cod_14)
abbrev cod_15 : List jm_I := [.inl (jm_aload 0), .inl (jm_iload 1), .inr (.inr (16, 2, 8)), .inl (jm_ifne 9), .inl (jm_aload 0), .inl (jm_ic 1), .inr (.inr (9, 2, 8)), .inl jm_i2l, .inr (.inl jm_lret), .inl (jm_aload 0), .inl (jm_ic 0), .inl (jm_pI 7 8), .inl (jm_aload 0), .inl (jm_gM 7 1 3), .inl (jm_gS 3 1 28 (fun i => i)), .inl (jm_iload 1), .inl jm_aald, .inl (jm_astore 2), .inl (jm_dc FP.dconst0), .inl (jm_dstore 3), .inl (jm_ic 0), .inl (jm_istore 5), .inl (jm_iload 5), .inl (jm_aload 2), .inl (jm_gI 2 2), .inl (jm_icge 47), .inl (jm_aload 2), .inl (jm_gS 2 6 23 (fun i => i)), .inl (jm_iload 5), .inl jm_iald, .inl (jm_ifle 45), .inl (jm_dload 3), .inl (jm_aload 2), .inl (jm_gS 2 7 24 (fun i => i)), .inl (jm_iload 5), .inl jm_iald, .inl jm_i2d, .inl (jm_aload 2), .inl (jm_gS 2 6 23 (fun i => i)), .inl (jm_iload 5), .inl jm_iald, .inl jm_i2d, .inl (jm_dbin FP.ddiv), .inl (jm_dbin FP.dadd), .inl (jm_dstore 3), .inl (jm_iinc 5 1), .inl (jm_goto 22), .inl (jm_dload 3), .inl (jm_ic 52), .inl (jm_ic 1023), .inr (.inr (274, 3, 0)), .inr (.inl jm_lret)]
def met_15 : jm_M := (hdr_15.1, hdr_15.2, [0, 1, 2, 5, 8, 9, 10, 13, 14, 15, 16, 17, 20, 21, 24, 27, 28, 29, 30, 31, 32, 33, 35, 37, 38, 41, 44, 45, 48, 50, 51, 54, 55, 56, 59, 61, 62, 63, 64, 67, 69, 70, 71, 72, 73, 74, 77, 80, 81, 83, 86, 89], cod_15)
abbrev cod_16 : List jm_I := [.inl (jm_iload 1), .inl (jm_iflt 9), .inl (jm_iload 1), .inl (jm_aload 0), .inl (jm_gM 7 1 3), .inl (jm_gI 3 0), .inl (jm_icge 9), .inl (jm_ic 1), .inl (jm_goto 10), .inl (jm_ic 0), .inr (.inl (jm_nret .boolean))]
def met_16 : jm_M := (hdr_16.1, hdr_16.2, [0, 1, 4, 5, 6, 9, 12, 15, 16, 19, 20], cod_16)
abbrev cod_17 : List jm_I := [.inl (jm_aload 0), .inl (jm_iload 1), .inr (.inr (16, 2, 8)), .inl (jm_ifeq 16), .inl (jm_iload 2), .inl (jm_iflt 16), .inl (jm_iload 2), .inl (jm_aload 0), .inl (jm_gM 7 1 3), .inl (jm_gS 3 1 28 (fun i => i)), .inl (jm_iload 1), .inl jm_aald, .inl (jm_gI 2 2), .inl (jm_icge 16), .inl (jm_ic 1), .inl (jm_goto 17), .inl (jm_ic 0), .inr (.inl (jm_nret .boolean))]
def met_17 : jm_M := (hdr_17.1, hdr_17.2, [0, 1, 2, 5, 8, 9, 12, 13, 14, 17, 20, 21, 22, 25, 28, 29, 32, 33], cod_17)
abbrev cod_18 : List jm_I := [.inl (jm_aload 0), .inl (jm_iload 1), .inr (.inr (16, 2, 8)), .inl (jm_ifeq 16), .inl (jm_iload 2), .inl (jm_iflt 16), .inl (jm_iload 2), .inl (jm_aload 0), .inl (jm_gM 7 1 3), .inl (jm_gS 3 1 28 (fun i => i)), .inl (jm_iload 1), .inl jm_aald, .inl (jm_gI 2 3), .inl (jm_icge 16), .inl (jm_ic 1), .inl (jm_goto 17), .inl (jm_ic 0), .inr (.inl (jm_nret .boolean))]
def met_18 : jm_M := (hdr_18.1, hdr_18.2, [0, 1, 2, 5, 8, 9, 12, 13, 14, 17, 20, 21, 22, 25, 28, 29, 32, 33], cod_18)
abbrev cod_19 : List jm_I := [.inl (jm_aload 0), .inl (jm_iload 1), .inr (.inr (16, 2, 8)), .inl (jm_ifeq 16), .inl (jm_iload 2), .inl (jm_iflt 16), .inl (jm_iload 2), .inl (jm_aload 0), .inl (jm_gS 7 2 32 (fun i => i)), .inl (jm_iload 1), .inl jm_aald, .inl (jm_gS 6 0 1 (fun i => i)), .inl (jm_gI 1 2), .inl (jm_icge 16), .inl (jm_ic 1), .inl (jm_goto 17), .inl (jm_ic 0), .inr (.inl (jm_nret .boolean))]
def met_19 : jm_M := (hdr_19.1, hdr_19.2, [0, 1, 2, 5, 8, 9, 12, 13, 14, 17, 18, 19, 22, 25, 28, 29, 32, 33], cod_19)
abbrev cod_20 : List jm_I := [.inl (jm_aload 0), .inl (jm_iload 1), .inl (jm_iload 2), .inr (.inr (31, 3, 8)), .inl (jm_istore 3), .inl (jm_iload 3), .inl (jm_ifeq 11), .inl (jm_aload 0), .inl (jm_iload 3), .inr (.inr (9, 2, 8)), .inl (jm_goto 21), .inl (jm_aload 0), .inl (jm_aload 0), .inl (jm_aload 0), .inl (jm_gM 7 1 3), .inl (jm_gS 3 1 28 (fun i => i)), .inl (jm_iload 1), .inl jm_aald, .inl (jm_iload 2), .inr (.inr (33, 3, 8)), .inr (.inr (10, 2, 8)), .inr (.inl jm_iret)]
def met_20 : jm_M := (hdr_20.1, hdr_20.2, [0, 1, 2, 3, 6, 7, 8, 11, 12, 13, 16, 19, 20, 21, 22, 25, 28, 29, 30, 31, 34, 37], cod_20)
abbrev cod_21 : List jm_I := [.inl (jm_aload 0), .inl (jm_iload 1), .inl (jm_iload 2), .inr (.inr (31, 3, 8)), .inl (jm_istore 3), .inl (jm_iload 3), .inl (jm_ifeq 11), .inl (jm_aload 0), .inl (jm_iload 3), .inr (.inr (9, 2, 8)), .inr (.inl jm_iret), .inl (jm_aload 0), .inl (jm_aload 0), .inl (jm_iload 1), .inl (jm_iload 2), .inr (.inr (32, 3, 8)), .inr (.inr (10, 2, 8)), .inr (.inl jm_iret)]
def met_21 : jm_M := (hdr_21.1, hdr_21.2, [0, 1, 2, 3, 6, 7, 8, 11, 12, 13, 16, 17, 18, 19, 20, 21, 24, 27], cod_21)
abbrev cod_22 : List jm_I := [.inl (jm_aload 0), .inl (jm_iload 1), .inl (jm_iload 2), .inr (.inr (31, 3, 8)), .inl (jm_istore 3), .inl (jm_iload 3), .inl (jm_ifeq 11), .inl (jm_aload 0), .inl (jm_iload 3), .inr (.inr (9, 2, 8)), .inr (.inl jm_iret), .inl (jm_aload 0), .inl (jm_iload 1), .inl (jm_iload 2), .inr (.inr (32, 3, 8)), .inl (jm_istore 4), .inl (jm_aload 0), .inl (jm_aload 0), .inl (jm_gS 7 3 6 (fun _ => 3)), .inl (jm_gS 6 0 1 (fun i => i)), .inr (.inr (214, 1, 2)), .inl (jm_iload 4), .inl (jm_bin (fun a b => a - b)), .inr (.inr (10, 2, 8)), .inr (.inl jm_iret)]
def met_22 : jm_M := (hdr_22.1, hdr_22.2, [0, 1, 2, 3, 6, 7, 8, 11, 12, 13, 16, 17, 18, 19, 20, 23, 25, 26, 27, 30, 33, 36, 38, 39, 42], cod_22)
abbrev cod_23 : List jm_I := [.inl (jm_aload 0), .inl (jm_iload 1), .inl (jm_iload 2), .inr (.inr (31, 3, 8)), .inl (jm_istore 3), .inl (jm_iload 3), .inl (jm_ifeq 11), .inl (jm_aload 0), .inl (jm_iload 3), .inr (.inr (9, 2, 8)), .inr (.inl jm_iret), .inl (jm_aload 0), .inl (jm_iload 1), .inl (jm_iload 2), .inr (.inr (32, 3, 8)), .inl jm_pop, .inl (jm_aload 0), .inl (jm_aload 0), .inl (jm_gS 7 3 6 (fun _ => 3)), .inl (jm_gS 6 0 1 (fun i => i)), .inr (.inr (223, 1, 2)), .inr (.inr (10, 2, 8)), .inr (.inl jm_iret)]
def met_23 : jm_M := (hdr_23.1, hdr_23.2, [0, 1, 2, 3, 6, 7, 8, 11, 12, 13, 16, 17, 18, 19, 20, 23, 24, 25, 26, 29, 32, 35, 38], cod_23)
abbrev cod_24 : List jm_I := [.inl (jm_aload 0), .inl (jm_iload 1), .inl (jm_iload 2), .inr (.inr (31, 3, 8)), .inl (jm_istore 3), .inl (jm_iload 3), .inl (jm_ifeq 11), .inl (jm_aload 0), .inl (jm_iload 3), .inr (.inr (9, 2, 8)), .inr (.inl jm_iret), .inl (jm_aload 0), .inl (jm_iload 1), .inl (jm_iload 2), .inr (.inr (32, 3, 8)), .inl jm_pop, .inl (jm_aload 0), .inl (jm_aload 0), .inl (jm_gS 7 3 6 (fun _ => 3)), .inl (jm_gS 6 0 1 (fun i => i)), .inl (jm_aload 0), .inl (jm_gS 7 3 6 (fun _ => 3)), .inl (jm_gS 6 0 1 (fun i => i)), .inr (.inr (223, 1, 2)), .inr (.inr (227, 2, 2)), .inr (.inr (10, 2, 8)), .inr (.inl jm_iret)]
def met_24 : jm_M := (hdr_24.1, hdr_24.2, [0, 1, 2, 3, 6, 7, 8, 11, 12, 13, 16, 17, 18, 19, 20, 23, 24, 25, 26, 29, 32, 33, 36, 39, 42, 45, 48], cod_24)
abbrev cod_25 : List jm_I := [.inl (jm_aload 0), .inl (jm_iload 1), .inr (.inr (16, 2, 8)), .inl (jm_ifne 8), .inl (jm_aload 0), .inl (jm_ic 1), .inr (.inr (9, 2, 8)), .inr (.inl jm_iret), .inl (jm_ic 0), .inl (jm_istore 2), .inl (jm_ic 4), .inl (jm_istore 3), .inl (jm_iload 3), .inl (jm_ic 96), .inl (jm_icgt 27), .inl (jm_aload 0), .inl (jm_aload 0), .inl (jm_gM 7 1 3), .inl (jm_gS 3 1 28 (fun i => i)), .inl (jm_iload 1), .inl jm_aald, .inl (jm_iload 3), .inr (.inr (34, 3, 8)), .inl (jm_ifeq 25), .inl (jm_iinc 2 1), .inl (jm_iinc 3 1), .inl (jm_goto 12), .inl (jm_aload 0), .inl (jm_iload 2), .inr (.inr (10, 2, 8)), .inr (.inl jm_iret)]
def met_25 : jm_M := (hdr_25.1, hdr_25.2, [0, 1, 2, 5, 8, 9, 10, 13, 14, 15, 16, 17, 18, 19, 21, 24, 25, 26, 29, 32, 33, 34, 35, 38, 41, 44, 47, 50, 51, 52, 55], cod_25)
abbrev cod_26 : List jm_I := [.inl (jm_aload 0), .inl (jm_iload 1), .inr (.inr (16, 2, 8)), .inl (jm_ifeq 6), .inl (jm_iload 2), .inl (jm_ifge 10), .inl (jm_aload 0), .inl (jm_ic 1), .inr (.inr (9, 2, 8)), .inr (.inl jm_iret), .inl (jm_iload 2), .inl (jm_istore 3), .inl (jm_ic 4), .inl (jm_istore 4), .inl (jm_iload 4), .inl (jm_ic 96), .inl (jm_icgt 35), .inl (jm_aload 0), .inl (jm_aload 0), .inl (jm_gM 7 1 3), .inl (jm_gS 3 1 28 (fun i => i)), .inl (jm_iload 1), .inl jm_aald, .inl (jm_iload 4), .inr (.inr (34, 3, 8)), .inl (jm_ifeq 33), .inl (jm_iload 3), .inl (jm_ifne 32), .inl (jm_aload 0), .inl (jm_iload 4), .inr (.inr (10, 2, 8)), .inr (.inl jm_iret), .inl (jm_iinc 3 (-1)), .inl (jm_iinc 4 1), .inl (jm_goto 14), .inl (jm_aload 0), .inl (jm_ic 1), .inr (.inr (9, 2, 8)), .inr (.inl jm_iret)]
def met_26 : jm_M := (hdr_26.1, hdr_26.2, [0, 1, 2, 5, 8, 9, 12, 13, 14, 17, 18, 19, 20, 21, 23, 25, 27, 30, 31, 32, 35, 38, 39, 40, 42, 45, 48, 49, 52, 53, 55, 58, 59, 62, 65, 68, 69, 70, 73], cod_26)
abbrev cod_27 : List jm_I := [.inl (jm_aload 0), .inl (jm_iload 1), .inl (jm_iload 2), .inr (.inr (31, 3, 8)), .inl (jm_istore 3), .inl (jm_iload 3), .inl (jm_ifeq 11), .inl (jm_aload 0), .inl (jm_iload 3), .inr (.inr (9, 2, 8)), .inr (.inl jm_iret), .inl (jm_aload 0), .inl (jm_gS 7 3 6 (fun _ => 3)), .inl (jm_aload 0), .inl (jm_gM 7 1 3), .inl (jm_gS 3 1 28 (fun i => i)), .inl (jm_iload 1), .inl jm_aald, .inl (jm_iload 2), .inr (.inr (258, 3, 7)), .inl (jm_aload 0), .inl (jm_gS 7 3 6 (fun _ => 3)), .inl (jm_gI 6 1), .inl (jm_ifeq 30), .inl (jm_aload 0), .inl (jm_aload 0), .inl (jm_gS 7 3 6 (fun _ => 3)), .inl (jm_gI 6 2), .inr (.inr (10, 2, 8)), .inl (jm_goto 33), .inl (jm_aload 0), .inl (jm_ic 5), .inr (.inr (9, 2, 8)), .inr (.inl jm_iret)]
def met_27 : jm_M := (hdr_27.1, hdr_27.2, [0, 1, 2, 3, 6, 7, 8, 11, 12, 13, 16, 17, 18, 21, 22, 25, 28, 29, 30, 31, 34, 35, 38, 41, 44, 45, 46, 49, 52, 55, 58, 59, 60, 63], cod_27)
abbrev cod_28 : List jm_I := [.inl (jm_aload 0), .inl (jm_iload 1), .inr (.inr (16, 2, 8)), .inl (jm_ifne 8), .inl (jm_aload 0), .inl (jm_ic 1), .inr (.inr (9, 2, 8)), .inr (.inl jm_iret), .inl (jm_ic (-2)), .inl (jm_istore 2), .inl (jm_ic 0), .inl (jm_istore 3), .inl (jm_ic 4), .inl (jm_istore 4), .inl (jm_iload 4), .inl (jm_ic 96), .inl (jm_icgt 55), .inl (jm_aload 0), .inl (jm_gM 7 1 3), .inl (jm_gS 3 1 28 (fun i => i)), .inl (jm_iload 1), .inl jm_aald, .inl (jm_iload 4), .inr (.inr (230, 2, 3)), .inl (jm_ifne 26), .inl (jm_goto 53), .inl (jm_aload 0), .inl (jm_gS 7 3 6 (fun _ => 3)), .inl (jm_aload 0), .inl (jm_gM 7 1 3), .inl (jm_gS 3 1 28 (fun i => i)), .inl (jm_iload 1), .inl jm_aald, .inl (jm_iload 4), .inr (.inr (258, 3, 7)), .inl (jm_aload 0), .inl (jm_gS 7 3 6 (fun _ => 3)), .inl (jm_gI 6 1), .inl (jm_ifeq 53), .inl (jm_iload 2), .inl (jm_ic (-2)), .inl (jm_iceq 47), .inl (jm_aload 0), .inl (jm_gS 7 3 6 (fun _ => 3)), .inl (jm_gI 6 2), .inl (jm_iload 3), .inl (jm_icgt 53), .inl (jm_iload 4), .inl (jm_istore 2), .inl (jm_aload 0), .inl (jm_gS 7 3 6 (fun _ => 3)), .inl (jm_gI 6 2), .inl (jm_istore 3), .inl (jm_iinc 4 1), .inl (jm_goto 14), .inl (jm_aload 0), .inl (jm_iload 2), .inr (.inr (10, 2, 8)), .inr (.inl jm_iret)]
def met_28 : jm_M := (hdr_28.1, hdr_28.2, [0, 1, 2, 5, 8, 9, 10, 13, 14, 16, 17, 18, 19, 20, 22, 24, 26, 29, 30, 33, 36, 37, 38, 40, 43, 46, 49, 50, 53, 54, 57, 60, 61, 62, 64, 67, 68, 71, 74, 77, 78, 80, 83, 84, 87, 90, 91, 94, 96, 97, 98, 101, 104, 105, 108, 111, 112, 113, 116], cod_28)
abbrev cod_29 : List jm_I := [.inl (jm_aload 0), .inl (jm_iload 1), .inl (jm_iload 2), .inr (.inr (17, 3, 8)), .inl (jm_ifne 9), .inl (jm_aload 0), .inl (jm_ic 1), .inr (.inr (9, 2, 8)), .inr (.inl jm_iret), .inl (jm_aload 0), .inl (jm_gS 7 3 6 (fun _ => 3)), .inl (jm_gS 6 0 1 (fun i => i)), .inl (jm_astore 3), .inl (jm_aload 3), .inl (jm_aload 0), .inl (jm_gM 7 1 3), .inl (jm_gS 3 1 28 (fun i => i)), .inl (jm_iload 1), .inl jm_aald, .inl (jm_aload 0), .inl (jm_gM 7 1 3), .inl (jm_gS 3 1 28 (fun i => i)), .inl (jm_iload 1), .inl jm_aald, .inl (jm_gI 2 0), .inl (jm_aload 0), .inl (jm_gM 7 1 3), .inl (jm_gS 3 1 28 (fun i => i)), .inl (jm_iload 1), .inl jm_aald, .inl (jm_gI 2 1), .inr (.inr (211, 4, 2)), .inl (jm_aload 3), .inl (jm_iload 2), .inl (jm_ic 0), .inr (.inr (217, 3, 2)), .inl (jm_ifne 41), .inl (jm_aload 0), .inl (jm_ic (-2)), .inr (.inr (10, 2, 8)), .inr (.inl jm_iret), .inl (jm_ic 0), .inl (jm_istore 4), .inl (jm_ic 32), .inl (jm_istore 5), .inl (jm_iload 5), .inl (jm_ifle 66), .inl (jm_iload 4), .inl (jm_iload 5), .inl (jm_bin (fun a b => a + b)), .inl (jm_istore 6), .inl (jm_iload 6), .inl (jm_ic 60), .inl (jm_icgt 61), .inl (jm_aload 3), .inl (jm_iload 2), .inl (jm_iload 6), .inr (.inr (217, 3, 2)), .inl (jm_ifeq 61), .inl (jm_iload 6), .inl (jm_istore 4), .inl (jm_iload 5), .inl (jm_ic 2), .inl jm_idiv, .inl (jm_istore 5), .inl (jm_goto 45), .inl (jm_aload 0), .inl (jm_iload 4), .inr (.inr (10, 2, 8)), .inr (.inl jm_iret)]
def met_29 : jm_M := (hdr_29.1, hdr_29.2, [0, 1, 2, 3, 6, 9, 10, 11, 14, 15, 16, 19, 22, 23, 24, 25, 28, 31, 32, 33, 34, 37, 40, 41, 42, 45, 46, 49, 52, 53, 54, 57, 60, 61, 62, 63, 66, 69, 70, 72, 75, 76, 77, 79, 81, 83, 85, 88, 90, 92, 93, 95, 97, 99, 102, 103, 104, 106, 109, 112, 114, 116, 118, 119, 120, 122, 125, 126, 128, 131], cod_29)
abbrev cod_30 : List jm_I := [.inl (jm_aload 0), .inl (jm_iload 1), .inr (.inr (16, 2, 8)), .inl (jm_ifne 8), .inl (jm_aload 0), .inl (jm_ic 1), .inr (.inr (9, 2, 8)), .inr (.inl jm_iret), .inl (jm_aload 0), .inl (jm_gM 7 1 3), .inl (jm_gS 3 1 28 (fun i => i)), .inl (jm_iload 1), .inl jm_aald, .inl (jm_astore 2), .inl (jm_aload 0), .inl (jm_aload 2), .inl (jm_ic 0), .inr (.inr (35, 3, 8)), .inl (jm_ifne 23), .inl (jm_aload 0), .inl (jm_ic (-2)), .inr (.inr (10, 2, 8)), .inr (.inl jm_iret), .inl (jm_ic 0), .inl (jm_istore 3), .inl (jm_ic 32), .inl (jm_istore 4), .inl (jm_iload 4), .inl (jm_ifle 49), .inl (jm_iload 3), .inl (jm_iload 4), .inl (jm_bin (fun a b => a + b)), .inl (jm_istore 5), .inl (jm_iload 5), .inl (jm_aload 2), .inl (jm_gI 2 0), .inl (jm_icge 44), .inl (jm_aload 0), .inl (jm_aload 2), .inl (jm_iload 5), .inr (.inr (35, 3, 8)), .inl (jm_ifeq 44), .inl (jm_iload 5), .inl (jm_istore 3), .inl (jm_iload 4), .inl (jm_ic 2), .inl jm_idiv, .inl (jm_istore 4), .inl (jm_goto 27), .inl (jm_aload 0), .inl (jm_iload 3), .inr (.inr (10, 2, 8)), .inr (.inl jm_iret)]
def met_30 : jm_M := (hdr_30.1, hdr_30.2, [0, 1, 2, 5, 8, 9, 10, 13, 14, 15, 18, 21, 22, 23, 24, 25, 26, 27, 30, 33, 34, 36, 39, 40, 41, 42, 44, 46, 48, 51, 52, 54, 55, 57, 59, 60, 63, 66, 67, 68, 70, 73, 76, 78, 79, 81, 82, 83, 85, 88, 89, 90, 93], cod_30)
abbrev cod_31 : List jm_I := [.inl (jm_aload 0), .inl (jm_iload 1), .inr (.inr (16, 2, 8)), .inl (jm_ifne 6), .inl (jm_ic 1), .inr (.inl jm_iret), .inl (jm_iload 2), .inl (jm_ic 4), .inl (jm_iclt 12), .inl (jm_iload 2), .inl (jm_ic 96), .inl (jm_icle 14), .inl (jm_ic 2), .inl (jm_goto 15), .inl (jm_ic 0), .inr (.inl jm_iret)]
def met_31 : jm_M := (hdr_31.1, hdr_31.2, [0, 1, 2, 5, 8, 9, 10, 11, 12, 15, 16, 18, 21, 22, 25, 26], cod_31)
abbrev cod_32 : List jm_I := [.inl (jm_aload 0), .inl (jm_gS 7 3 6 (fun _ => 3)), .inl (jm_gS 6 0 1 (fun i => i)), .inl (jm_aload 0), .inl (jm_gM 7 1 3), .inl (jm_gS 3 1 28 (fun i => i)), .inl (jm_iload 1), .inl jm_aald, .inl (jm_iload 2), .inl (jm_aload 0), .inl (jm_gM 7 1 3), .inl (jm_gS 3 1 28 (fun i => i)), .inl (jm_iload 1), .inl jm_aald, .inl (jm_gI 2 1), .inr (.inr (211, 4, 2)), .inl (jm_aload 0), .inl (jm_gS 7 3 6 (fun _ => 3)), .inl (jm_gS 6 0 1 (fun i => i)), .inr (.inr (219, 1, 2)), .inr (.inl jm_iret)]
def met_32 : jm_M := (hdr_32.1, hdr_32.2, [0, 1, 4, 7, 8, 11, 14, 15, 16, 17, 18, 21, 24, 25, 26, 29, 32, 33, 36, 39, 42], cod_32)
abbrev cod_33 : List jm_I := [.inl (jm_aload 0), .inl (jm_gS 7 3 6 (fun _ => 3)), .inl (jm_gS 6 0 1 (fun i => i)), .inl (jm_astore 3), .inl (jm_aload 3), .inl (jm_aload 1), .inl (jm_iload 2), .inl (jm_aload 1), .inl (jm_gI 2 1), .inr (.inr (211, 4, 2)), .inl (jm_aload 1), .inl (jm_iload 2), .inr (.inr (230, 2, 3)), .inl (jm_ifeq 16), .inl (jm_ic 0), .inl (jm_goto 17), .inl (jm_ic 1), .inl (jm_istore 4), .inl (jm_ic 0), .inl (jm_istore 5), .inl (jm_iload 5), .inl (jm_aload 1), .inl (jm_gI 2 2), .inl (jm_icge 50), .inl (jm_aload 1), .inl (jm_gS 2 7 24 (fun i => i)), .inl (jm_iload 5), .inl jm_iald, .inl (jm_aload 3), .inl (jm_gI 1 1), .inl (jm_icle 35), .inl (jm_iload 4), .inl (jm_ic 2), .inl (jm_bin (fun a b => a ||| b)), .inl (jm_istore 4), .inl (jm_aload 1), .inl (jm_iload 5), .inl (jm_iload 2), .inr (.inr (237, 3, 3)), .inl (jm_aload 1), .inl (jm_gS 2 8 25 (fun i => i)), .inl (jm_iload 5), .inl jm_iald, .inl (jm_icle 48), .inl (jm_iload 4), .inl (jm_ic 4), .inl (jm_bin (fun a b => a ||| b)), .inl (jm_istore 4), .inl (jm_iinc 5 1), .inl (jm_goto 20), .inl (jm_aload 3), .inr (.inr (213, 1, 2)), .inl (jm_ifeq 57), .inl (jm_iload 4), .inl (jm_ic 8), .inl (jm_bin (fun a b => a ||| b)), .inl (jm_istore 4), .inl (jm_aload 3), .inr (.inr (216, 1, 2)), .inl (jm_ifne 64), .inl (jm_iload 4), .inl (jm_ic 16), .inl (jm_bin (fun a b => a ||| b)), .inl (jm_istore 4), .inl (jm_iload 4), .inr (.inl jm_iret)]
def met_33 : jm_M := (hdr_33.1, hdr_33.2, [0, 1, 4, 7, 8, 9, 10, 11, 12, 15, 18, 19, 20, 23, 26, 27, 30, 31, 33, 34, 36, 38, 39, 42, 45, 46, 49, 51, 52, 53, 56, 59, 61, 62, 63, 65, 66, 68, 69, 72, 73, 76, 78, 79, 82, 84, 85, 86, 88, 91, 94, 95, 98, 101, 103, 105, 106, 108, 109, 112, 115, 117, 119, 120, 122, 124], cod_33)
abbrev cod_34 : List jm_I := [.inl (jm_aload 1), .inl (jm_iload 2), .inr (.inr (230, 2, 3)), .inl (jm_ifne 6), .inl (jm_ic 0), .inr (.inl (jm_nret .boolean)), .inl (jm_aload 0), .inl (jm_gS 7 3 6 (fun _ => 3)), .inl (jm_gS 6 0 1 (fun i => i)), .inl (jm_aload 1), .inl (jm_iload 2), .inl (jm_aload 1), .inl (jm_gI 2 1), .inr (.inr (211, 4, 2)), .inl (jm_aload 0), .inl (jm_gS 7 3 6 (fun _ => 3)), .inl (jm_gS 6 0 1 (fun i => i)), .inl (jm_aload 1), .inr (.inr (215, 2, 2)), .inr (.inl (jm_nret .boolean))]
def met_34 : jm_M := (hdr_34.1, hdr_34.2, [0, 1, 2, 5, 8, 9, 10, 11, 14, 17, 18, 19, 20, 23, 26, 27, 30, 33, 34, 37], cod_34)
abbrev cod_35 : List jm_I := [.inl (jm_aload 0), .inl (jm_gS 7 3 6 (fun _ => 3)), .inl (jm_gS 6 0 1 (fun i => i)), .inl (jm_aload 1), .inl (jm_aload 1), .inl (jm_gI 2 0), .inl (jm_iload 2), .inr (.inr (211, 4, 2)), .inl (jm_aload 0), .inl (jm_gS 7 3 6 (fun _ => 3)), .inl (jm_gS 6 0 1 (fun i => i)), .inr (.inr (216, 1, 2)), .inr (.inl (jm_nret .boolean))]
def met_35 : jm_M := (hdr_35.1, hdr_35.2, [0, 1, 4, 7, 8, 9, 12, 13, 16, 17, 20, 23, 26], cod_35)
abbrev cod_36 : List jm_I := [.inl (jm_aload 0), .inl (jm_iload 1), .inr (.inr (16, 2, 8)), .inl (jm_ifne 8), .inl (jm_aload 0), .inl (jm_ic 1), .inr (.inr (9, 2, 8)), .inr (.inl jm_iret), .inl (jm_aload 0), .inl (jm_aload 0), .inl (jm_gS 7 2 32 (fun i => i)), .inl (jm_iload 1), .inl jm_aald, .inl (jm_gI 6 1), .inl (jm_ifeq 17), .inl (jm_ic 1), .inl (jm_goto 18), .inl (jm_ic 0), .inr (.inr (10, 2, 8)), .inr (.inl jm_iret)]
def met_36 : jm_M := (hdr_36.1, hdr_36.2, [0, 1, 2, 5, 8, 9, 10, 13, 14, 15, 16, 19, 20, 21, 24, 27, 28, 31, 32, 35], cod_36)
abbrev cod_37 : List jm_I := [.inl (jm_aload 0), .inl (jm_iload 1), .inl (jm_aload 0), .inl (jm_iload 1), .inr (.inr (16, 2, 8)), .inr (.inr (44, 3, 8)), .inl (jm_istore 2), .inl (jm_iload 2), .inl (jm_ifeq 13), .inl (jm_aload 0), .inl (jm_iload 2), .inr (.inr (9, 2, 8)), .inl (jm_goto 20), .inl (jm_aload 0), .inl (jm_aload 0), .inl (jm_gS 7 2 32 (fun i => i)), .inl (jm_iload 1), .inl jm_aald, .inl (jm_gI 6 2), .inr (.inr (10, 2, 8)), .inr (.inl jm_iret)]
def met_37 : jm_M := (hdr_37.1, hdr_37.2, [0, 1, 2, 3, 4, 7, 10, 11, 12, 15, 16, 17, 20, 23, 24, 25, 28, 29, 30, 33, 36], cod_37)
abbrev cod_38 : List jm_I := [.inl (jm_aload 0), .inl (jm_iload 1), .inl (jm_aload 0), .inl (jm_iload 1), .inr (.inr (16, 2, 8)), .inr (.inr (44, 3, 8)), .inl (jm_istore 2), .inl (jm_iload 2), .inl (jm_ifeq 13), .inl (jm_aload 0), .inl (jm_iload 2), .inr (.inr (9, 2, 8)), .inl (jm_goto 20), .inl (jm_aload 0), .inl (jm_aload 0), .inl (jm_gS 7 2 32 (fun i => i)), .inl (jm_iload 1), .inl jm_aald, .inl (jm_gI 6 3), .inr (.inr (10, 2, 8)), .inr (.inl jm_iret)]
def met_38 : jm_M := (hdr_38.1, hdr_38.2, [0, 1, 2, 3, 4, 7, 10, 11, 12, 15, 16, 17, 20, 23, 24, 25, 28, 29, 30, 33, 36], cod_38)
abbrev cod_39 : List jm_I := [.inl (jm_aload 0), .inl (jm_iload 1), .inl (jm_aload 0), .inl (jm_iload 1), .inl (jm_iload 2), .inr (.inr (18, 3, 8)), .inl (jm_ifeq 14), .inl (jm_aload 0), .inl (jm_iload 1), .inl (jm_iload 3), .inr (.inr (19, 3, 8)), .inl (jm_ifeq 14), .inl (jm_ic 1), .inl (jm_goto 15), .inl (jm_ic 0), .inr (.inr (44, 3, 8)), .inl (jm_istore 4), .inl (jm_iload 4), .inl (jm_ifeq 23), .inl (jm_aload 0), .inl (jm_iload 4), .inr (.inr (9, 2, 8)), .inl (jm_goto 35), .inl (jm_aload 0), .inl (jm_aload 0), .inl (jm_gS 7 2 32 (fun i => i)), .inl (jm_iload 1), .inl jm_aald, .inl (jm_gS 6 0 1 (fun i => i)), .inl (jm_gS 1 12 20 (fun i => i)), .inl (jm_iload 2), .inl jm_aald, .inl (jm_iload 3), .inl jm_iald, .inr (.inr (10, 2, 8)), .inr (.inl jm_iret)]
def met_39 : jm_M := (hdr_39.1, hdr_39.2, [0, 1, 2, 3, 4, 5, 8, 11, 12, 13, 14, 17, 20, 21, 24, 25, 28, 30, 32, 35, 36, 38, 41, 44, 45, 46, 49, 50, 51, 54, 57, 58, 59, 60, 61, 64], cod_39)
abbrev cod_40 : List jm_I := [.inl (jm_aload 0), .inl (jm_iload 1), .inl (jm_aload 0), .inl (jm_iload 1), .inl (jm_iload 2), .inr (.inr (18, 3, 8)), .inl (jm_ifeq 14), .inl (jm_aload 0), .inl (jm_iload 1), .inl (jm_iload 3), .inr (.inr (19, 3, 8)), .inl (jm_ifeq 14), .inl (jm_ic 1), .inl (jm_goto 15), .inl (jm_ic 0), .inr (.inr (44, 3, 8)), .inl (jm_istore 4), .inl (jm_iload 4), .inl (jm_ifeq 23), .inl (jm_aload 0), .inl (jm_iload 4), .inr (.inr (9, 2, 8)), .inr (.inl jm_iret), .inl (jm_aload 0), .inl (jm_aload 0), .inl (jm_gS 7 2 32 (fun i => i)), .inl (jm_iload 1), .inl jm_aald, .inl (jm_gS 6 0 1 (fun i => i)), .inl (jm_gS 1 12 20 (fun i => i)), .inl (jm_iload 2), .inl jm_aald, .inl (jm_iload 3), .inl jm_iald, .inl (jm_ifne 37), .inl (jm_ic (-2)), .inl (jm_goto 44), .inl (jm_aload 0), .inl (jm_gS 7 2 32 (fun i => i)), .inl (jm_iload 1), .inl jm_aald, .inl (jm_iload 2), .inl (jm_iload 3), .inr (.inr (267, 3, 7)), .inr (.inr (10, 2, 8)), .inr (.inl jm_iret)]
def met_40 : jm_M := (hdr_40.1, hdr_40.2, [0, 1, 2, 3, 4, 5, 8, 11, 12, 13, 14, 17, 20, 21, 24, 25, 28, 30, 32, 35, 36, 38, 41, 42, 43, 44, 47, 48, 49, 52, 55, 56, 57, 58, 59, 62, 64, 67, 68, 71, 72, 73, 74, 75, 78, 81], cod_40)
abbrev cod_41 : List jm_I := [.inl (jm_aload 0), .inl (jm_iload 1), .inl (jm_aload 0), .inl (jm_iload 1), .inl (jm_iload 2), .inr (.inr (18, 3, 8)), .inr (.inr (44, 3, 8)), .inl (jm_istore 3), .inl (jm_iload 3), .inl (jm_ifeq 14), .inl (jm_aload 0), .inl (jm_iload 3), .inr (.inr (9, 2, 8)), .inl (jm_goto 22), .inl (jm_aload 0), .inl (jm_aload 0), .inl (jm_gS 7 2 32 (fun i => i)), .inl (jm_iload 1), .inl jm_aald, .inl (jm_iload 2), .inr (.inr (269, 2, 7)), .inr (.inr (10, 2, 8)), .inr (.inl jm_iret)]
def met_41 : jm_M := (hdr_41.1, hdr_41.2, [0, 1, 2, 3, 4, 5, 8, 11, 12, 13, 16, 17, 18, 21, 24, 25, 26, 29, 30, 31, 32, 35, 38], cod_41)
abbrev cod_42 : List jm_I := [.inl (jm_aload 0), .inl (jm_iload 1), .inl (jm_aload 0), .inl (jm_iload 1), .inl (jm_iload 2), .inr (.inr (19, 3, 8)), .inr (.inr (44, 3, 8)), .inl (jm_istore 3), .inl (jm_iload 3), .inl (jm_ifeq 14), .inl (jm_aload 0), .inl (jm_iload 3), .inr (.inr (9, 2, 8)), .inl (jm_goto 24), .inl (jm_aload 0), .inl (jm_aload 0), .inl (jm_gS 7 2 32 (fun i => i)), .inl (jm_iload 1), .inl jm_aald, .inl (jm_gS 6 0 1 (fun i => i)), .inl (jm_gS 1 11 19 (fun i => i)), .inl (jm_iload 2), .inl jm_iald, .inr (.inr (10, 2, 8)), .inr (.inl jm_iret)]
def met_42 : jm_M := (hdr_42.1, hdr_42.2, [0, 1, 2, 3, 4, 5, 8, 11, 12, 13, 16, 17, 18, 21, 24, 25, 26, 29, 30, 31, 34, 37, 38, 39, 42], cod_42)
abbrev cod_43 : List jm_I := [.inl (jm_aload 0), .inl (jm_iload 1), .inl (jm_aload 0), .inl (jm_iload 1), .inl (jm_iload 2), .inr (.inr (19, 3, 8)), .inr (.inr (44, 3, 8)), .inl (jm_istore 3), .inl (jm_iload 3), .inl (jm_ifeq 14), .inl (jm_aload 0), .inl (jm_iload 3), .inr (.inr (9, 2, 8)), .inl (jm_goto 22), .inl (jm_aload 0), .inl (jm_aload 0), .inl (jm_gS 7 2 32 (fun i => i)), .inl (jm_iload 1), .inl jm_aald, .inl (jm_iload 2), .inr (.inr (270, 2, 7)), .inr (.inr (10, 2, 8)), .inr (.inl jm_iret)]
def met_43 : jm_M := (hdr_43.1, hdr_43.2, [0, 1, 2, 3, 4, 5, 8, 11, 12, 13, 16, 17, 18, 21, 24, 25, 26, 29, 30, 31, 32, 35, 38], cod_43)
abbrev cod_44 : List jm_I := [.inl (jm_aload 0), .inl (jm_iload 1), .inr (.inr (16, 2, 8)), .inl (jm_ifeq 6), .inl (jm_iload 2), .inl (jm_ifne 8), .inl (jm_ic 1), .inr (.inl jm_iret), .inl (jm_aload 0), .inl (jm_gS 7 2 32 (fun i => i)), .inl (jm_iload 1), .inl jm_aald, .inl (jm_gI 6 1), .inl (jm_ifeq 16), .inl (jm_ic 0), .inl (jm_goto 17), .inl (jm_ic 5), .inr (.inl jm_iret)]
def met_44 : jm_M := (hdr_44.1, hdr_44.2, [0, 1, 2, 5, 8, 9, 12, 13, 14, 15, 18, 19, 20, 23, 26, 27, 30, 31], cod_44)
abbrev cod_45 : List jm_I := [.inl (jm_aload 0), .inl (jm_gM 7 1 3), .inl (jm_gI 3 0), .inl (jm_ifeq 9), .inl (jm_iload 1), .inl (jm_iflt 9), .inl (jm_iload 1), .inl (jm_ic 9), .inl (jm_icle 13), .inl (jm_aload 0), .inl (jm_ic 1), .inr (.inr (9, 2, 8)), .inr (.inl jm_iret), .inl (jm_aload 0), .inl (jm_aload 0), .inl (jm_gS 7 5 0 (fun _ => 0)), .inl (jm_iload 1), .inr (.inr (203, 2, 1)), .inr (.inr (10, 2, 8)), .inr (.inl jm_iret)]
def met_45 : jm_M := (hdr_45.1, hdr_45.2, [0, 1, 4, 7, 10, 11, 14, 15, 17, 20, 21, 22, 25, 26, 27, 28, 31, 32, 35, 38], cod_45)
abbrev cod_46 : List jm_I := [.inl (jm_aload 0), .inl (jm_gM 7 1 3), .inl (jm_gI 3 0), .inl (jm_ifeq 9), .inl (jm_iload 2), .inl (jm_iflt 9), .inl (jm_iload 2), .inl (jm_ic 3), .inl (jm_icle 13), .inl (jm_aload 0), .inl (jm_ic 1), .inr (.inr (9, 2, 8)), .inr (.inl jm_iret), .inl (jm_aload 0), .inl (jm_iload 1), .inl (jm_iflt 21), .inl (jm_iload 1), .inl (jm_ic 99), .inl (jm_icgt 21), .inl (jm_ic 1), .inl (jm_goto 22), .inl (jm_ic 0), .inr (.inr (59, 2, 8)), .inl (jm_istore 3), .inl (jm_iload 3), .inl (jm_ifeq 30), .inl (jm_aload 0), .inl (jm_iload 3), .inr (.inr (9, 2, 8)), .inr (.inl jm_iret), .inl (jm_iload 2), .inl (jm_tsw 0 [32, 38, 44] 50), .inl (jm_aload 0), .inl (jm_aload 0), .inl (jm_iload 1), .inr (.inr (66, 2, 8)), .inr (.inr (10, 2, 8)), .inr (.inl jm_iret), .inl (jm_aload 0), .inl (jm_aload 0), .inl (jm_iload 1), .inr (.inr (64, 2, 8)), .inr (.inr (10, 2, 8)), .inr (.inl jm_iret), .inl (jm_aload 0), .inl (jm_aload 0), .inl (jm_iload 1), .inr (.inr (65, 2, 8)), .inr (.inr (10, 2, 8)), .inr (.inl jm_iret), .inl (jm_aload 0), .inl (jm_aload 0), .inl (jm_iload 1), .inr (.inr (67, 2, 8)), .inr (.inr (10, 2, 8)), .inr (.inl jm_iret)]
def met_46 : jm_M := (hdr_46.1, hdr_46.2, [0, 1, 4, 7, 10, 11, 14, 15, 16, 19, 20, 21, 24, 25, 26, 27, 30, 31, 33, 36, 37, 40, 41, 44, 45, 46, 49, 50, 51, 54, 55, 56, 84, 85, 86, 87, 90, 93, 94, 95, 96, 97, 100, 103, 104, 105, 106, 107, 110, 113, 114, 115, 116, 117, 120, 123], cod_46)
abbrev cod_47 : List jm_I := [.inl (jm_iload 1), .inl (jm_iflt 12), .inl (jm_iload 1), .inl (jm_aload 0), .inl (jm_gS 7 5 0 (fun _ => 0)), .inl (jm_gI 0 3), .inl (jm_icge 12), .inl (jm_iload 2), .inl (jm_iflt 12), .inl (jm_iload 2), .inl (jm_ic 2), .inl (jm_icle 16), .inl (jm_aload 0), .inl (jm_ic 1), .inr (.inr (9, 2, 8)), .inr (.inl jm_iret), .inl (jm_iload 2), .inl (jm_lsw [(0, 18), (1, 26)] 34), .inl (jm_aload 0), .inl (jm_aload 0), .inl (jm_gS 7 5 0 (fun _ => 0)), .inl (jm_gS 0 10 10 (fun i => i)), .inl (jm_iload 1), .inl jm_iald, .inr (.inr (10, 2, 8)), .inr (.inl jm_iret), .inl (jm_aload 0), .inl (jm_aload 0), .inl (jm_gS 7 5 0 (fun _ => 0)), .inl (jm_gS 0 11 11 (fun i => i)), .inl (jm_iload 1), .inl jm_iald, .inr (.inr (10, 2, 8)), .inr (.inl jm_iret), .inl (jm_aload 0), .inl (jm_aload 0), .inl (jm_iload 1), .inr (.inr (68, 2, 8)), .inr (.inr (10, 2, 8)), .inr (.inl jm_iret)]
def met_47 : jm_M := (hdr_47.1, hdr_47.2, [0, 1, 4, 5, 6, 9, 12, 15, 16, 19, 20, 21, 24, 25, 26, 29, 30, 31, 56, 57, 58, 61, 64, 65, 66, 69, 70, 71, 72, 75, 78, 79, 80, 83, 84, 85, 86, 87, 90, 93], cod_47)
abbrev cod_48 : List jm_I := [.inl (jm_aload 0), .inl (jm_iload 1), .inr (.inr (61, 1, 0)), .inl (jm_ifeq 10), .inl (jm_aload 0), .inl (jm_iload 2), .inr (.inr (62, 2, 8)), .inl (jm_ifeq 10), .inl (jm_ic 1), .inl (jm_goto 11), .inl (jm_ic 0), .inr (.inr (59, 2, 8)), .inl (jm_istore 3), .inl (jm_iload 3), .inl (jm_ifeq 19), .inl (jm_aload 0), .inl (jm_iload 3), .inr (.inr (9, 2, 8)), .inr (.inl jm_iret), .inl (jm_aload 0), .inr (.inr (69, 1, 8)), .inl (jm_aload 0), .inl (jm_aload 0), .inl (jm_gS 7 4 5 (fun _ => 0)), .inl (jm_aload 0), .inl (jm_gS 7 5 0 (fun _ => 0)), .inl (jm_iload 2), .inr (.inr (257, 3, 6)), .inl (jm_iload 1), .inl (jm_iclt 32), .inl (jm_ic 1), .inl (jm_goto 33), .inl (jm_ic 0), .inr (.inr (10, 2, 8)), .inr (.inl jm_iret)]
def met_48 : jm_M := (hdr_48.1, hdr_48.2, [0, 1, 2, 5, 8, 9, 10, 13, 16, 17, 20, 21, 24, 25, 26, 29, 30, 31, 34, 35, 36, 39, 40, 41, 44, 45, 48, 49, 52, 53, 56, 57, 60, 61, 64], cod_48)
abbrev cod_49 : List jm_I := [.inl (jm_aload 0), .inl (jm_iload 1), .inr (.inr (61, 1, 0)), .inl (jm_ifeq 10), .inl (jm_aload 0), .inl (jm_iload 2), .inr (.inr (62, 2, 8)), .inl (jm_ifeq 10), .inl (jm_ic 1), .inl (jm_goto 11), .inl (jm_ic 0), .inr (.inr (59, 2, 8)), .inl (jm_istore 3), .inl (jm_iload 3), .inl (jm_ifeq 19), .inl (jm_aload 0), .inl (jm_iload 3), .inr (.inr (9, 2, 8)), .inr (.inl jm_iret), .inl (jm_aload 0), .inl (jm_gS 7 5 0 (fun _ => 0)), .inl (jm_gI 0 3), .inl (jm_ic 8), .inl (jm_iclt 28), .inl (jm_aload 0), .inl (jm_ic 3), .inr (.inr (9, 2, 8)), .inr (.inl jm_iret), .inl (jm_aload 0), .inr (.inr (69, 1, 8)), .inl (jm_aload 0), .inl (jm_gS 7 4 5 (fun _ => 0)), .inl (jm_aload 0), .inl (jm_gS 7 5 0 (fun _ => 0)), .inl (jm_iload 2), .inr (.inr (257, 3, 6)), .inl (jm_iload 1), .inl (jm_icge 42), .inl (jm_aload 0), .inl (jm_ic 5), .inr (.inr (9, 2, 8)), .inr (.inl jm_iret), .inl (jm_aload 0), .inl (jm_aload 0), .inl (jm_gS 7 5 0 (fun _ => 0)), .inl (jm_iload 1), .inl (jm_iload 2), .inr (.inr (206, 3, 1)), .inr (.inr (10, 2, 8)), .inr (.inl jm_iret)]
def met_49 : jm_M := (hdr_49.1, hdr_49.2, [0, 1, 2, 5, 8, 9, 10, 13, 16, 17, 20, 21, 24, 25, 26, 29, 30, 31, 34, 35, 36, 39, 42, 44, 47, 48, 49, 52, 53, 54, 57, 58, 61, 62, 65, 66, 69, 70, 73, 74, 75, 78, 79, 80, 81, 84, 85, 86, 89, 92], cod_49)
abbrev cod_50 : List jm_I := [.inl (jm_aload 0), .inl (jm_iload 1), .inr (.inr (61, 1, 0)), .inr (.inr (59, 2, 8)), .inl (jm_istore 2), .inl (jm_iload 2), .inl (jm_ifeq 11), .inl (jm_aload 0), .inl (jm_iload 2), .inr (.inr (9, 2, 8)), .inr (.inl jm_iret), .inl (jm_aload 0), .inr (.inr (69, 1, 8)), .inl (jm_ic 1), .inl (jm_istore 3), .inl (jm_iload 3), .inl (jm_ic 400), .inl (jm_icgt 46), .inl (jm_aload 0), .inl (jm_gS 7 4 5 (fun _ => 0)), .inl (jm_iload 3), .inr (.inr (254, 2, 6)), .inl (jm_iload 1), .inl (jm_iclt 44), .inl (jm_aload 0), .inl (jm_gS 7 4 5 (fun _ => 0)), .inl (jm_aload 0), .inl (jm_gS 7 5 0 (fun _ => 0)), .inl (jm_aload 0), .inl (jm_gS 7 5 0 (fun _ => 0)), .inl (jm_gI 0 0), .inl (jm_iload 3), .inl (jm_bin (fun a b => a + b)), .inr (.inr (257, 3, 6)), .inl (jm_iload 1), .inl (jm_iclt 44), .inl (jm_aload 0), .inl (jm_aload 0), .inl (jm_gS 7 5 0 (fun _ => 0)), .inl (jm_gI 0 0), .inl (jm_iload 3), .inl (jm_bin (fun a b => a + b)), .inr (.inr (10, 2, 8)), .inr (.inl jm_iret), .inl (jm_iinc 3 1), .inl (jm_goto 15), .inl (jm_aload 0), .inl (jm_ic (-2)), .inr (.inr (10, 2, 8)), .inr (.inl jm_iret)]
def met_50 : jm_M := (hdr_50.1, hdr_50.2, [0, 1, 2, 5, 8, 9, 10, 13, 14, 15, 18, 19, 20, 23, 24, 25, 26, 29, 32, 33, 36, 37, 40, 41, 44, 45, 48, 49, 52, 53, 56, 59, 60, 61, 64, 65, 68, 69, 70, 73, 76, 77, 78, 81, 82, 85, 88, 89, 91, 94], cod_50)
abbrev cod_51 : List jm_I := [.inl (jm_aload 0), .inl (jm_aload 0), .inl (jm_iload 1), .inr (.inr (62, 2, 8)), .inr (.inr (59, 2, 8)), .inl (jm_istore 2), .inl (jm_iload 2), .inl (jm_ifeq 12), .inl (jm_aload 0), .inl (jm_iload 2), .inr (.inr (9, 2, 8)), .inr (.inl jm_iret), .inl (jm_aload 0), .inr (.inr (69, 1, 8)), .inl (jm_aload 0), .inl (jm_gS 7 4 5 (fun _ => 0)), .inl (jm_aload 0), .inl (jm_gS 7 5 0 (fun _ => 0)), .inl (jm_iload 1), .inr (.inr (257, 3, 6)), .inl (jm_istore 3), .inl (jm_aload 0), .inl (jm_ic 0), .inl (jm_iload 3), .inl (jm_ic 400), .inl jm_min, .inl jm_max, .inr (.inr (10, 2, 8)), .inr (.inl jm_iret)]
def met_51 : jm_M := (hdr_51.1, hdr_51.2, [0, 1, 2, 3, 6, 9, 10, 11, 14, 15, 16, 19, 20, 21, 24, 25, 28, 29, 32, 33, 36, 37, 38, 39, 40, 43, 46, 49, 52], cod_51)
abbrev cod_52 : List jm_I := [.inl (jm_aload 0), .inl (jm_ic 1), .inr (.inr (59, 2, 8)), .inl (jm_istore 1), .inl (jm_iload 1), .inl (jm_ifeq 10), .inl (jm_aload 0), .inl (jm_iload 1), .inr (.inr (9, 2, 8)), .inl (jm_goto 14), .inl (jm_aload 0), .inl (jm_aload 0), .inr (.inr (70, 1, 8)), .inr (.inr (10, 2, 8)), .inr (.inl jm_iret)]
def met_52 : jm_M := (hdr_52.1, hdr_52.2, [0, 1, 2, 5, 6, 7, 10, 11, 12, 15, 18, 19, 20, 23, 26], cod_52)
abbrev cod_53 : List jm_I := [.inl (jm_aload 0), .inl (jm_iload 1), .inl (jm_iflt 8), .inl (jm_iload 1), .inl (jm_ic 99), .inl (jm_icgt 8), .inl (jm_ic 1), .inl (jm_goto 9), .inl (jm_ic 0), .inr (.inr (59, 2, 8)), .inl (jm_istore 2), .inl (jm_iload 2), .inl (jm_ifeq 17), .inl (jm_aload 0), .inl (jm_iload 2), .inr (.inr (9, 2, 8)), .inr (.inl jm_iret), .inl (jm_iload 1), .inl (jm_ifne 21), .inl (jm_ic 0), .inl (jm_goto 25), .inl (jm_iload 1), .inl (jm_aload 0), .inr (.inr (70, 1, 8)), .inl jm_min, .inl (jm_istore 3), .inl (jm_aload 0), .inl (jm_gS 7 5 0 (fun _ => 0)), .inl jm_dup, .inl (jm_gI 0 5), .inl (jm_iload 3), .inl (jm_bin (fun a b => a + b)), .inl (jm_pI 0 5), .inl (jm_aload 0), .inl (jm_gS 7 5 0 (fun _ => 0)), .inl jm_dup, .inl (jm_gI 0 6), .inl (jm_iload 1), .inl (jm_iload 3), .inl (jm_bin (fun a b => a - b)), .inl (jm_bin (fun a b => a + b)), .inl (jm_pI 0 6), .inl (jm_aload 0), .inl (jm_iload 3), .inr (.inr (71, 2, 8)), .inl (jm_aload 0), .inl (jm_iload 3), .inr (.inr (10, 2, 8)), .inr (.inl jm_iret)]
def met_53 : jm_M := (hdr_53.1, hdr_53.2, [0, 1, 2, 5, 6, 8, 11, 12, 15, 16, 19, 20, 21, 24, 25, 26, 29, 30, 31, 34, 35, 38, 39, 40, 43, 46, 47, 48, 51, 52, 55, 56, 57, 60, 61, 64, 65, 68, 69, 70, 71, 72, 75, 76, 77, 80, 81, 82, 85], cod_53)
abbrev cod_54 : List jm_I := [.inl (jm_aload 0), .inl (jm_iload 1), .inl (jm_ic 1), .inl (jm_iclt 9), .inl (jm_iload 1), .inl (jm_ic 100), .inl (jm_icgt 9), .inl (jm_ic 1), .inl (jm_goto 10), .inl (jm_ic 0), .inr (.inr (59, 2, 8)), .inl (jm_istore 2), .inl (jm_iload 2), .inl (jm_ifeq 18), .inl (jm_aload 0), .inl (jm_iload 2), .inr (.inr (9, 2, 8)), .inr (.inl jm_iret), .inl (jm_aload 0), .inl (jm_gS 7 5 0 (fun _ => 0)), .inl (jm_gI 0 4), .inl (jm_istore 3), .inl (jm_ic 0), .inl (jm_istore 4), .inl (jm_iload 4), .inl (jm_iload 1), .inl (jm_icge 32), .inl (jm_aload 0), .inl (jm_ic 0), .inr (.inr (71, 2, 8)), .inl (jm_iinc 4 1), .inl (jm_goto 24), .inl (jm_aload 0), .inl (jm_aload 0), .inl (jm_gS 7 5 0 (fun _ => 0)), .inl (jm_gI 0 4), .inl (jm_iload 3), .inl (jm_bin (fun a b => a - b)), .inr (.inr (10, 2, 8)), .inr (.inl jm_iret)]
def met_54 : jm_M := (hdr_54.1, hdr_54.2, [0, 1, 2, 3, 6, 7, 9, 12, 13, 16, 17, 20, 21, 22, 25, 26, 27, 30, 31, 32, 35, 38, 39, 40, 42, 44, 45, 48, 49, 50, 53, 56, 59, 60, 61, 64, 67, 68, 69, 72], cod_54)
abbrev cod_55 : List jm_I := [.inl (jm_aload 0), .inl (jm_iload 1), .inr (.inr (60, 2, 8)), .inl (jm_istore 2), .inl (jm_iload 2), .inl (jm_ifeq 10), .inl (jm_aload 0), .inl (jm_iload 2), .inr (.inr (9, 2, 8)), .inl (jm_goto 15), .inl (jm_aload 0), .inl (jm_aload 0), .inl (jm_iload 1), .inr (.inr (72, 2, 8)), .inr (.inr (10, 2, 8)), .inr (.inl jm_iret)]
def met_55 : jm_M := (hdr_55.1, hdr_55.2, [0, 1, 2, 5, 6, 7, 10, 11, 12, 15, 18, 19, 20, 21, 24, 27], cod_55)
abbrev cod_56 : List jm_I := [.inl (jm_aload 0), .inl (jm_iload 1), .inr (.inr (60, 2, 8)), .inl (jm_istore 2), .inl (jm_iload 2), .inl (jm_ifeq 10), .inl (jm_aload 0), .inl (jm_iload 2), .inr (.inr (9, 2, 8)), .inr (.inl jm_iret), .inl (jm_aload 0), .inl (jm_iload 1), .inr (.inr (72, 2, 8)), .inl (jm_istore 3), .inl (jm_aload 0), .inl (jm_gS 7 5 0 (fun _ => 0)), .inl (jm_iload 1), .inl (jm_pI 0 7), .inl (jm_aload 0), .inl (jm_gS 7 5 0 (fun _ => 0)), .inl (jm_iload 3), .inl (jm_pI 0 8), .inl (jm_aload 0), .inl (jm_gS 7 5 0 (fun _ => 0)), .inr (.inr (210, 1, 1)), .inl (jm_aload 0), .inl (jm_iload 3), .inr (.inr (10, 2, 8)), .inr (.inl jm_iret)]
def met_56 : jm_M := (hdr_56.1, hdr_56.2, [0, 1, 2, 5, 6, 7, 10, 11, 12, 15, 16, 17, 18, 21, 22, 23, 26, 27, 30, 31, 34, 35, 38, 39, 42, 45, 46, 47, 50], cod_56)
abbrev cod_57 : List jm_I := [.inl (jm_aload 0), .inl (jm_gM 7 1 3), .inl (jm_gI 3 0), .inl (jm_ifne 9), .inl (jm_aload 0), .inl (jm_ic 1), .inl (jm_pI 7 8), .inl (jm_ic 0), .inr (.inl (jm_nret .boolean)), .inl (jm_aload 0), .inl (jm_ic 0), .inl (jm_pI 7 8), .inl (jm_aload 0), .inl (jm_gS 7 6 0 (fun _ => 1)), .inl (jm_aload 0), .inl (jm_gS 7 5 0 (fun _ => 0)), .inr (.inr (202, 2, 1)), .inl (jm_aload 0), .inl (jm_ic 1), .inl (jm_pZ 7 7), .inl (jm_ic 1), .inr (.inl (jm_nret .boolean))]
def met_57 : jm_M := (hdr_57.1, hdr_57.2, [0, 1, 4, 7, 10, 11, 12, 15, 16, 17, 18, 19, 22, 23, 26, 27, 30, 33, 34, 35, 38, 39], cod_57)
abbrev cod_58 : List jm_I := [.inl (jm_aload 0), .inl (jm_gI 7 7), .inl (jm_ifne 8), .inl (jm_aload 0), .inl (jm_ic 1), .inl (jm_pI 7 8), .inl (jm_ic 0), .inr (.inl (jm_nret .boolean)), .inl (jm_aload 0), .inl (jm_ic 0), .inl (jm_pI 7 8), .inl (jm_aload 0), .inl (jm_gS 7 5 0 (fun _ => 0)), .inl (jm_aload 0), .inl (jm_gS 7 6 0 (fun _ => 1)), .inr (.inr (202, 2, 1)), .inl (jm_ic 1), .inr (.inl (jm_nret .boolean))]
def met_58 : jm_M := (hdr_58.1, hdr_58.2, [0, 1, 4, 7, 8, 9, 12, 13, 14, 15, 16, 19, 20, 23, 24, 27, 30, 31], cod_58)
abbrev cod_59 : List jm_I := [.inl (jm_aload 0), .inl (jm_gM 7 1 3), .inl (jm_gI 3 0), .inl (jm_ifne 6), .inl (jm_ic 1), .inr (.inl jm_iret), .inl (jm_aload 0), .inl (jm_gS 7 2 32 (fun i => i)), .inl (jm_aload 0), .inl (jm_gS 7 5 0 (fun _ => 0)), .inl (jm_gI 0 1), .inl jm_aald, .inl (jm_gI 6 1), .inl (jm_ifne 16), .inl (jm_ic 5), .inr (.inl jm_iret), .inl (jm_iload 1), .inl (jm_ifeq 20), .inl (jm_ic 0), .inl (jm_goto 21), .inl (jm_ic 2), .inr (.inl jm_iret)]
def met_59 : jm_M := (hdr_59.1, hdr_59.2, [0, 1, 4, 7, 10, 11, 12, 13, 16, 17, 20, 23, 24, 27, 30, 31, 32, 33, 36, 37, 40, 41], cod_59)
abbrev cod_60 : List jm_I := [.inl (jm_aload 0), .inl (jm_iload 1), .inr (.inr (16, 2, 8)), .inl (jm_ifne 6), .inl (jm_ic 1), .inr (.inl jm_iret), .inl (jm_aload 0), .inl (jm_gS 7 2 32 (fun i => i)), .inl (jm_aload 0), .inl (jm_gS 7 5 0 (fun _ => 0)), .inl (jm_gI 0 1), .inl jm_aald, .inl (jm_gI 6 1), .inl (jm_ifeq 22), .inl (jm_aload 0), .inl (jm_gS 7 2 32 (fun i => i)), .inl (jm_iload 1), .inl jm_aald, .inl (jm_gI 6 1), .inl (jm_ifeq 22), .inl (jm_ic 1), .inl (jm_goto 23), .inl (jm_ic 0), .inl (jm_istore 2), .inl (jm_iload 2), .inl (jm_ifeq 32), .inl (jm_aload 0), .inl (jm_gS 7 5 0 (fun _ => 0)), .inr (.inr (204, 1, 1)), .inl (jm_ifne 32), .inl (jm_ic 0), .inl (jm_goto 33), .inl (jm_ic 5), .inr (.inl jm_iret)]
def met_60 : jm_M := (hdr_60.1, hdr_60.2, [0, 1, 2, 5, 8, 9, 10, 11, 14, 15, 18, 21, 22, 25, 28, 29, 32, 33, 34, 37, 40, 41, 44, 45, 46, 47, 50, 51, 54, 57, 60, 61, 64, 65], cod_60)
abbrev cod_61 : List jm_I := [.inl (jm_iload 0), .inl (jm_ic 1), .inl (jm_iclt 8), .inl (jm_iload 0), .inl (jm_ic 400), .inl (jm_icgt 8), .inl (jm_ic 1), .inl (jm_goto 9), .inl (jm_ic 0), .inr (.inl (jm_nret .boolean))]
def met_61 : jm_M := (hdr_61.1, hdr_61.2, [0, 1, 2, 5, 6, 9, 12, 13, 16, 17], cod_61)
abbrev cod_62 : List jm_I := [.inl (jm_iload 1), .inl (jm_aload 0), .inl (jm_gS 7 5 0 (fun _ => 0)), .inl (jm_gI 0 0), .inl (jm_icle 14), .inl (jm_iload 1), .inl (jm_aload 0), .inl (jm_gS 7 5 0 (fun _ => 0)), .inl (jm_gI 0 0), .inl (jm_ic 400), .inl (jm_bin (fun a b => a + b)), .inl (jm_icgt 14), .inl (jm_ic 1), .inl (jm_goto 15), .inl (jm_ic 0), .inr (.inl (jm_nret .boolean))]
def met_62 : jm_M := (hdr_62.1, hdr_62.2, [0, 1, 2, 5, 8, 11, 12, 13, 16, 19, 22, 23, 26, 27, 30, 31], cod_62)
abbrev cod_63 : List jm_I := [.inl (jm_aload 0), .inl (jm_gS 7 2 32 (fun i => i)), .inl (jm_aload 0), .inl (jm_gS 7 5 0 (fun _ => 0)), .inl (jm_gI 0 1), .inl jm_aald, .inl (jm_gS 6 0 1 (fun i => i)), .inl (jm_gI 1 0), .inl (jm_istore 1), .inl (jm_aload 0), .inl (jm_gS 7 5 0 (fun _ => 0)), .inr (.inr (204, 1, 1)), .inl (jm_ifeq 15), .inl (jm_iload 1), .inl (jm_ifgt 17), .inl (jm_ic 1000000), .inr (.inl jm_iret), .inl (jm_aload 0), .inl (jm_gS 7 5 0 (fun _ => 0)), .inl (jm_gI 0 8), .inl (jm_aload 0), .inl (jm_gS 7 5 0 (fun _ => 0)), .inl (jm_gI 0 0), .inl (jm_bin (fun a b => a - b)), .inl (jm_iload 1), .inl jm_idiv, .inr (.inl jm_iret)]
def met_63 : jm_M := (hdr_63.1, hdr_63.2, [0, 1, 4, 5, 8, 11, 12, 15, 18, 19, 20, 23, 26, 29, 30, 33, 36, 37, 38, 41, 44, 45, 48, 51, 52, 53, 54], cod_63)
abbrev cod_64 : List jm_I := [.inl (jm_iload 1), .inl (jm_aload 0), .inr (.inr (63, 1, 8)), .inl (jm_icge 8), .inl (jm_aload 0), .inl (jm_gS 7 5 0 (fun _ => 0)), .inl (jm_gI 0 1), .inl (jm_goto 11), .inl (jm_aload 0), .inl (jm_gS 7 5 0 (fun _ => 0)), .inl (jm_gI 0 7), .inr (.inl jm_iret)]
def met_64 : jm_M := (hdr_64.1, hdr_64.2, [0, 1, 2, 5, 8, 9, 12, 15, 18, 19, 22, 25], cod_64)
abbrev cod_65 : List jm_I := [.inl (jm_aload 0), .inr (.inr (63, 1, 8)), .inl (jm_istore 2), .inl (jm_aload 0), .inl (jm_gS 7 2 32 (fun i => i)), .inl (jm_aload 0), .inl (jm_iload 1), .inr (.inr (64, 2, 8)), .inl jm_aald, .inl (jm_gS 6 0 1 (fun i => i)), .inl (jm_gI 1 2), .inl (jm_istore 3), .inl (jm_iload 3), .inl (jm_ifgt 16), .inl (jm_ic 0), .inr (.inl jm_iret), .inl (jm_iload 1), .inl (jm_iload 2), .inl (jm_icge 27), .inl (jm_aload 0), .inl (jm_gS 7 5 0 (fun _ => 0)), .inl (jm_gI 0 2), .inl (jm_iload 1), .inl (jm_bin (fun a b => a + b)), .inl (jm_iload 3), .inl jm_irem, .inl (jm_goto 32), .inl (jm_iload 1), .inl (jm_iload 2), .inl (jm_bin (fun a b => a - b)), .inl (jm_iload 3), .inl jm_irem, .inr (.inl jm_iret)]
def met_65 : jm_M := (hdr_65.1, hdr_65.2, [0, 1, 4, 5, 6, 9, 10, 11, 14, 15, 18, 21, 22, 23, 26, 27, 28, 29, 30, 33, 34, 37, 40, 41, 42, 43, 44, 47, 48, 49, 50, 51, 52], cod_65)
abbrev cod_66 : List jm_I := [.inl (jm_aload 0), .inr (.inr (63, 1, 8)), .inl (jm_istore 2), .inl (jm_aload 0), .inl (jm_gS 7 2 32 (fun i => i)), .inl (jm_aload 0), .inl (jm_iload 1), .inr (.inr (64, 2, 8)), .inl jm_aald, .inl (jm_gS 6 0 1 (fun i => i)), .inl (jm_gI 1 0), .inl (jm_istore 3), .inl (jm_iload 1), .inl (jm_iload 2), .inl (jm_icge 23), .inl (jm_aload 0), .inl (jm_gS 7 5 0 (fun _ => 0)), .inl (jm_gI 0 0), .inl (jm_iload 1), .inl (jm_iload 3), .inl (jm_bin (fun a b => a * b)), .inl (jm_bin (fun a b => a + b)), .inl (jm_goto 32), .inl (jm_aload 0), .inl (jm_gS 7 5 0 (fun _ => 0)), .inl (jm_gI 0 8), .inl (jm_iload 1), .inl (jm_iload 2), .inl (jm_bin (fun a b => a - b)), .inl (jm_iload 3), .inl (jm_bin (fun a b => a * b)), .inl (jm_bin (fun a b => a + b)), .inr (.inl jm_iret)]
def met_66 : jm_M := (hdr_66.1, hdr_66.2, [0, 1, 4, 5, 6, 9, 10, 11, 14, 15, 18, 21, 22, 23, 24, 27, 28, 31, 34, 35, 36, 37, 38, 41, 42, 45, 48, 49, 50, 51, 52, 53, 54], cod_66)
abbrev cod_67 : List jm_I := [.inl (jm_aload 0), .inl (jm_gS 7 2 32 (fun i => i)), .inl (jm_aload 0), .inl (jm_iload 1), .inr (.inr (64, 2, 8)), .inl jm_aald, .inl (jm_gS 6 0 1 (fun i => i)), .inl (jm_gS 1 11 19 (fun i => i)), .inl (jm_aload 0), .inl (jm_iload 1), .inr (.inr (65, 2, 8)), .inl jm_iald, .inr (.inl jm_iret)]
def met_67 : jm_M := (hdr_67.1, hdr_67.2, [0, 1, 4, 5, 6, 9, 10, 13, 16, 17, 18, 21, 22], cod_67)
abbrev cod_68 : List jm_I := [.inl (jm_aload 0), .inl (jm_gS 7 5 0 (fun _ => 0)), .inl (jm_iload 1), .inr (.inr (205, 2, 1)), .inl (jm_istore 2), .inl (jm_ic 0), .inl (jm_istore 3), .inl (jm_ic 0), .inl (jm_istore 4), .inl (jm_iload 4), .inl (jm_ic 400), .inl (jm_icge 36), .inl (jm_iload 3), .inl (jm_aload 0), .inl (jm_iload 4), .inr (.inr (67, 2, 8)), .inl (jm_bin (fun a b => a + b)), .inl (jm_istore 3), .inl (jm_iload 3), .inl (jm_iload 2), .inl (jm_iclt 34), .inl (jm_aload 0), .inl (jm_iload 4), .inr (.inr (66, 2, 8)), .inl (jm_aload 0), .inl (jm_gS 7 2 32 (fun i => i)), .inl (jm_aload 0), .inl (jm_iload 4), .inr (.inr (64, 2, 8)), .inl jm_aald, .inl (jm_gS 6 0 1 (fun i => i)), .inl (jm_gI 1 0), .inl (jm_bin (fun a b => a + b)), .inr (.inl jm_iret), .inl (jm_iinc 4 1), .inl (jm_goto 9), .inl (jm_ic (-2)), .inr (.inl jm_iret)]
def met_68 : jm_M := (hdr_68.1, hdr_68.2, [0, 1, 4, 5, 8, 9, 10, 11, 12, 14, 16, 19, 22, 23, 24, 26, 29, 30, 31, 32, 33, 36, 37, 39, 42, 43, 46, 47, 49, 52, 53, 56, 59, 60, 61, 64, 67, 69], cod_68)
abbrev cod_69 : List jm_I := [.inl (jm_aload 0), .inl (jm_gS 7 4 5 (fun _ => 0)), .inl (jm_gS 5 0 30 (fun i => i)), .inl (jm_aload 0), .inl (jm_gS 7 2 32 (fun i => i)), .inl (jm_aload 0), .inl (jm_gS 7 5 0 (fun _ => 0)), .inl (jm_gI 0 1), .inl jm_aald, .inl (jm_gS 6 0 1 (fun i => i)), .inl (jm_aload 0), .inl (jm_gS 7 5 0 (fun _ => 0)), .inl (jm_gI 0 2), .inr (.inr (253, 3, 0)), .inl (jm_aload 0), .inl (jm_gS 7 4 5 (fun _ => 0)), .inl (jm_ic 400), .inl (jm_pI 5 2), .inl (jm_aload 0), .inl (jm_gS 7 5 0 (fun _ => 0)), .inr (.inr (204, 1, 1)), .inl (jm_ifeq 44), .inl (jm_aload 0), .inl (jm_gS 7 4 5 (fun _ => 0)), .inl (jm_gS 5 1 31 (fun i => i)), .inl (jm_aload 0), .inl (jm_gS 7 2 32 (fun i => i)), .inl (jm_aload 0), .inl (jm_gS 7 5 0 (fun _ => 0)), .inl (jm_gI 0 7), .inl jm_aald, .inl (jm_gS 6 0 1 (fun i => i)), .inl (jm_ic 0), .inr (.inr (253, 3, 0)), .inl (jm_aload 0), .inl (jm_gS 7 4 5 (fun _ => 0)), .inl (jm_aload 0), .inl (jm_gS 7 5 0 (fun _ => 0)), .inl (jm_gI 0 8), .inl (jm_aload 0), .inl (jm_gS 7 5 0 (fun _ => 0)), .inl (jm_gI 0 0), .inl (jm_bin (fun a b => a - b)), .inl (jm_pI 5 2), .inr (.inl jm_vret)]
def met_69 : jm_M := (hdr_69.1, hdr_69.2, [0, 1, 4, 7, 8, 11, 12, 15, 18, 19, 22, 23, 26, 29, 32, 33, 36, 39, 42, 43, 46, 49, 52, 53, 56, 59, 60, 63, 64, 67, 70, 71, 74, 75, 78, 79, 82, 83, 86, 89, 90, 93, 96, 97, 100], cod_69)
abbrev cod_70 : List jm_I := [.inl (jm_aload 0), .inr (.inr (69, 1, 8)), .inl (jm_aload 0), .inl (jm_gS 7 2 32 (fun i => i)), .inl (jm_aload 0), .inl (jm_gS 7 5 0 (fun _ => 0)), .inl (jm_gI 0 1), .inl jm_aald, .inl (jm_gS 6 0 1 (fun i => i)), .inl (jm_gS 1 11 19 (fun i => i)), .inl (jm_aload 0), .inl (jm_gS 7 5 0 (fun _ => 0)), .inl (jm_gI 0 2), .inl jm_iald, .inl (jm_istore 1), .inl (jm_ic 0), .inl (jm_iload 1), .inl (jm_aload 0), .inl (jm_gS 7 4 5 (fun _ => 0)), .inl (jm_aload 0), .inl (jm_gS 7 5 0 (fun _ => 0)), .inr (.inr (255, 2, 6)), .inl jm_min, .inl jm_max, .inr (.inl jm_iret)]
def met_70 : jm_M := (hdr_70.1, hdr_70.2, [0, 1, 4, 5, 8, 9, 12, 15, 16, 19, 22, 23, 26, 29, 30, 31, 32, 33, 34, 37, 38, 41, 44, 47, 50], cod_70)
abbrev cod_71 : List jm_I := [.inl (jm_aload 0), .inl (jm_gS 7 2 32 (fun i => i)), .inl (jm_aload 0), .inl (jm_gS 7 5 0 (fun _ => 0)), .inl (jm_gI 0 1), .inl jm_aald, .inl (jm_gS 6 0 1 (fun i => i)), .inl (jm_astore 2), .inl (jm_aload 0), .inl (jm_gS 7 5 0 (fun _ => 0)), .inl (jm_aload 2), .inl (jm_gS 1 11 19 (fun i => i)), .inl (jm_aload 0), .inl (jm_gS 7 5 0 (fun _ => 0)), .inl (jm_gI 0 2), .inl jm_iald, .inl (jm_iload 1), .inl (jm_bin (fun a b => a - b)), .inl (jm_aload 2), .inl (jm_gI 1 0), .inl (jm_aload 2), .inl (jm_gI 1 2), .inr (.inr (207, 4, 1)), .inr (.inl jm_vret)]
def met_71 : jm_M := (hdr_71.1, hdr_71.2, [0, 1, 4, 5, 8, 11, 12, 15, 16, 17, 20, 21, 24, 25, 28, 31, 32, 33, 34, 35, 38, 39, 42, 45], cod_71)
abbrev cod_72 : List jm_I := [.inl (jm_aload 0), .inl (jm_gS 7 2 32 (fun i => i)), .inl (jm_aload 0), .inl (jm_gS 7 5 0 (fun _ => 0)), .inl (jm_gI 0 1), .inl jm_aald, .inl (jm_astore 2), .inl (jm_aload 0), .inl (jm_gS 7 4 5 (fun _ => 0)), .inl (jm_gS 5 0 30 (fun i => i)), .inl (jm_aload 2), .inl (jm_gS 6 0 1 (fun i => i)), .inl (jm_aload 0), .inl (jm_gS 7 5 0 (fun _ => 0)), .inl (jm_gI 0 2), .inr (.inr (253, 3, 0)), .inl (jm_aload 0), .inl (jm_gS 7 4 5 (fun _ => 0)), .inl (jm_gS 5 1 31 (fun i => i)), .inl (jm_aload 0), .inl (jm_gS 7 2 32 (fun i => i)), .inl (jm_iload 1), .inl jm_aald, .inl (jm_gS 6 0 1 (fun i => i)), .inl (jm_ic 0), .inr (.inr (253, 3, 0)), .inl (jm_aload 0), .inl (jm_gS 7 5 0 (fun _ => 0)), .inl (jm_gI 0 2), .inl (jm_istore 3), .inl (jm_ic 0), .inl (jm_istore 4), .inl (jm_iload 4), .inl (jm_ic 592), .inl (jm_icgt 77), .inl (jm_aload 0), .inl (jm_gS 7 4 5 (fun _ => 0)), .inl (jm_iload 4), .inl (jm_pI 5 2), .inl (jm_aload 2), .inl (jm_iload 3), .inr (.inr (270, 2, 7)), .inl (jm_ifne 55), .inl (jm_aload 0), .inl (jm_gS 7 4 5 (fun _ => 0)), .inl (jm_aload 0), .inl (jm_gS 7 5 0 (fun _ => 0)), .inr (.inr (255, 2, 6)), .inl (jm_iflt 55), .inl (jm_aload 0), .inl (jm_gS 7 5 0 (fun _ => 0)), .inl (jm_gI 0 0), .inl (jm_iload 4), .inl (jm_bin (fun a b => a + b)), .inr (.inl jm_iret), .inl (jm_iload 3), .inl (jm_ic 1), .inl (jm_bin (fun a b => a + b)), .inl (jm_aload 2), .inl (jm_gS 6 0 1 (fun i => i)), .inl (jm_gI 1 2), .inl (jm_icge 66), .inl (jm_iload 3), .inl (jm_ic 1), .inl (jm_bin (fun a b => a + b)), .inl (jm_goto 67), .inl (jm_ic 0), .inl (jm_istore 3), .inl (jm_iload 4), .inl (jm_ic 1), .inl (jm_aload 2), .inl (jm_gS 6 0 1 (fun i => i)), .inl (jm_gI 1 0), .inl jm_max, .inl (jm_bin (fun a b => a + b)), .inl (jm_istore 4), .inl (jm_goto 32), .inl (jm_ic (-1)), .inr (.inl jm_iret)]
def met_72 : jm_M := (hdr_72.1, hdr_72.2, [0, 1, 4, 5, 8, 11, 12, 13, 14, 17, 20, 21, 24, 25, 28, 31, 34, 35, 38, 41, 42, 45, 46, 47, 50, 51, 54, 55, 58, 61, 62, 63, 65, 67, 70, 73, 74, 77, 79, 82, 83, 84, 87, 90, 91, 94, 95, 98, 101, 104, 105, 108, 111, 113, 114, 115, 116, 117, 118, 119, 122, 125, 128, 129, 130, 131, 134, 135, 136, 138, 139, 140, 143, 146, 149, 150, 152, 155, 156], cod_72)
abbrev cod_73 : List jm_I := [.inl (jm_aload 0), .inl (jm_iload 1), .inl (jm_iload 2), .inr (.inr (17, 3, 8)), .inl (jm_ifne 9), .inl (jm_aload 0), .inl (jm_ic 1), .inr (.inr (9, 2, 8)), .inr (.inl jm_iret), .inl (jm_iload 3), .inl (jm_ic 1), .inl (jm_iclt 15), .inl (jm_iload 3), .inl (jm_ic 60), .inl (jm_icle 19), .inl (jm_aload 0), .inl (jm_ic 2), .inr (.inr (9, 2, 8)), .inr (.inl jm_iret), .inl (jm_aload 0), .inl (jm_gM 7 1 3), .inl (jm_gS 3 1 28 (fun i => i)), .inl (jm_iload 1), .inl jm_aald, .inl (jm_gS 2 7 24 (fun i => i)), .inl (jm_iload 2), .inl jm_iald, .inl (jm_istore 4), .inl (jm_aload 0), .inl (jm_gM 7 1 3), .inl (jm_gS 3 1 28 (fun i => i)), .inl (jm_iload 1), .inl jm_aald, .inl (jm_gS 2 7 24 (fun i => i)), .inl (jm_iload 2), .inl (jm_iload 3), .inl jm_iast, .inl (jm_aload 0), .inl (jm_iload 1), .inr (.inr (76, 2, 8)), .inl (jm_aload 0), .inl (jm_iload 4), .inr (.inr (10, 2, 8)), .inr (.inl jm_iret)]
def met_73 : jm_M := (hdr_73.1, hdr_73.2, [0, 1, 2, 3, 6, 9, 10, 11, 14, 15, 16, 17, 20, 21, 23, 26, 27, 28, 31, 32, 33, 36, 39, 40, 41, 44, 45, 46, 48, 49, 52, 55, 56, 57, 60, 61, 62, 63, 64, 65, 68, 69, 71, 74], cod_73)
abbrev cod_74 : List jm_I := [.inl (jm_aload 0), .inl (jm_iload 1), .inr (.inr (16, 2, 8)), .inl (jm_ifne 8), .inl (jm_aload 0), .inl (jm_ic 1), .inr (.inr (9, 2, 8)), .inr (.inl jm_iret), .inl (jm_aload 0), .inl (jm_gM 7 1 3), .inl (jm_gS 3 1 28 (fun i => i)), .inl (jm_iload 1), .inl jm_aald, .inl (jm_astore 3), .inl (jm_iload 2), .inl (jm_ic 4), .inl (jm_iclt 24), .inl (jm_iload 2), .inl (jm_ic 60), .inl (jm_icgt 24), .inl (jm_iload 2), .inl (jm_aload 3), .inl (jm_gI 2 1), .inl (jm_icgt 28), .inl (jm_aload 0), .inl (jm_ic 2), .inr (.inr (9, 2, 8)), .inr (.inl jm_iret), .inl (jm_aload 3), .inl (jm_gI 2 0), .inl (jm_istore 4), .inl (jm_aload 3), .inl (jm_iload 2), .inl (jm_pI 2 0), .inl (jm_aload 0), .inl (jm_iload 1), .inr (.inr (76, 2, 8)), .inl (jm_aload 0), .inl (jm_iload 4), .inr (.inr (10, 2, 8)), .inr (.inl jm_iret)]
def met_74 : jm_M := (hdr_74.1, hdr_74.2, [0, 1, 2, 5, 8, 9, 10, 13, 14, 15, 18, 21, 22, 23, 24, 25, 26, 29, 30, 32, 35, 36, 37, 40, 43, 44, 45, 48, 49, 50, 53, 55, 56, 57, 60, 61, 62, 65, 66, 68, 71], cod_74)
abbrev cod_75 : List jm_I := [.inl (jm_aload 0), .inl (jm_iload 1), .inr (.inr (16, 2, 8)), .inl (jm_ifne 8), .inl (jm_aload 0), .inl (jm_ic 1), .inr (.inr (9, 2, 8)), .inr (.inl jm_iret), .inl (jm_aload 0), .inl (jm_gM 7 1 3), .inl (jm_gS 3 1 28 (fun i => i)), .inl (jm_iload 1), .inl jm_aald, .inl (jm_astore 3), .inl (jm_iload 2), .inl (jm_iflt 23), .inl (jm_iload 2), .inl (jm_ic 59), .inl (jm_icgt 23), .inl (jm_iload 2), .inl (jm_aload 3), .inl (jm_gI 2 0), .inl (jm_iclt 27), .inl (jm_aload 0), .inl (jm_ic 2), .inr (.inr (9, 2, 8)), .inr (.inl jm_iret), .inl (jm_aload 3), .inl (jm_gI 2 1), .inl (jm_istore 4), .inl (jm_aload 3), .inl (jm_iload 2), .inl (jm_pI 2 1), .inl (jm_aload 0), .inl (jm_iload 1), .inr (.inr (76, 2, 8)), .inl (jm_aload 0), .inl (jm_iload 4), .inr (.inr (10, 2, 8)), .inr (.inl jm_iret)]
def met_75 : jm_M := (hdr_75.1, hdr_75.2, [0, 1, 2, 5, 8, 9, 10, 13, 14, 15, 18, 21, 22, 23, 24, 25, 28, 29, 31, 34, 35, 36, 39, 42, 43, 44, 47, 48, 49, 52, 54, 55, 56, 59, 60, 61, 64, 65, 67, 70], cod_75)
abbrev cod_76 : List jm_I := [.inl (jm_aload 0), .inl (jm_gS 7 2 32 (fun i => i)), .inl (jm_iload 1), .inl jm_aald, .inl (jm_aload 0), .inl (jm_gM 7 1 3), .inl (jm_gS 3 1 28 (fun i => i)), .inl (jm_iload 1), .inl jm_aald, .inl (jm_aload 0), .inl (jm_gM 7 1 3), .inl (jm_gS 3 1 28 (fun i => i)), .inl (jm_iload 1), .inl jm_aald, .inl (jm_gI 2 0), .inr (.inr (258, 3, 7)), .inl (jm_aload 0), .inr (.inr (11, 1, 8)), .inr (.inl jm_vret)]
def met_76 : jm_M := (hdr_76.1, hdr_76.2, [0, 1, 4, 5, 6, 7, 10, 13, 14, 15, 16, 19, 22, 23, 24, 27, 30, 31, 34], cod_76)
abbrev cod_77 : List jm_I := [.inl (jm_aload 0), .inl (jm_iload 1), .inl (jm_iload 2), .inl (jm_iload 3), .inr (.inr (79, 4, 8)), .inl (jm_istore 4), .inl (jm_iload 4), .inl (jm_ifeq 13), .inl (jm_aload 0), .inl (jm_iload 4), .inr (.inr (9, 2, 8)), .inl jm_i2l, .inr (.inl jm_lret), .inl (jm_aload 0), .inl (jm_ic 0), .inl (jm_pI 7 8), .inl (jm_iload 2), .inl (jm_aload 0), .inl (jm_gM 7 1 3), .inl (jm_gS 3 1 28 (fun i => i)), .inl (jm_iload 1), .inl jm_aald, .inl (jm_gI 2 0), .inl (jm_bin (fun a b => a * b)), .inl jm_i2d, .inl (jm_iload 3), .inr (.inr (272, 1, 0)), .inl (jm_dbin FP.ddiv), .inl jm_d2l, .inr (.inl jm_lret)]
def met_77 : jm_M := (hdr_77.1, hdr_77.2, [0, 1, 2, 3, 4, 7, 9, 11, 14, 15, 17, 20, 21, 22, 23, 24, 27, 28, 29, 32, 35, 36, 37, 40, 41, 42, 43, 46, 47, 48], cod_77)
abbrev cod_78 : List jm_I := [.inl (jm_aload 0), .inl (jm_iload 1), .inl (jm_iload 2), .inl (jm_iload 3), .inr (.inr (79, 4, 8)), .inl (jm_istore 4), .inl (jm_iload 4), .inl (jm_ifeq 12), .inl (jm_aload 0), .inl (jm_iload 4), .inr (.inr (9, 2, 8)), .inr (.inl jm_iret), .inl (jm_iload 2), .inl (jm_aload 0), .inl (jm_gM 7 1 3), .inl (jm_gS 3 1 28 (fun i => i)), .inl (jm_iload 1), .inl jm_aald, .inl (jm_gI 2 0), .inl (jm_bin (fun a b => a * b)), .inl jm_i2d, .inl (jm_iload 3), .inr (.inr (272, 1, 0)), .inr (.inr (273, 2, 0)), .inl (jm_dstore 5), .inl (jm_dload 5), .inl jm_d2f, .inl (jm_fstore 7), .inl (jm_aload 0), .inl (jm_fload 7), .inl jm_f2d, .inl (jm_ic 23), .inl (jm_ic 127), .inr (.inr (274, 3, 0)), .inl jm_l2i, .inr (.inr (10, 2, 8)), .inr (.inl jm_iret)]
def met_78 : jm_M := (hdr_78.1, hdr_78.2, [0, 1, 2, 3, 4, 7, 9, 11, 14, 15, 17, 20, 21, 22, 23, 26, 29, 30, 31, 34, 35, 36, 37, 40, 43, 45, 47, 48, 50, 51, 53, 54, 56, 58, 61, 62, 65], cod_78)
abbrev cod_79 : List jm_I := [.inl (jm_aload 0), .inl (jm_iload 1), .inr (.inr (16, 2, 8)), .inl (jm_ifne 6), .inl (jm_ic 1), .inr (.inl jm_iret), .inl (jm_iload 2), .inl (jm_iflt 19), .inl (jm_iload 2), .inl (jm_ic 100000), .inl (jm_icgt 19), .inl (jm_iload 3), .inl (jm_ic 1), .inl (jm_iclt 19), .inl (jm_iload 3), .inl (jm_ic 100000), .inl (jm_icgt 19), .inl (jm_ic 1), .inl (jm_goto 20), .inl (jm_ic 0), .inl (jm_istore 4), .inl (jm_iload 4), .inl (jm_ifeq 25), .inl (jm_ic 0), .inl (jm_goto 26), .inl (jm_ic 2), .inr (.inl jm_iret)]
def met_79 : jm_M := (hdr_79.1, hdr_79.2, [0, 1, 2, 5, 8, 9, 10, 11, 14, 15, 18, 21, 22, 23, 26, 27, 30, 33, 34, 37, 38, 40, 42, 45, 46, 49, 50], cod_79)
abbrev cod_80 : List jm_I := [.inl (jm_aload 0), .inl (jm_gM 7 1 3), .inl (jm_gI 3 0), .inl (jm_ifeq 6), .inl (jm_iload 1), .inl (jm_ifge 10), .inl jm_stuck, .inl jm_dup, .inl jm_stuck, .inl jm_stuck, .inl (jm_aload 0), .inl (jm_gS 7 2 32 (fun i => i)), .inl (jm_aload 0), .inl (jm_gS 7 5 0 (fun _ => 0)), .inl (jm_gI 0 1), .inl jm_aald, .inl (jm_iload 1), .inr (.inr (271, 2, 7)), .inl (jm_istore 2), .inl (jm_iload 2), .inl (jm_ifge 25), .inl jm_stuck, .inl jm_dup, .inl jm_stuck, .inl jm_stuck, .inl (jm_iload 2), .inr (.inl jm_iret)]
def met_80 : jm_M := (hdr_80.1, hdr_80.2, [0, 1, 4, 7, 10, 11, 14, 17, 18, 21, 22, 23, 26, 27, 30, 33, 34, 35, 38, 39, 40, 43, 46, 47, 50, 51, 52], cod_80)
abbrev cod_81 : List jm_I := [.inl (jm_iload 1), .inl (jm_tsw 0 [2, 6, 10, 14, 18] 25), .inl (jm_aload 0), .inl (jm_gM 7 1 3), .inl (jm_gI 3 0), .inr (.inl jm_iret), .inl (jm_aload 0), .inl (jm_gM 7 1 3), .inr (.inr (238, 1, 4)), .inr (.inl jm_iret), .inl (jm_aload 0), .inl (jm_gM 7 1 3), .inr (.inr (239, 1, 4)), .inr (.inl jm_iret), .inl (jm_aload 0), .inl (jm_gS 7 0 4 (fun _ => 0)), .inl (jm_gI 4 1), .inr (.inl jm_iret), .inl (jm_aload 0), .inl (jm_gI 7 7), .inl (jm_ifeq 23), .inl (jm_ic 1), .inl (jm_goto 24), .inl (jm_ic 0), .inr (.inl jm_iret), .inl (jm_ic (-1)), .inr (.inl jm_iret)]
def met_81 : jm_M := (hdr_81.1, hdr_81.2, [0, 1, 36, 37, 40, 43, 44, 45, 48, 51, 52, 53, 56, 59, 60, 61, 64, 67, 68, 69, 72, 75, 76, 79, 80, 81, 82], cod_81)
abbrev cod_82 : List jm_I := [.inl (jm_aload 0), .inl (jm_gI 7 8), .inr (.inl jm_iret)]
def met_82 : jm_M := (hdr_82.1, hdr_82.2, [0, 1, 4], cod_82)
abbrev cod_83 : List jm_I := [.inl (jm_iload 0), .inl (jm_istore 2), .inl (jm_iload 1), .inl (jm_istore 3), .inl (jm_ic 0), .inl (jm_istore 4), .inl (jm_iload 4), .inl (jm_ic 64), .inl (jm_icge 21), .inl (jm_iload 3), .inl (jm_ifle 21), .inl (jm_iload 2), .inl (jm_iload 3), .inl jm_irem, .inl (jm_istore 5), .inl (jm_iload 3), .inl (jm_istore 2), .inl (jm_iload 5), .inl (jm_istore 3), .inl (jm_iinc 4 1), .inl (jm_goto 6), .inl (jm_iload 2), .inr (.inl jm_iret)]
def met_83 : jm_M := (hdr_83.1, hdr_83.2, [0, 1, 2, 3, 4, 5, 7, 9, 11, 14, 15, 18, 19, 20, 21, 23, 24, 25, 27, 28, 31, 34, 35], cod_83)
abbrev cod_84 : List jm_I := [.inl (jm_aload 0), .inl (jm_gI 8 0), .inr (.inl jm_iret)]
def met_84 : jm_M := (hdr_84.1, hdr_84.2, [0, 1, 4], cod_84)
abbrev cod_85 : List jm_I := [.inl (jm_iload 0), .inl (jm_iload 1), .inl (jm_iclt 8), .inl (jm_iload 0), .inl (jm_iload 2), .inl (jm_icgt 8), .inl (jm_ic 1), .inl (jm_goto 9), .inl (jm_ic 0), .inr (.inl (jm_nret .boolean))]
def met_85 : jm_M := (hdr_85.1, hdr_85.2, [0, 1, 2, 5, 6, 7, 10, 11, 14, 15], cod_85)
abbrev cod_86 : List jm_I := [.inl (jm_aload 0), .inl (jm_ic 0), .inl (jm_pI 8 0), .inl (jm_aload 0), .inl (jm_ic 0), .inl (jm_pI 8 1), .inl (jm_aload 0), .inl (jm_ic (-1)), .inl (jm_pI 8 3), .inr (.inl jm_vret)]
def met_86 : jm_M := (hdr_86.1, hdr_86.2, [0, 1, 2, 5, 6, 7, 10, 11, 12, 15], cod_86)
abbrev cod_87 : List jm_I := [.inl (jm_aload 0), .inl (jm_iload 1), .inl (jm_pI 8 1), .inl (jm_ic (-1)), .inr (.inl jm_iret)]
def met_87 : jm_M := (hdr_87.1, hdr_87.2, [0, 1, 2, 5, 6], cod_87)
abbrev cod_88 : List jm_I := [.inl (jm_aload 0), .inl (jm_ic 0), .inl (jm_pI 8 0), .inl (jm_aload 0), .inl (jm_gI 8 5), .inl (jm_ic 680), .inl (jm_icle 9), .inl (jm_ic (-1)), .inr (.inl jm_iret), .inl (jm_aload 0), .inl (jm_iload 1), .inr (.inr (89, 2, 9)), .inl (jm_aload 0), .inl (jm_iload 2), .inr (.inr (89, 2, 9)), .inl (jm_aload 0), .inl (jm_iload 3), .inr (.inr (89, 2, 9)), .inl (jm_aload 0), .inl (jm_iload 4), .inr (.inr (89, 2, 9)), .inl (jm_aload 0), .inl (jm_iload 5), .inr (.inr (89, 2, 9)), .inl (jm_aload 0), .inl (jm_gI 8 5), .inr (.inl jm_iret)]
def met_88 : jm_M := (hdr_88.1, hdr_88.2, [0, 1, 2, 5, 6, 9, 12, 15, 16, 17, 18, 19, 22, 23, 24, 27, 28, 29, 32, 33, 35, 38, 39, 41, 44, 45, 48], cod_88)
abbrev cod_89 : List jm_I := [.inl (jm_ic 0), .inl (jm_istore 2), .inl (jm_iload 2), .inl (jm_ic 4), .inl (jm_icge 23), .inl (jm_aload 0), .inl (jm_gS 8 4 33 (fun i => i)), .inl (jm_aload 0), .inl (jm_gI 8 5), .inl (jm_iload 2), .inl (jm_bin (fun a b => a + b)), .inl (jm_iload 1), .inl (jm_ic 24), .inl (jm_ic 8), .inl (jm_iload 2), .inl (jm_bin (fun a b => a * b)), .inl (jm_bin (fun a b => a - b)), .inl (jm_bin (fun a b => a >>> (b &&& 31))), .inl (jm_ic 255), .inl (jm_bin (fun a b => a &&& b)), .inl jm_iast, .inl (jm_iinc 2 1), .inl (jm_goto 2), .inl (jm_aload 0), .inl jm_dup, .inl (jm_gI 8 5), .inl (jm_ic 4), .inl (jm_bin (fun a b => a + b)), .inl (jm_pI 8 5), .inr (.inl jm_vret)]
def met_89 : jm_M := (hdr_89.1, hdr_89.2, [0, 1, 2, 3, 4, 7, 8, 11, 12, 15, 16, 17, 18, 20, 22, 23, 24, 25, 26, 29, 30, 31, 34, 37, 38, 39, 42, 43, 44, 47], cod_89)
abbrev cod_90 : List jm_I := [.inl (jm_iload 0), .inl (jm_istore 2), .inl (jm_iload 1), .inl (jm_istore 3), .inl (jm_iload 3), .inl (jm_ifeq 15), .inl (jm_iload 2), .inl (jm_iload 3), .inl jm_irem, .inl (jm_istore 4), .inl (jm_iload 3), .inl (jm_istore 2), .inl (jm_iload 4), .inl (jm_istore 3), .inl (jm_goto 4), .inl (jm_iload 2), .inr (.inl jm_iret)]
def met_90 : jm_M := (hdr_90.1, hdr_90.2, [0, 1, 2, 3, 4, 5, 8, 9, 10, 11, 13, 14, 15, 17, 18, 21, 22], cod_90)
abbrev cod_91 : List jm_I := [.inl (jm_iload 2), .inl (jm_istore 3), .inl (jm_ic 0), .inl (jm_istore 4), .inl (jm_iload 4), .inl (jm_aload 0), .inl (jm_gS 8 10 36 (fun i => i)), .inl (jm_iload 1), .inl jm_iald, .inl (jm_icge 34), .inl (jm_iload 3), .inl (jm_iload 3), .inl (jm_aload 0), .inl (jm_gS 8 13 39 (fun i => i)), .inl (jm_ic 6), .inl (jm_iload 1), .inl (jm_bin (fun a b => a * b)), .inl (jm_iload 4), .inl (jm_bin (fun a b => a + b)), .inl jm_iald, .inr (.inr (90, 2, 0)), .inl jm_idiv, .inl (jm_aload 0), .inl (jm_gS 8 13 39 (fun i => i)), .inl (jm_ic 6), .inl (jm_iload 1), .inl (jm_bin (fun a b => a * b)), .inl (jm_iload 4), .inl (jm_bin (fun a b => a + b)), .inl jm_iald, .inl (jm_bin (fun a b => a * b)), .inl (jm_istore 3), .inl (jm_iinc 4 1), .inl (jm_goto 4), .inl (jm_iload 3), .inr (.inl jm_iret)]
def met_91 : jm_M := (hdr_91.1, hdr_91.2, [0, 1, 2, 3, 5, 7, 8, 11, 12, 13, 16, 17, 18, 19, 22, 24, 25, 26, 28, 29, 30, 33, 34, 35, 38, 40, 41, 42, 44, 45, 46, 47, 48, 51, 54, 55], cod_91)
abbrev cod_92 : List jm_I := [.inl (jm_iload 1), .inl (jm_aload 0), .inl (jm_gI 8 16), .inl (jm_icge 9), .inl (jm_aload 0), .inl (jm_gS 8 4 33 (fun i => i)), .inl (jm_iload 1), .inl jm_iald, .inl (jm_goto 10), .inl (jm_ic (-1)), .inr (.inl jm_iret)]
def met_92 : jm_M := (hdr_92.1, hdr_92.2, [0, 1, 2, 5, 8, 9, 12, 13, 14, 17, 18], cod_92)
abbrev cod_93 : List jm_I := [.inl (jm_aload 0), .inl (jm_aload 0), .inl (jm_gI 8 18), .inr (.inr (92, 2, 9)), .inl (jm_ic 32), .inl (jm_icne 13), .inl (jm_aload 0), .inl jm_dup, .inl (jm_gI 8 18), .inl (jm_ic 1), .inl (jm_bin (fun a b => a + b)), .inl (jm_pI 8 18), .inl (jm_goto 0), .inl (jm_aload 0), .inl (jm_aload 0), .inl (jm_gI 8 18), .inl (jm_pI 8 17), .inl (jm_aload 0), .inl (jm_aload 0), .inl (jm_gI 8 18), .inr (.inr (92, 2, 9)), .inl (jm_istore 1), .inl (jm_iload 1), .inl (jm_ic (-1)), .inl (jm_icne 29), .inl (jm_aload 0), .inl (jm_ic 0), .inl (jm_pI 8 19), .inr (.inl jm_vret), .inl (jm_iload 1), .inl (jm_ic 97), .inl (jm_ic 122), .inr (.inr (85, 3, 0)), .inl (jm_ifeq 62), .inl (jm_aload 0), .inl (jm_aload 0), .inl (jm_gI 8 18), .inr (.inr (92, 2, 9)), .inl (jm_ic 97), .inl (jm_ic 122), .inr (.inr (85, 3, 0)), .inl (jm_ifeq 49), .inl (jm_aload 0), .inl jm_dup, .inl (jm_gI 8 18), .inl (jm_ic 1), .inl (jm_bin (fun a b => a + b)), .inl (jm_pI 8 18), .inl (jm_goto 34), .inl (jm_aload 0), .inl (jm_aload 0), .inl (jm_gI 8 18), .inl (jm_aload 0), .inl (jm_gI 8 17), .inl (jm_bin (fun a b => a - b)), .inl (jm_ic 7), .inl (jm_icle 59), .inl (jm_ic 1), .inl (jm_goto 60), .inl (jm_ic 2), .inl (jm_pI 8 19), .inr (.inl jm_vret), .inl (jm_iload 1), .inl (jm_ic 48), .inl (jm_ic 57), .inr (.inr (85, 3, 0)), .inl (jm_ifeq 121), .inl (jm_aload 0), .inl (jm_ic 0), .inl (jm_pI 8 20), .inl (jm_aload 0), .inl (jm_aload 0), .inl (jm_gI 8 18), .inr (.inr (92, 2, 9)), .inl (jm_ic 48), .inl (jm_ic 57), .inr (.inr (85, 3, 0)), .inl (jm_ifeq 108), .inl (jm_aload 0), .inl (jm_aload 0), .inl (jm_gI 8 18), .inl (jm_aload 0), .inl (jm_gI 8 17), .inl (jm_bin (fun a b => a - b)), .inl (jm_ic 3), .inl (jm_icge 98), .inl (jm_ic 10), .inl (jm_aload 0), .inl (jm_gI 8 20), .inl (jm_bin (fun a b => a * b)), .inl (jm_aload 0), .inl (jm_aload 0), .inl (jm_gI 8 18), .inr (.inr (92, 2, 9)), .inl (jm_bin (fun a b => a + b)), .inl (jm_ic 48), .inl (jm_bin (fun a b => a - b)), .inl (jm_goto 100), .inl (jm_aload 0), .inl (jm_gI 8 20), .inl (jm_pI 8 20), .inl (jm_aload 0), .inl jm_dup, .inl (jm_gI 8 18), .inl (jm_ic 1), .inl (jm_bin (fun a b => a + b)), .inl (jm_pI 8 18), .inl (jm_goto 70), .inl (jm_aload 0), .inl (jm_aload 0), .inl (jm_gI 8 18), .inl (jm_aload 0), .inl (jm_gI 8 17), .inl (jm_bin (fun a b => a - b)), .inl (jm_ic 3), .inl (jm_icle 118), .inl (jm_ic 1), .inl (jm_goto 119), .inl (jm_ic 3), .inl (jm_pI 8 19), .inr (.inl jm_vret), .inl (jm_aload 0), .inl jm_dup, .inl (jm_gI 8 18), .inl (jm_ic 1), .inl (jm_bin (fun a b => a + b)), .inl (jm_pI 8 18), .inl (jm_aload 0), .inl (jm_iload 1), .inl (jm_ic 59), .inl (jm_icne 133), .inl (jm_iload 1), .inl (jm_goto 134), .inl (jm_ic 1), .inl (jm_pI 8 19), .inr (.inl jm_vret)]
def met_93 : jm_M := (hdr_93.1, hdr_93.2, [0, 1, 2, 5, 8, 10, 13, 14, 15, 18, 19, 20, 23, 26, 27, 28, 31, 34, 35, 36, 39, 42, 43, 44, 45, 48, 49, 50, 53, 54, 55, 57, 59, 62, 65, 66, 67, 70, 73, 75, 77, 80, 83, 84, 85, 88, 89, 90, 93, 96, 97, 98, 101, 102, 105, 106, 108, 111, 112, 115, 116, 119, 120, 121, 123, 125, 128, 131, 132, 133, 136, 137, 138, 141, 144, 146, 148, 151, 154, 155, 156, 159, 160, 163, 164, 165, 168, 170, 171, 174, 175, 176, 177, 180, 183, 184, 186, 187, 190, 191, 194, 197, 198, 199, 202, 203, 204, 207, 210, 211, 212, 215, 216, 219, 220, 221, 224, 225, 228, 229, 232, 233, 234, 235, 238, 239, 240, 243, 244, 245, 247, 250, 251, 254, 255, 258], cod_93)
abbrev cod_94 : List jm_I := [.inl (jm_aload 0), .inl (jm_gI 8 19), .inl (jm_ic 2), .inl (jm_icne 12), .inl (jm_aload 0), .inl (jm_gI 8 18), .inl (jm_aload 0), .inl (jm_gI 8 17), .inl (jm_bin (fun a b => a - b)), .inl (jm_aload 1), .inl jm_slen, .inl (jm_iceq 14), .inl (jm_ic 0), .inr (.inl (jm_nret .boolean)), .inl (jm_ic 0), .inl (jm_istore 2), .inl (jm_iload 2), .inl (jm_aload 1), .inl jm_slen, .inl (jm_icge 35), .inl (jm_aload 0), .inl (jm_gS 8 4 33 (fun i => i)), .inl (jm_aload 0), .inl (jm_gI 8 17), .inl (jm_iload 2), .inl (jm_bin (fun a b => a + b)), .inl jm_iald, .inl (jm_aload 1), .inl (jm_iload 2), .inl jm_schr, .inl (jm_iceq 33), .inl (jm_ic 0), .inr (.inl (jm_nret .boolean)), .inl (jm_iinc 2 1), .inl (jm_goto 16), .inl (jm_ic 1), .inr (.inl (jm_nret .boolean))]
def met_94 : jm_M := (hdr_94.1, hdr_94.2, [0, 1, 4, 5, 8, 9, 12, 13, 16, 17, 18, 21, 24, 25, 26, 27, 28, 29, 30, 33, 36, 37, 40, 41, 44, 45, 46, 47, 48, 49, 52, 55, 56, 57, 60, 63, 64], cod_94)
abbrev cod_95 : List jm_I := [.inl (jm_aload 0), .inl (jm_iload 1), .inl (jm_pI 8 21), .inl (jm_aload 0), .inl (jm_aload 0), .inl (jm_gI 8 17), .inl (jm_pI 8 22), .inl (jm_ic (-1)), .inr (.inl jm_iret)]
def met_95 : jm_M := (hdr_95.1, hdr_95.2, [0, 1, 2, 5, 6, 7, 10, 13, 14], cod_95)
abbrev cod_96 : List jm_I := [.inl (jm_aload 0), .inl (jm_aload 1), .inr (.inr (94, 2, 9)), .inl (jm_ifne 8), .inl (jm_aload 0), .inl (jm_ic 1), .inr (.inr (95, 2, 9)), .inr (.inl jm_iret), .inl (jm_aload 0), .inr (.inr (93, 1, 9)), .inl (jm_aload 0), .inl (jm_gI 8 19), .inl (jm_ic 3), .inl (jm_iceq 18), .inl (jm_aload 0), .inl (jm_ic 1), .inr (.inr (95, 2, 9)), .inr (.inl jm_iret), .inl (jm_aload 0), .inl (jm_gI 8 20), .inl (jm_iload 2), .inl (jm_iload 3), .inr (.inr (85, 3, 0)), .inl (jm_ifeq 27), .inl (jm_aload 0), .inl (jm_gI 8 20), .inl (jm_goto 30), .inl (jm_aload 0), .inl (jm_ic 2), .inr (.inr (95, 2, 9)), .inr (.inl jm_iret)]
def met_96 : jm_M := (hdr_96.1, hdr_96.2, [0, 1, 2, 5, 8, 9, 10, 13, 14, 15, 18, 19, 22, 23, 26, 27, 28, 31, 32, 33, 36, 37, 38, 41, 44, 45, 48, 51, 52, 53, 56], cod_96)
abbrev cod_97 : List jm_I := [.inl (jm_aload 0), .inl (jm_gI 8 7), .inl (jm_ic 3), .inl (jm_icne 8), .inl (jm_aload 0), .inl (jm_ic 3), .inr (.inr (95, 2, 9)), .inr (.inl jm_iret), .inl (jm_ic 3), .inl (jm_aload 0), .inl (jm_gI 8 7), .inl (jm_bin (fun a b => a + b)), .inl (jm_istore 1), .inl (jm_aload 0), .inr (.inr (93, 1, 9)), .inl (jm_aload 0), .inl (jm_ldcs 2), .inl (jm_ic 4), .inl (jm_ic 60), .inr (.inr (96, 4, 9)), .inl (jm_istore 2), .inl (jm_iload 2), .inl (jm_ic (-1)), .inl (jm_icne 26), .inl (jm_ic (-1)), .inr (.inl jm_iret), .inl (jm_aload 0), .inr (.inr (93, 1, 9)), .inl (jm_aload 0), .inl (jm_ldcs 3), .inl (jm_ic 0), .inl (jm_iload 2), .inl (jm_ic 1), .inl (jm_bin (fun a b => a - b)), .inr (.inr (96, 4, 9)), .inl (jm_istore 3), .inl (jm_iload 3), .inl (jm_ic (-1)), .inl (jm_icne 41), .inl (jm_ic (-1)), .inr (.inl jm_iret), .inl (jm_aload 0), .inr (.inr (93, 1, 9)), .inl (jm_aload 0), .inl (jm_gS 8 8 34 (fun i => i)), .inl (jm_iload 1), .inl (jm_iload 2), .inl jm_iast, .inl (jm_aload 0), .inl (jm_gS 8 9 35 (fun i => i)), .inl (jm_iload 1), .inl (jm_iload 3), .inl jm_iast, .inl (jm_aload 0), .inl (jm_gS 8 10 36 (fun i => i)), .inl (jm_iload 1), .inl (jm_ic 0), .inl jm_iast, .inl (jm_aload 0), .inl (jm_gS 8 11 37 (fun i => i)), .inl (jm_iload 1), .inl (jm_iload 2), .inl jm_iast, .inl (jm_aload 0), .inl jm_dup, .inl (jm_gI 8 7), .inl (jm_ic 1), .inl (jm_bin (fun a b => a + b)), .inl (jm_pI 8 7), .inl (jm_ic 0), .inr (.inl jm_iret)]
def met_97 : jm_M := (hdr_97.1, hdr_97.2, [0, 1, 4, 5, 8, 9, 10, 13, 14, 15, 16, 19, 20, 21, 22, 25, 26, 28, 29, 31, 34, 35, 36, 37, 40, 41, 42, 43, 46, 47, 49, 50, 51, 52, 53, 56, 57, 58, 59, 62, 63, 64, 65, 68, 69, 72, 73, 74, 75, 76, 79, 80, 81, 82, 83, 86, 87, 88, 89, 90, 93, 94, 95, 96, 97, 98, 101, 102, 103, 106, 107], cod_97)
abbrev cod_98 : List jm_I := [.inl (jm_iload 3), .inl (jm_iload 2), .inl jm_idiv, .inl (jm_istore 4), .inl (jm_ic 0), .inl (jm_istore 5), .inl (jm_iload 5), .inl (jm_aload 0), .inl (jm_gS 8 10 36 (fun i => i)), .inl (jm_iload 1), .inl jm_iald, .inl (jm_icge 27), .inl (jm_iload 4), .inl (jm_iload 3), .inl (jm_aload 0), .inl (jm_gS 8 13 39 (fun i => i)), .inl (jm_ic 6), .inl (jm_iload 1), .inl (jm_bin (fun a b => a * b)), .inl (jm_iload 5), .inl (jm_bin (fun a b => a + b)), .inl jm_iald, .inl jm_idiv, .inl (jm_bin (fun a b => a + b)), .inl (jm_istore 4), .inl (jm_iinc 5 1), .inl (jm_goto 6), .inl (jm_iload 4), .inr (.inl jm_iret)]
def met_98 : jm_M := (hdr_98.1, hdr_98.2, [0, 1, 2, 3, 5, 6, 8, 10, 11, 14, 15, 16, 19, 21, 22, 23, 26, 28, 29, 30, 32, 33, 34, 35, 36, 38, 41, 44, 46], cod_98)
abbrev cod_99 : List jm_I := [.inl (jm_ic 3), .inl (jm_aload 0), .inl (jm_gI 8 7), .inl (jm_bin (fun a b => a + b)), .inl (jm_ic 1), .inl (jm_bin (fun a b => a - b)), .inl (jm_istore 1), .inl (jm_aload 0), .inl (jm_gI 8 7), .inl (jm_ifne 14), .inl (jm_aload 0), .inl (jm_ic 4), .inr (.inr (95, 2, 9)), .inr (.inl jm_iret), .inl (jm_aload 0), .inl (jm_gS 8 10 36 (fun i => i)), .inl (jm_iload 1), .inl jm_iald, .inl (jm_ic 6), .inl (jm_icne 24), .inl (jm_aload 0), .inl (jm_ic 3), .inr (.inr (95, 2, 9)), .inr (.inl jm_iret), .inl (jm_aload 0), .inr (.inr (93, 1, 9)), .inl (jm_aload 0), .inl (jm_ldcs 4), .inl (jm_ic 0), .inl (jm_ic 59), .inr (.inr (96, 4, 9)), .inl (jm_istore 2), .inl (jm_iload 2), .inl (jm_ic (-1)), .inl (jm_icne 37), .inl (jm_ic (-1)), .inr (.inl jm_iret), .inl (jm_aload 0), .inr (.inr (93, 1, 9)), .inl (jm_aload 0), .inl (jm_ldcs 5), .inl (jm_iload 2), .inl (jm_ic 1), .inl (jm_bin (fun a b => a + b)), .inl (jm_ic 60), .inr (.inr (96, 4, 9)), .inl (jm_istore 3), .inl (jm_iload 3), .inl (jm_ic (-1)), .inl (jm_icne 52), .inl (jm_ic (-1)), .inr (.inl jm_iret), .inl (jm_aload 0), .inl (jm_iload 1), .inl (jm_iload 3), .inr (.inr (91, 3, 9)), .inl (jm_istore 4), .inl (jm_iload 4), .inl (jm_ic 96), .inl (jm_icle 64), .inl (jm_aload 0), .inl (jm_ic 5), .inr (.inr (95, 2, 9)), .inr (.inl jm_iret), .inl (jm_aload 0), .inl (jm_iload 1), .inl (jm_iload 3), .inl (jm_iload 4), .inr (.inr (98, 4, 9)), .inl (jm_ic 24), .inl (jm_icle 75), .inl (jm_aload 0), .inl (jm_ic 6), .inr (.inr (95, 2, 9)), .inr (.inl jm_iret), .inl (jm_aload 0), .inr (.inr (93, 1, 9)), .inl (jm_aload 0), .inl (jm_ldcs 6), .inl (jm_ic 1), .inl (jm_ic 60), .inr (.inr (96, 4, 9)), .inl (jm_istore 5), .inl (jm_iload 5), .inl (jm_ic (-1)), .inl (jm_icne 88), .inl (jm_ic (-1)), .inr (.inl jm_iret), .inl (jm_aload 0), .inr (.inr (93, 1, 9)), .inl (jm_aload 0), .inl (jm_ldcs 7), .inl (jm_ic 1), .inl (jm_iload 3), .inl (jm_iload 2), .inl (jm_bin (fun a b => a - b)), .inr (.inr (96, 4, 9)), .inl (jm_istore 6), .inl (jm_iload 6), .inl (jm_ic (-1)), .inl (jm_icne 103), .inl (jm_ic (-1)), .inr (.inl jm_iret), .inl (jm_aload 0), .inr (.inr (93, 1, 9)), .inl (jm_ic 6), .inl (jm_iload 1), .inl (jm_bin (fun a b => a * b)), .inl (jm_aload 0), .inl (jm_gS 8 10 36 (fun i => i)), .inl (jm_iload 1), .inl jm_iald, .inl (jm_bin (fun a b => a + b)), .inl (jm_istore 7), .inl (jm_aload 0), .inl (jm_gS 8 12 38 (fun i => i)), .inl (jm_iload 7), .inl (jm_iload 2), .inl jm_iast, .inl (jm_aload 0), .inl (jm_gS 8 13 39 (fun i => i)), .inl (jm_iload 7), .inl (jm_iload 3), .inl jm_iast, .inl (jm_aload 0), .inl (jm_gS 8 14 40 (fun i => i)), .inl (jm_iload 7), .inl (jm_iload 5), .inl jm_iast, .inl (jm_aload 0), .inl (jm_gS 8 15 41 (fun i => i)), .inl (jm_iload 7), .inl (jm_iload 6), .inl jm_iast, .inl (jm_aload 0), .inl (jm_gS 8 10 36 (fun i => i)), .inl (jm_iload 1), .inl jm_dup2, .inl jm_iald, .inl (jm_ic 1), .inl (jm_bin (fun a b => a + b)), .inl jm_iast, .inl (jm_aload 0), .inl (jm_gS 8 11 37 (fun i => i)), .inl (jm_iload 1), .inl (jm_iload 4), .inl jm_iast, .inl (jm_ic 0), .inr (.inl jm_iret)]
def met_99 : jm_M := (hdr_99.1, hdr_99.2, [0, 1, 2, 5, 6, 7, 8, 9, 10, 13, 16, 17, 18, 21, 22, 23, 26, 27, 28, 30, 33, 34, 35, 38, 39, 40, 43, 44, 46, 47, 49, 52, 53, 54, 55, 58, 59, 60, 61, 64, 65, 67, 68, 69, 70, 72, 75, 76, 77, 78, 81, 82, 83, 84, 85, 86, 89, 91, 93, 95, 98, 99, 100, 103, 104, 105, 106, 107, 109, 112, 114, 117, 118, 120, 123, 124, 125, 128, 129, 131, 132, 134, 137, 139, 141, 142, 145, 146, 147, 148, 151, 152, 154, 155, 156, 157, 158, 161, 163, 165, 166, 169, 170, 171, 172, 175, 177, 178, 179, 180, 183, 184, 185, 186, 188, 189, 192, 194, 195, 196, 197, 200, 202, 203, 204, 205, 208, 210, 212, 213, 214, 217, 219, 221, 222, 223, 226, 227, 228, 229, 230, 231, 232, 233, 236, 237, 239, 240, 241], cod_99)
abbrev cod_100 : List jm_I := [.inl (jm_aload 0), .inl (jm_ldcs 0), .inr (.inr (94, 2, 9)), .inl (jm_ifeq 7), .inl (jm_aload 0), .inr (.inr (97, 1, 9)), .inr (.inl jm_iret), .inl (jm_aload 0), .inl (jm_ldcs 1), .inr (.inr (94, 2, 9)), .inl (jm_ifeq 14), .inl (jm_aload 0), .inr (.inr (99, 1, 9)), .inl (jm_goto 17), .inl (jm_aload 0), .inl (jm_ic 1), .inr (.inr (95, 2, 9)), .inr (.inl jm_iret)]
def met_100 : jm_M := (hdr_100.1, hdr_100.2, [0, 1, 3, 6, 9, 10, 13, 14, 15, 17, 20, 23, 24, 27, 30, 31, 32, 35], cod_100)
abbrev cod_101 : List jm_I := [.inl (jm_aload 0), .inl (jm_iload 1), .inl (jm_pI 8 16), .inl (jm_aload 0), .inl (jm_ic 0), .inl (jm_pI 8 18), .inl (jm_aload 0), .inl (jm_ic 0), .inl (jm_pI 8 7), .inl (jm_aload 0), .inr (.inr (93, 1, 9)), .inl (jm_aload 0), .inr (.inr (100, 1, 9)), .inl (jm_ic (-1)), .inl (jm_icne 17), .inl (jm_ic (-1)), .inr (.inl jm_iret), .inl (jm_aload 0), .inl (jm_gI 8 19), .inl (jm_ic 59), .inl (jm_icne 29), .inl (jm_aload 0), .inr (.inr (93, 1, 9)), .inl (jm_aload 0), .inr (.inr (100, 1, 9)), .inl (jm_ic (-1)), .inl (jm_icne 17), .inl (jm_ic (-1)), .inr (.inl jm_iret), .inl (jm_aload 0), .inl (jm_gI 8 19), .inl (jm_ifeq 36), .inl (jm_aload 0), .inl (jm_ic 1), .inr (.inr (95, 2, 9)), .inr (.inl jm_iret), .inl (jm_aload 0), .inl (jm_gI 8 7), .inl (jm_ifne 43), .inl (jm_aload 0), .inl (jm_ic 4), .inr (.inr (95, 2, 9)), .inl (jm_goto 45), .inl (jm_aload 0), .inl (jm_gI 8 7), .inr (.inl jm_iret)]
def met_101 : jm_M := (hdr_101.1, hdr_101.2, [0, 1, 2, 5, 6, 7, 10, 11, 12, 15, 16, 19, 20, 23, 24, 27, 28, 29, 30, 33, 35, 38, 39, 42, 43, 46, 47, 50, 51, 52, 53, 56, 59, 60, 61, 64, 65, 66, 69, 72, 73, 74, 77, 80, 81, 84], cod_101)
abbrev cod_102 : List jm_I := [.inl (jm_aload 0), .inr (.inr (86, 1, 9)), .inl (jm_iload 1), .inl (jm_ic 0), .inl (jm_aload 0), .inl (jm_gI 8 5), .inr (.inr (85, 3, 0)), .inl (jm_ifne 12), .inl (jm_aload 0), .inl (jm_ic 2), .inr (.inr (87, 2, 9)), .inr (.inl jm_iret), .inl (jm_aload 0), .inl (jm_ic 0), .inl (jm_pI 8 5), .inl (jm_aload 0), .inl (jm_ic 0), .inl (jm_pI 8 2), .inl (jm_aload 0), .inl (jm_iload 1), .inr (.inr (101, 2, 9)), .inl (jm_ic (-1)), .inl (jm_icne 35), .inl (jm_aload 0), .inl (jm_aload 0), .inl (jm_gI 8 21), .inl (jm_pI 8 2), .inl (jm_aload 0), .inl (jm_aload 0), .inl (jm_gI 8 22), .inl (jm_pI 8 3), .inl (jm_aload 0), .inl (jm_ic 4), .inr (.inr (87, 2, 9)), .inr (.inl jm_iret), .inl (jm_aload 0), .inl (jm_aload 0), .inl (jm_gI 8 7), .inl (jm_pI 8 6), .inl (jm_ic 0), .inl (jm_istore 2), .inl (jm_iload 2), .inl (jm_aload 0), .inl (jm_gI 8 6), .inl (jm_icge 143), .inl (jm_aload 0), .inl (jm_gS 8 8 34 (fun i => i)), .inl (jm_iload 2), .inl (jm_aload 0), .inl (jm_gS 8 8 34 (fun i => i)), .inl (jm_ic 3), .inl (jm_iload 2), .inl (jm_bin (fun a b => a + b)), .inl jm_iald, .inl jm_iast, .inl (jm_aload 0), .inl (jm_gS 8 9 35 (fun i => i)), .inl (jm_iload 2), .inl (jm_aload 0), .inl (jm_gS 8 9 35 (fun i => i)), .inl (jm_ic 3), .inl (jm_iload 2), .inl (jm_bin (fun a b => a + b)), .inl jm_iald, .inl jm_iast, .inl (jm_aload 0), .inl (jm_gS 8 10 36 (fun i => i)), .inl (jm_iload 2), .inl (jm_aload 0), .inl (jm_gS 8 10 36 (fun i => i)), .inl (jm_ic 3), .inl (jm_iload 2), .inl (jm_bin (fun a b => a + b)), .inl jm_iald, .inl jm_iast, .inl (jm_aload 0), .inl (jm_gS 8 11 37 (fun i => i)), .inl (jm_iload 2), .inl (jm_aload 0), .inl (jm_gS 8 11 37 (fun i => i)), .inl (jm_ic 3), .inl (jm_iload 2), .inl (jm_bin (fun a b => a + b)), .inl jm_iald, .inl jm_iast, .inl (jm_ic 0), .inl (jm_istore 3), .inl (jm_iload 3), .inl (jm_ic 6), .inl (jm_icge 138), .inl (jm_ic 6), .inl (jm_iload 2), .inl (jm_bin (fun a b => a * b)), .inl (jm_iload 3), .inl (jm_bin (fun a b => a + b)), .inl (jm_istore 4), .inl (jm_aload 0), .inl (jm_gS 8 12 38 (fun i => i)), .inl (jm_iload 4), .inl (jm_aload 0), .inl (jm_gS 8 12 38 (fun i => i)), .inl (jm_ic 18), .inl (jm_iload 4), .inl (jm_bin (fun a b => a + b)), .inl jm_iald, .inl jm_iast, .inl (jm_aload 0), .inl (jm_gS 8 13 39 (fun i => i)), .inl (jm_iload 4), .inl (jm_aload 0), .inl (jm_gS 8 13 39 (fun i => i)), .inl (jm_ic 18), .inl (jm_iload 4), .inl (jm_bin (fun a b => a + b)), .inl jm_iald, .inl jm_iast, .inl (jm_aload 0), .inl (jm_gS 8 14 40 (fun i => i)), .inl (jm_iload 4), .inl (jm_aload 0), .inl (jm_gS 8 14 40 (fun i => i)), .inl (jm_ic 18), .inl (jm_iload 4), .inl (jm_bin (fun a b => a + b)), .inl jm_iald, .inl jm_iast, .inl (jm_aload 0), .inl (jm_gS 8 15 41 (fun i => i)), .inl (jm_iload 4), .inl (jm_aload 0), .inl (jm_gS 8 15 41 (fun i => i)), .inl (jm_ic 18), .inl (jm_iload 4), .inl (jm_bin (fun a b => a + b)), .inl jm_iald, .inl jm_iast, .inl (jm_iinc 3 1), .inl (jm_goto 87), .inl (jm_aload 0), .inl (jm_iload 2), .inr (.inr (105, 2, 9)), .inl (jm_iinc 2 1), .inl (jm_goto 41), .inl (jm_aload 0), .inr (.inr (160, 1, 9)), .inl (jm_aload 0), .inl (jm_gI 8 6), .inr (.inl jm_iret)]
def met_102 : jm_M := (hdr_102.1, hdr_102.2, [0, 1, 4, 5, 6, 7, 10, 13, 16, 17, 18, 21, 22, 23, 24, 27, 28, 29, 32, 33, 34, 37, 38, 41, 42, 43, 46, 49, 50, 51, 54, 57, 58, 59, 62, 63, 64, 65, 68, 71, 72, 73, 74, 75, 78, 81, 82, 85, 86, 87, 90, 91, 92, 93, 94, 95, 96, 99, 100, 101, 104, 105, 106, 107, 108, 109, 110, 113, 114, 115, 118, 119, 120, 121, 122, 123, 124, 127, 128, 129, 132, 133, 134, 135, 136, 137, 138, 139, 140, 142, 145, 147, 148, 149, 150, 151, 153, 154, 157, 159, 160, 163, 165, 167, 168, 169, 170, 171, 174, 176, 177, 180, 182, 184, 185, 186, 187, 188, 191, 193, 194, 197, 199, 201, 202, 203, 204, 205, 208, 210, 211, 214, 216, 218, 219, 220, 221, 224, 227, 228, 229, 232, 235, 238, 239, 242, 243, 246], cod_102)
abbrev cod_103 : List jm_I := [.inl (jm_aload 0), .inl (jm_ic 0), .inl (jm_pI 8 0), .inl (jm_aload 0), .inl (jm_gI 8 2), .inr (.inl jm_iret)]
def met_103 : jm_M := (hdr_103.1, hdr_103.2, [0, 1, 2, 5, 6, 9], cod_103)
abbrev cod_104 : List jm_I := [.inl (jm_aload 0), .inl (jm_ic 0), .inl (jm_pI 8 0), .inl (jm_aload 0), .inl (jm_gI 8 1), .inl (jm_ic 4), .inl (jm_icne 10), .inl (jm_aload 0), .inl (jm_gI 8 3), .inl (jm_goto 11), .inl (jm_ic (-1)), .inr (.inl jm_iret)]
def met_104 : jm_M := (hdr_104.1, hdr_104.2, [0, 1, 2, 5, 6, 9, 10, 13, 14, 17, 20, 21], cod_104)
abbrev cod_105 : List jm_I := [.inl (jm_aload 0), .inl (jm_gS 8 23 42 (fun i => i)), .inl (jm_iload 1), .inl (jm_ic 0), .inl jm_iast, .inl (jm_ic 0), .inl (jm_istore 2), .inl (jm_iload 2), .inl (jm_aload 0), .inl (jm_gS 8 11 37 (fun i => i)), .inl (jm_iload 1), .inl jm_iald, .inl (jm_icge 81), .inl (jm_ic 0), .inl (jm_istore 3), .inl (jm_iload 3), .inl (jm_aload 0), .inl (jm_gS 8 10 36 (fun i => i)), .inl (jm_iload 1), .inl jm_iald, .inl (jm_icge 79), .inl (jm_ic 6), .inl (jm_iload 1), .inl (jm_bin (fun a b => a * b)), .inl (jm_iload 3), .inl (jm_bin (fun a b => a + b)), .inl (jm_istore 4), .inl (jm_iload 2), .inl (jm_aload 0), .inl (jm_gS 8 12 38 (fun i => i)), .inl (jm_iload 4), .inl jm_iald, .inl (jm_iclt 77), .inl (jm_iload 2), .inl (jm_aload 0), .inl (jm_gS 8 12 38 (fun i => i)), .inl (jm_iload 4), .inl jm_iald, .inl (jm_bin (fun a b => a - b)), .inl (jm_aload 0), .inl (jm_gS 8 13 39 (fun i => i)), .inl (jm_iload 4), .inl jm_iald, .inl jm_irem, .inl (jm_ifne 77), .inl (jm_aload 0), .inl (jm_gS 8 24 43 (fun i => i)), .inl (jm_ic 24), .inl (jm_iload 1), .inl (jm_bin (fun a b => a * b)), .inl (jm_aload 0), .inl (jm_gS 8 23 42 (fun i => i)), .inl (jm_iload 1), .inl jm_iald, .inl (jm_bin (fun a b => a + b)), .inl (jm_iload 3), .inl jm_iast, .inl (jm_aload 0), .inl (jm_gS 8 25 44 (fun i => i)), .inl (jm_ic 24), .inl (jm_iload 1), .inl (jm_bin (fun a b => a * b)), .inl (jm_aload 0), .inl (jm_gS 8 23 42 (fun i => i)), .inl (jm_iload 1), .inl jm_iald, .inl (jm_bin (fun a b => a + b)), .inl (jm_iload 2), .inl jm_iast, .inl (jm_aload 0), .inl (jm_gS 8 23 42 (fun i => i)), .inl (jm_iload 1), .inl jm_dup2, .inl jm_iald, .inl (jm_ic 1), .inl (jm_bin (fun a b => a + b)), .inl jm_iast, .inl (jm_iinc 3 1), .inl (jm_goto 15), .inl (jm_iinc 2 1), .inl (jm_goto 7), .inr (.inl jm_vret)]
def met_105 : jm_M := (hdr_105.1, hdr_105.2, [0, 1, 4, 5, 6, 7, 8, 9, 10, 11, 14, 15, 16, 19, 20, 21, 22, 23, 26, 27, 28, 31, 33, 34, 35, 36, 37, 39, 40, 41, 44, 46, 47, 50, 51, 52, 55, 57, 58, 59, 60, 63, 65, 66, 67, 70, 71, 74, 76, 77, 78, 79, 82, 83, 84, 85, 86, 87, 88, 91, 93, 94, 95, 96, 99, 100, 101, 102, 103, 104, 105, 108, 109, 110, 111, 112, 113, 114, 117, 120, 123, 126], cod_105)
abbrev cod_106 : List jm_I := [.inl (jm_ic 6), .inl (jm_iload 1), .inl (jm_bin (fun a b => a * b)), .inl (jm_aload 0), .inl (jm_gS 8 24 43 (fun i => i)), .inl (jm_ic 24), .inl (jm_iload 1), .inl (jm_bin (fun a b => a * b)), .inl (jm_iload 2), .inl (jm_bin (fun a b => a + b)), .inl jm_iald, .inl (jm_bin (fun a b => a + b)), .inr (.inl jm_iret)]
def met_106 : jm_M := (hdr_106.1, hdr_106.2, [0, 2, 3, 4, 5, 8, 10, 11, 12, 13, 14, 15, 16], cod_106)
abbrev cod_107 : List jm_I := [.inl (jm_aload 0), .inl (jm_gS 8 25 44 (fun i => i)), .inl (jm_ic 24), .inl (jm_iload 1), .inl (jm_bin (fun a b => a * b)), .inl (jm_iload 2), .inl (jm_bin (fun a b => a + b)), .inl jm_iald, .inl (jm_aload 0), .inl (jm_gS 8 15 41 (fun i => i)), .inl (jm_aload 0), .inl (jm_iload 1), .inl (jm_iload 2), .inr (.inr (106, 3, 9)), .inl jm_iald, .inl (jm_bin (fun a b => a + b)), .inr (.inl jm_iret)]
def met_107 : jm_M := (hdr_107.1, hdr_107.2, [0, 1, 4, 6, 7, 8, 9, 10, 11, 12, 15, 16, 17, 18, 21, 22, 23], cod_107)
abbrev cod_108 : List jm_I := [.inl (jm_ic 0), .inl (jm_istore 2), .inl (jm_ic 0), .inl (jm_istore 3), .inl (jm_iload 3), .inl (jm_aload 0), .inl (jm_gS 8 23 42 (fun i => i)), .inl (jm_iload 1), .inl jm_iald, .inl (jm_icge 22), .inl (jm_iload 2), .inl (jm_aload 0), .inl (jm_gS 8 14 40 (fun i => i)), .inl (jm_aload 0), .inl (jm_iload 1), .inl (jm_iload 3), .inr (.inr (106, 3, 9)), .inl jm_iald, .inl (jm_bin (fun a b => a + b)), .inl (jm_istore 2), .inl (jm_iinc 3 1), .inl (jm_goto 4), .inl (jm_iload 2), .inr (.inl jm_iret)]
def met_108 : jm_M := (hdr_108.1, hdr_108.2, [0, 1, 2, 3, 4, 5, 6, 9, 10, 11, 14, 15, 16, 19, 20, 21, 22, 25, 26, 27, 28, 31, 34, 35], cod_108)
abbrev cod_109 : List jm_I := [.inl (jm_aload 0), .inl (jm_gS 8 25 44 (fun i => i)), .inl (jm_ic 24), .inl (jm_iload 1), .inl (jm_bin (fun a b => a * b)), .inl (jm_iload 2), .inl (jm_bin (fun a b => a + b)), .inl jm_iald, .inl (jm_iload 3), .inl (jm_bin (fun a b => a + b)), .inl (jm_ic 1), .inl (jm_bin (fun a b => a - b)), .inl (jm_iload 3), .inl jm_idiv, .inr (.inl jm_iret)]
def met_109 : jm_M := (hdr_109.1, hdr_109.2, [0, 1, 4, 6, 7, 8, 9, 10, 11, 12, 13, 14, 15, 16, 17], cod_109)
abbrev cod_110 : List jm_I := [.inl (jm_aload 0), .inl (jm_iload 1), .inl (jm_iload 2), .inr (.inr (107, 3, 9)), .inl (jm_iload 3), .inl jm_idiv, .inl (jm_ic 1), .inl (jm_bin (fun a b => a - b)), .inr (.inl jm_iret)]
def met_110 : jm_M := (hdr_110.1, hdr_110.2, [0, 1, 2, 3, 6, 7, 8, 9, 10], cod_110)
abbrev cod_111 : List jm_I := [.inl (jm_aload 0), .inl (jm_iload 1), .inl (jm_iload 2), .inl (jm_iload 3), .inr (.inr (109, 4, 9)), .inl (jm_aload 0), .inl (jm_iload 1), .inl (jm_iload 2), .inl (jm_iload 3), .inr (.inr (110, 4, 9)), .inl (jm_icle 13), .inl (jm_ic 1), .inl (jm_goto 14), .inl (jm_ic 0), .inr (.inl (jm_nret .boolean))]
def met_111 : jm_M := (hdr_111.1, hdr_111.2, [0, 1, 2, 3, 4, 7, 8, 9, 10, 11, 14, 17, 18, 21, 22], cod_111)
abbrev cod_112 : List jm_I := [.inl (jm_ic 6), .inl (jm_iload 1), .inl (jm_bin (fun a b => a * b)), .inl (jm_iload 2), .inl (jm_bin (fun a b => a + b)), .inl (jm_istore 4), .inl (jm_iload 3), .inl (jm_aload 0), .inl (jm_gS 8 13 39 (fun i => i)), .inl (jm_iload 4), .inl jm_iald, .inr (.inr (90, 2, 0)), .inl (jm_istore 5), .inl (jm_aload 0), .inl (jm_gS 8 12 38 (fun i => i)), .inl (jm_iload 4), .inl jm_iald, .inl (jm_iload 5), .inl jm_irem, .inl (jm_istore 6), .inl (jm_ic 2), .inl (jm_iload 3), .inl (jm_bin (fun a b => a * b)), .inl (jm_iload 6), .inl (jm_ifne 27), .inl (jm_iload 5), .inl (jm_goto 28), .inl (jm_iload 6), .inl (jm_bin (fun a b => a - b)), .inr (.inl jm_iret)]
def met_112 : jm_M := (hdr_112.1, hdr_112.2, [0, 2, 3, 4, 5, 6, 8, 9, 10, 13, 15, 16, 19, 21, 22, 25, 27, 28, 30, 31, 33, 34, 35, 36, 38, 41, 43, 46, 48, 49], cod_112)
abbrev cod_113 : List jm_I := [.inl (jm_iload 1), .inl (jm_ic 0), .inl (jm_aload 0), .inl (jm_gI 8 6), .inl (jm_ic 1), .inl (jm_bin (fun a b => a - b)), .inr (.inr (85, 3, 0)), .inr (.inl (jm_nret .boolean))]
def met_113 : jm_M := (hdr_113.1, hdr_113.2, [0, 1, 2, 3, 6, 7, 8, 11], cod_113)
abbrev cod_114 : List jm_I := [.inl (jm_aload 0), .inr (.inr (86, 1, 9)), .inl (jm_aload 0), .inl (jm_iload 1), .inr (.inr (113, 2, 9)), .inl (jm_ifne 10), .inl (jm_aload 0), .inl (jm_ic 1), .inr (.inr (87, 2, 9)), .inr (.inl jm_iret), .inl (jm_iload 2), .inl (jm_tsw 0 [12, 17, 22, 27, 32, 37, 47] 51), .inl (jm_aload 0), .inl (jm_gS 8 8 34 (fun i => i)), .inl (jm_iload 1), .inl jm_iald, .inr (.inl jm_iret), .inl (jm_aload 0), .inl (jm_gS 8 9 35 (fun i => i)), .inl (jm_iload 1), .inl jm_iald, .inr (.inl jm_iret), .inl (jm_aload 0), .inl (jm_gS 8 10 36 (fun i => i)), .inl (jm_iload 1), .inl jm_iald, .inr (.inl jm_iret), .inl (jm_aload 0), .inl (jm_gS 8 11 37 (fun i => i)), .inl (jm_iload 1), .inl jm_iald, .inr (.inl jm_iret), .inl (jm_aload 0), .inl (jm_gS 8 23 42 (fun i => i)), .inl (jm_iload 1), .inl jm_iald, .inr (.inl jm_iret), .inl (jm_aload 0), .inl (jm_gS 8 11 37 (fun i => i)), .inl (jm_iload 1), .inl jm_iald, .inl (jm_aload 0), .inl (jm_gS 8 8 34 (fun i => i)), .inl (jm_iload 1), .inl jm_iald, .inl jm_idiv, .inr (.inl jm_iret), .inl (jm_aload 0), .inl (jm_iload 1), .inr (.inr (108, 2, 9)), .inr (.inl jm_iret), .inl (jm_aload 0), .inl (jm_ic 1), .inr (.inr (87, 2, 9)), .inr (.inl jm_iret)]
def met_114 : jm_M := (hdr_114.1, hdr_114.2, [0, 1, 4, 5, 6, 9, 12, 13, 14, 17, 18, 19, 60, 61, 64, 65, 66, 67, 68, 71, 72, 73, 74, 75, 78, 79, 80, 81, 82, 85, 86, 87, 88, 89, 92, 93, 94, 95, 96, 99, 100, 101, 102, 105, 106, 107, 108, 109, 110, 111, 114, 115, 116, 117, 120], cod_114)
abbrev cod_115 : List jm_I := [.inl (jm_aload 0), .inr (.inr (86, 1, 9)), .inl (jm_aload 0), .inl (jm_iload 1), .inr (.inr (113, 2, 9)), .inl (jm_ifeq 16), .inl (jm_iload 2), .inl (jm_ic 0), .inl (jm_aload 0), .inl (jm_gS 8 10 36 (fun i => i)), .inl (jm_iload 1), .inl jm_iald, .inl (jm_ic 1), .inl (jm_bin (fun a b => a - b)), .inr (.inr (85, 3, 0)), .inl (jm_ifne 20), .inl (jm_aload 0), .inl (jm_ic 1), .inr (.inr (87, 2, 9)), .inr (.inl jm_iret), .inl (jm_ic 6), .inl (jm_iload 1), .inl (jm_bin (fun a b => a * b)), .inl (jm_iload 2), .inl (jm_bin (fun a b => a + b)), .inl (jm_istore 4), .inl (jm_iload 3), .inl (jm_tsw 0 [28, 33, 38, 43, 48, 58] 67), .inl (jm_aload 0), .inl (jm_gS 8 12 38 (fun i => i)), .inl (jm_iload 4), .inl jm_iald, .inr (.inl jm_iret), .inl (jm_aload 0), .inl (jm_gS 8 13 39 (fun i => i)), .inl (jm_iload 4), .inl jm_iald, .inr (.inl jm_iret), .inl (jm_aload 0), .inl (jm_gS 8 14 40 (fun i => i)), .inl (jm_iload 4), .inl jm_iald, .inr (.inl jm_iret), .inl (jm_aload 0), .inl (jm_gS 8 15 41 (fun i => i)), .inl (jm_iload 4), .inl jm_iald, .inr (.inl jm_iret), .inl (jm_aload 0), .inl (jm_gS 8 11 37 (fun i => i)), .inl (jm_iload 1), .inl jm_iald, .inl (jm_aload 0), .inl (jm_gS 8 13 39 (fun i => i)), .inl (jm_iload 4), .inl jm_iald, .inl jm_idiv, .inr (.inl jm_iret), .inl (jm_aload 0), .inl (jm_iload 1), .inl (jm_iload 2), .inl (jm_aload 0), .inl (jm_gS 8 8 34 (fun i => i)), .inl (jm_iload 1), .inl jm_iald, .inr (.inr (112, 4, 9)), .inr (.inl jm_iret), .inl (jm_aload 0), .inl (jm_ic 1), .inr (.inr (87, 2, 9)), .inr (.inl jm_iret)]
def met_115 : jm_M := (hdr_115.1, hdr_115.2, [0, 1, 4, 5, 6, 9, 12, 13, 14, 15, 18, 19, 20, 21, 22, 25, 28, 29, 30, 33, 34, 36, 37, 38, 39, 40, 42, 43, 80, 81, 84, 86, 87, 88, 89, 92, 94, 95, 96, 97, 100, 102, 103, 104, 105, 108, 110, 111, 112, 113, 116, 117, 118, 119, 122, 124, 125, 126, 127, 128, 129, 130, 131, 134, 135, 136, 139, 140, 141, 142, 145], cod_115)
abbrev cod_116 : List jm_I := [.inl (jm_aload 0), .inr (.inr (86, 1, 9)), .inl (jm_aload 0), .inl (jm_iload 1), .inr (.inr (113, 2, 9)), .inl (jm_ifeq 16), .inl (jm_iload 2), .inl (jm_ic 0), .inl (jm_aload 0), .inl (jm_gS 8 23 42 (fun i => i)), .inl (jm_iload 1), .inl jm_iald, .inl (jm_ic 1), .inl (jm_bin (fun a b => a - b)), .inr (.inr (85, 3, 0)), .inl (jm_ifne 20), .inl (jm_aload 0), .inl (jm_ic 1), .inr (.inr (87, 2, 9)), .inr (.inl jm_iret), .inl (jm_aload 0), .inl (jm_iload 1), .inl (jm_iload 2), .inl (jm_aload 0), .inl (jm_gS 8 8 34 (fun i => i)), .inl (jm_iload 1), .inl jm_iald, .inr (.inr (111, 4, 9)), .inl (jm_ifne 31), .inl (jm_ic 1), .inl (jm_goto 32), .inl (jm_ic 0), .inl (jm_istore 4), .inl (jm_iload 3), .inl (jm_tsw 0 [35, 44, 53, 58, 66, 79] 92), .inl (jm_aload 0), .inl (jm_gS 8 24 43 (fun i => i)), .inl (jm_ic 24), .inl (jm_iload 1), .inl (jm_bin (fun a b => a * b)), .inl (jm_iload 2), .inl (jm_bin (fun a b => a + b)), .inl jm_iald, .inr (.inl jm_iret), .inl (jm_aload 0), .inl (jm_gS 8 25 44 (fun i => i)), .inl (jm_ic 24), .inl (jm_iload 1), .inl (jm_bin (fun a b => a * b)), .inl (jm_iload 2), .inl (jm_bin (fun a b => a + b)), .inl jm_iald, .inr (.inl jm_iret), .inl (jm_aload 0), .inl (jm_iload 1), .inl (jm_iload 2), .inr (.inr (107, 3, 9)), .inr (.inl jm_iret), .inl (jm_aload 0), .inl (jm_gS 8 14 40 (fun i => i)), .inl (jm_aload 0), .inl (jm_iload 1), .inl (jm_iload 2), .inr (.inr (106, 3, 9)), .inl jm_iald, .inr (.inl jm_iret), .inl (jm_iload 4), .inl (jm_ifeq 77), .inl (jm_aload 0), .inl (jm_iload 1), .inl (jm_iload 2), .inl (jm_aload 0), .inl (jm_gS 8 8 34 (fun i => i)), .inl (jm_iload 1), .inl jm_iald, .inr (.inr (109, 4, 9)), .inl (jm_goto 78), .inl (jm_ic (-2)), .inr (.inl jm_iret), .inl (jm_iload 4), .inl (jm_ifeq 90), .inl (jm_aload 0), .inl (jm_iload 1), .inl (jm_iload 2), .inl (jm_aload 0), .inl (jm_gS 8 8 34 (fun i => i)), .inl (jm_iload 1), .inl jm_iald, .inr (.inr (110, 4, 9)), .inl (jm_goto 91), .inl (jm_ic (-2)), .inr (.inl jm_iret), .inl (jm_aload 0), .inl (jm_ic 1), .inr (.inr (87, 2, 9)), .inr (.inl jm_iret)]
def met_116 : jm_M := (hdr_116.1, hdr_116.2, [0, 1, 4, 5, 6, 9, 12, 13, 14, 15, 18, 19, 20, 21, 22, 25, 28, 29, 30, 33, 34, 35, 36, 37, 38, 41, 42, 43, 46, 49, 50, 53, 54, 56, 57, 96, 97, 100, 102, 103, 104, 105, 106, 107, 108, 109, 112, 114, 115, 116, 117, 118, 119, 120, 121, 122, 123, 126, 127, 128, 131, 132, 133, 134, 137, 138, 139, 141, 144, 145, 146, 147, 148, 151, 152, 153, 156, 159, 161, 162, 164, 167, 168, 169, 170, 171, 174, 175, 176, 179, 182, 184, 185, 186, 187, 190], cod_116)
abbrev cod_117 : List jm_I := [.inl (jm_aload 0), .inr (.inr (86, 1, 9)), .inl (jm_aload 0), .inl (jm_iload 1), .inr (.inr (113, 2, 9)), .inl (jm_ifne 11), .inl (jm_aload 0), .inl (jm_ic 1), .inr (.inr (87, 2, 9)), .inl jm_i2l, .inr (.inl jm_lret), .inl (jm_dc FP.dconst0), .inl (jm_dstore 2), .inl (jm_ic 0), .inl (jm_istore 4), .inl (jm_iload 4), .inl (jm_aload 0), .inl (jm_gS 8 10 36 (fun i => i)), .inl (jm_iload 1), .inl jm_iald, .inl (jm_icge 45), .inl (jm_dload 2), .inl (jm_aload 0), .inl (jm_gS 8 14 40 (fun i => i)), .inl (jm_ic 6), .inl (jm_iload 1), .inl (jm_bin (fun a b => a * b)), .inl (jm_iload 4), .inl (jm_bin (fun a b => a + b)), .inl jm_iald, .inl jm_i2d, .inl (jm_aload 0), .inl (jm_gS 8 13 39 (fun i => i)), .inl (jm_ic 6), .inl (jm_iload 1), .inl (jm_bin (fun a b => a * b)), .inl (jm_iload 4), .inl (jm_bin (fun a b => a + b)), .inl jm_iald, .inl jm_i2d, .inl (jm_dbin FP.ddiv), .inl (jm_dbin FP.dadd), .inl (jm_dstore 2), .inl (jm_iinc 4 1), .inl (jm_goto 15), .inl (jm_dload 2), .inr (.inr (2, 1, 0)), .inr (.inl jm_lret)]
def met_117 : jm_M := (hdr_117.1, hdr_117.2, [0, 1, 4, 5, 6, 9, 12, 13, 14, 17, 18, 19, 20, 21, 22, 24, 26, 27, 30, 31, 32, 35, 36, 37, 40, 42, 43, 44, 46, 47, 48, 49, 50, 53, 55, 56, 57, 59, 60, 61, 62, 63, 64, 65, 68, 71, 72, 75], cod_117)
abbrev cod_118 : List jm_I := [.inl (jm_aload 0), .inl (jm_aload 0), .inl (jm_gS 8 11 37 (fun i => i)), .inl (jm_iload 1), .inl jm_iald, .inl (jm_iload 2), .inl jm_idiv, .inl (jm_pI 8 26), .inl (jm_aload 0), .inl (jm_iload 2), .inl (jm_aload 0), .inl (jm_gS 8 9 35 (fun i => i)), .inl (jm_iload 1), .inl jm_iald, .inl (jm_icle 22), .inl (jm_iload 2), .inl (jm_aload 0), .inl (jm_gS 8 9 35 (fun i => i)), .inl (jm_iload 1), .inl jm_iald, .inl (jm_bin (fun a b => a - b)), .inl (jm_goto 23), .inl (jm_ic 0), .inl (jm_pI 8 27), .inl (jm_aload 0), .inl (jm_aload 0), .inl (jm_gS 8 23 42 (fun i => i)), .inl (jm_iload 1), .inl jm_iald, .inl (jm_pI 8 28), .inl (jm_ic 0), .inl (jm_istore 3), .inl (jm_iload 3), .inl (jm_aload 0), .inl (jm_gI 8 28), .inl (jm_icge 67), .inl (jm_aload 0), .inl (jm_gS 8 29 45 (fun i => i)), .inl (jm_iload 3), .inl (jm_aload 0), .inl (jm_iload 1), .inl (jm_iload 3), .inl (jm_iload 2), .inr (.inr (109, 4, 9)), .inl jm_iast, .inl (jm_aload 0), .inl (jm_gS 8 30 46 (fun i => i)), .inl (jm_iload 3), .inl (jm_aload 0), .inl (jm_iload 1), .inl (jm_iload 3), .inl (jm_iload 2), .inr (.inr (110, 4, 9)), .inl jm_iast, .inl (jm_aload 0), .inl (jm_gS 8 31 47 (fun i => i)), .inl (jm_iload 3), .inl (jm_aload 0), .inl (jm_gS 8 14 40 (fun i => i)), .inl (jm_aload 0), .inl (jm_iload 1), .inl (jm_iload 3), .inr (.inr (106, 3, 9)), .inl jm_iald, .inl jm_iast, .inl (jm_iinc 3 1), .inl (jm_goto 32), .inr (.inl jm_vret)]
def met_118 : jm_M := (hdr_118.1, hdr_118.2, [0, 1, 2, 5, 6, 7, 8, 9, 12, 13, 14, 15, 18, 19, 20, 23, 24, 25, 28, 29, 30, 31, 34, 35, 38, 39, 40, 43, 44, 45, 48, 49, 50, 51, 52, 55, 58, 59, 62, 63, 64, 65, 66, 67, 70, 71, 72, 75, 76, 77, 78, 79, 80, 83, 84, 85, 88, 89, 90, 93, 94, 95, 96, 99, 100, 101, 104, 107], cod_118)
abbrev cod_119 : List jm_I := [.inl (jm_ic 0), .inl (jm_istore 3), .inl (jm_ic 0), .inl (jm_istore 4), .inl (jm_iload 4), .inl (jm_aload 0), .inl (jm_gI 8 28), .inl (jm_icge 40), .inl (jm_iload 3), .inl (jm_aload 0), .inl (jm_gS 8 29 45 (fun i => i)), .inl (jm_iload 4), .inl jm_iald, .inl (jm_aload 0), .inl (jm_gS 8 30 46 (fun i => i)), .inl (jm_iload 4), .inl jm_iald, .inl (jm_icgt 35), .inl (jm_aload 0), .inl (jm_gS 8 29 45 (fun i => i)), .inl (jm_iload 4), .inl jm_iald, .inl (jm_iload 1), .inl (jm_iclt 35), .inl (jm_aload 0), .inl (jm_gS 8 30 46 (fun i => i)), .inl (jm_iload 4), .inl jm_iald, .inl (jm_iload 2), .inl (jm_icgt 35), .inl (jm_aload 0), .inl (jm_gS 8 31 47 (fun i => i)), .inl (jm_iload 4), .inl jm_iald, .inl (jm_goto 36), .inl (jm_ic 0), .inl (jm_bin (fun a b => a + b)), .inl (jm_istore 3), .inl (jm_iinc 4 1), .inl (jm_goto 4), .inl (jm_iload 3), .inr (.inl jm_iret)]
def met_119 : jm_M := (hdr_119.1, hdr_119.2, [0, 1, 2, 3, 5, 7, 8, 11, 14, 15, 16, 19, 21, 22, 23, 26, 28, 29, 32, 33, 36, 38, 39, 40, 43, 44, 47, 49, 50, 51, 54, 55, 58, 60, 61, 64, 65, 66, 67, 70, 73, 74], cod_119)
abbrev cod_120 : List jm_I := [.inl (jm_ic 0), .inl (jm_istore 1), .inl (jm_ic 0), .inl (jm_istore 2), .inl (jm_iload 2), .inl (jm_aload 0), .inl (jm_gI 8 28), .inl (jm_icge 28), .inl (jm_iload 1), .inl (jm_aload 0), .inl (jm_gS 8 29 45 (fun i => i)), .inl (jm_iload 2), .inl jm_iald, .inl (jm_aload 0), .inl (jm_gS 8 30 46 (fun i => i)), .inl (jm_iload 2), .inl jm_iald, .inl (jm_icle 23), .inl (jm_aload 0), .inl (jm_gS 8 31 47 (fun i => i)), .inl (jm_iload 2), .inl jm_iald, .inl (jm_goto 24), .inl (jm_ic 0), .inl (jm_bin (fun a b => a + b)), .inl (jm_istore 1), .inl (jm_iinc 2 1), .inl (jm_goto 4), .inl (jm_iload 1), .inr (.inl jm_iret)]
def met_120 : jm_M := (hdr_120.1, hdr_120.2, [0, 1, 2, 3, 4, 5, 6, 9, 12, 13, 14, 17, 18, 19, 20, 23, 24, 25, 28, 29, 32, 33, 34, 37, 38, 39, 40, 43, 46, 47], cod_120)
abbrev cod_121 : List jm_I := [.inl (jm_aload 0), .inl (jm_gS 8 32 48 (fun i => i)), .inl (jm_ic 0), .inl (jm_ic 0), .inl jm_iast, .inl (jm_ic 0), .inl (jm_istore 2), .inl (jm_iload 2), .inl (jm_aload 0), .inl (jm_gI 8 26), .inl (jm_icge 63), .inl (jm_aload 0), .inl (jm_gS 8 32 48 (fun i => i)), .inl (jm_iload 2), .inl jm_iald, .inl (jm_istore 3), .inl (jm_iload 2), .inl (jm_istore 4), .inl (jm_iload 4), .inl (jm_iflt 54), .inl (jm_iload 2), .inl (jm_iload 1), .inl (jm_iceq 54), .inl (jm_iload 4), .inl (jm_iload 1), .inl (jm_iceq 54), .inl (jm_aload 0), .inl (jm_gS 8 32 48 (fun i => i)), .inl (jm_iload 4), .inl jm_iald, .inl (jm_aload 0), .inl (jm_iload 4), .inl (jm_iload 2), .inr (.inr (119, 3, 9)), .inl (jm_bin (fun a b => a + b)), .inl (jm_aload 0), .inl (jm_gI 8 27), .inl (jm_iload 2), .inl (jm_iload 4), .inl (jm_bin (fun a b => a - b)), .inl (jm_ic 1), .inl (jm_bin (fun a b => a + b)), .inl (jm_bin (fun a b => a * b)), .inl (jm_bin (fun a b => a - b)), .inl (jm_istore 5), .inl (jm_iload 5), .inl (jm_iload 3), .inl (jm_icle 50), .inl (jm_iload 5), .inl (jm_goto 51), .inl (jm_iload 3), .inl (jm_istore 3), .inl (jm_iinc 4 (-1)), .inl (jm_goto 18), .inl (jm_aload 0), .inl (jm_gS 8 32 48 (fun i => i)), .inl (jm_iload 2), .inl (jm_ic 1), .inl (jm_bin (fun a b => a + b)), .inl (jm_iload 3), .inl jm_iast, .inl (jm_iinc 2 1), .inl (jm_goto 7), .inl (jm_aload 0), .inl (jm_gS 8 32 48 (fun i => i)), .inl (jm_aload 0), .inl (jm_gI 8 26), .inl jm_iald, .inr (.inl jm_iret)]
def met_121 : jm_M := (hdr_121.1, hdr_121.2, [0, 1, 4, 5, 6, 7, 8, 9, 10, 11, 14, 17, 18, 21, 22, 23, 24, 25, 27, 29, 32, 33, 34, 37, 39, 40, 43, 44, 47, 49, 50, 51, 53, 54, 57, 58, 59, 62, 63, 65, 66, 67, 68, 69, 70, 72, 74, 75, 78, 80, 83, 84, 85, 88, 91, 92, 95, 96, 97, 98, 99, 100, 103, 106, 107, 110, 111, 114, 115], cod_121)
abbrev cod_122 : List jm_I := [.inl (jm_aload 0), .inr (.inr (120, 1, 9)), .inl (jm_aload 0), .inl (jm_ic (-1)), .inr (.inr (121, 2, 9)), .inl (jm_bin (fun a b => a + b)), .inr (.inl jm_iret)]
def met_122 : jm_M := (hdr_122.1, hdr_122.2, [0, 1, 4, 5, 6, 9, 10], cod_122)
abbrev cod_123 : List jm_I := [.inl (jm_iload 1), .inl (jm_ic 4), .inl (jm_ic 96), .inr (.inr (85, 3, 0)), .inr (.inl (jm_nret .boolean))]
def met_123 : jm_M := (hdr_123.1, hdr_123.2, [0, 1, 2, 4, 7], cod_123)
abbrev cod_124 : List jm_I := [.inl (jm_aload 0), .inl (jm_iload 1), .inr (.inr (113, 2, 9)), .inl (jm_ifne 6), .inl (jm_ic 1), .inl (jm_goto 13), .inl (jm_aload 0), .inl (jm_iload 2), .inr (.inr (123, 2, 9)), .inl (jm_ifeq 12), .inl (jm_ic 0), .inl (jm_goto 13), .inl (jm_ic 2), .inr (.inl jm_iret)]
def met_124 : jm_M := (hdr_124.1, hdr_124.2, [0, 1, 2, 5, 8, 9, 12, 13, 14, 17, 20, 21, 24, 25], cod_124)
abbrev cod_125 : List jm_I := [.inl (jm_aload 0), .inl (jm_iload 1), .inl (jm_iload 2), .inr (.inr (118, 3, 9)), .inl (jm_aload 0), .inl (jm_gS 8 11 37 (fun i => i)), .inl (jm_iload 1), .inl jm_iald, .inl (jm_iload 2), .inl jm_irem, .inl (jm_ifne 13), .inl (jm_ic 0), .inl (jm_goto 14), .inl (jm_ic 1), .inl (jm_istore 3), .inl (jm_ic 0), .inl (jm_istore 4), .inl (jm_iload 4), .inl (jm_aload 0), .inl (jm_gI 8 28), .inl (jm_icge 51), .inl (jm_iload 3), .inl (jm_aload 0), .inl (jm_gS 8 31 47 (fun i => i)), .inl (jm_iload 4), .inl jm_iald, .inl (jm_aload 0), .inl (jm_gI 8 27), .inl (jm_icle 31), .inl (jm_ic 2), .inl (jm_goto 32), .inl (jm_ic 0), .inl (jm_bin (fun a b => a ||| b)), .inl (jm_istore 3), .inl (jm_iload 3), .inl (jm_aload 0), .inl (jm_gS 8 29 45 (fun i => i)), .inl (jm_iload 4), .inl jm_iald, .inl (jm_aload 0), .inl (jm_gS 8 30 46 (fun i => i)), .inl (jm_iload 4), .inl jm_iald, .inl (jm_icle 46), .inl (jm_ic 8), .inl (jm_goto 47), .inl (jm_ic 0), .inl (jm_bin (fun a b => a ||| b)), .inl (jm_istore 3), .inl (jm_iinc 4 1), .inl (jm_goto 17), .inl (jm_ic 0), .inl (jm_istore 4), .inl (jm_iload 4), .inl (jm_aload 0), .inl (jm_gS 8 10 36 (fun i => i)), .inl (jm_iload 1), .inl jm_iald, .inl (jm_icge 81), .inl (jm_iload 3), .inl (jm_aload 0), .inl (jm_iload 1), .inl (jm_iload 4), .inl (jm_iload 2), .inr (.inr (112, 4, 9)), .inl (jm_aload 0), .inl (jm_gS 8 15 41 (fun i => i)), .inl (jm_ic 6), .inl (jm_iload 1), .inl (jm_bin (fun a b => a * b)), .inl (jm_iload 4), .inl (jm_bin (fun a b => a + b)), .inl jm_iald, .inl (jm_icle 76), .inl (jm_ic 4), .inl (jm_goto 77), .inl (jm_ic 0), .inl (jm_bin (fun a b => a ||| b)), .inl (jm_istore 3), .inl (jm_iinc 4 1), .inl (jm_goto 53), .inl (jm_iload 3), .inl (jm_aload 0), .inr (.inr (122, 1, 9)), .inl (jm_ifle 87), .inl (jm_ic 16), .inl (jm_goto 88), .inl (jm_ic 0), .inl (jm_bin (fun a b => a ||| b)), .inr (.inl jm_iret)]
def met_125 : jm_M := (hdr_125.1, hdr_125.2, [0, 1, 2, 3, 6, 7, 10, 11, 12, 13, 14, 17, 18, 21, 22, 23, 24, 26, 28, 29, 32, 35, 36, 37, 40, 42, 43, 44, 47, 50, 51, 54, 55, 56, 57, 58, 59, 62, 64, 65, 66, 69, 71, 72, 75, 77, 80, 81, 82, 83, 86, 89, 90, 92, 94, 95, 98, 99, 100, 103, 104, 105, 106, 108, 109, 112, 113, 116, 118, 119, 120, 122, 123, 124, 127, 128, 131, 132, 133, 134, 137, 140, 141, 142, 145, 148, 150, 153, 154, 155], cod_125)
abbrev cod_126 : List jm_I := [.inl (jm_aload 0), .inl (jm_iload 1), .inl (jm_iload 2), .inr (.inr (125, 3, 9)), .inl (jm_ic 25), .inl (jm_bin (fun a b => a &&& b)), .inl (jm_ifne 9), .inl (jm_ic 1), .inl (jm_goto 10), .inl (jm_ic 0), .inr (.inl (jm_nret .boolean))]
def met_126 : jm_M := (hdr_126.1, hdr_126.2, [0, 1, 2, 3, 6, 8, 9, 12, 13, 16, 17], cod_126)
abbrev cod_127 : List jm_I := [.inl (jm_aload 0), .inr (.inr (86, 1, 9)), .inl (jm_aload 0), .inl (jm_iload 1), .inl (jm_iload 2), .inr (.inr (124, 3, 9)), .inl (jm_istore 3), .inl (jm_iload 3), .inl (jm_ifeq 13), .inl (jm_aload 0), .inl (jm_iload 3), .inr (.inr (87, 2, 9)), .inl (jm_goto 17), .inl (jm_aload 0), .inl (jm_iload 1), .inl (jm_iload 2), .inr (.inr (125, 3, 9)), .inr (.inl jm_iret)]
def met_127 : jm_M := (hdr_127.1, hdr_127.2, [0, 1, 4, 5, 6, 7, 10, 11, 12, 15, 16, 17, 20, 23, 24, 25, 26, 29], cod_127)
abbrev cod_128 : List jm_I := [.inl (jm_aload 0), .inr (.inr (86, 1, 9)), .inl (jm_aload 0), .inl (jm_iload 1), .inl (jm_iload 2), .inr (.inr (124, 3, 9)), .inl (jm_istore 3), .inl (jm_iload 3), .inl (jm_ifeq 13), .inl (jm_aload 0), .inl (jm_iload 3), .inr (.inr (87, 2, 9)), .inr (.inl jm_iret), .inl (jm_aload 0), .inl (jm_iload 1), .inl (jm_iload 2), .inr (.inr (118, 3, 9)), .inl (jm_aload 0), .inl (jm_iload 1), .inr (.inr (108, 2, 9)), .inl (jm_aload 0), .inr (.inr (122, 1, 9)), .inl (jm_bin (fun a b => a - b)), .inr (.inl jm_iret)]
def met_128 : jm_M := (hdr_128.1, hdr_128.2, [0, 1, 4, 5, 6, 7, 10, 11, 12, 15, 16, 17, 20, 21, 22, 23, 24, 27, 28, 29, 32, 33, 36, 37], cod_128)
abbrev cod_129 : List jm_I := [.inl (jm_aload 0), .inr (.inr (86, 1, 9)), .inl (jm_aload 0), .inl (jm_iload 1), .inl (jm_iload 2), .inr (.inr (124, 3, 9)), .inl (jm_istore 3), .inl (jm_iload 3), .inl (jm_ifeq 13), .inl (jm_aload 0), .inl (jm_iload 3), .inr (.inr (87, 2, 9)), .inr (.inl jm_iret), .inl (jm_aload 0), .inl (jm_iload 1), .inl (jm_iload 2), .inr (.inr (118, 3, 9)), .inl (jm_aload 0), .inr (.inr (122, 1, 9)), .inr (.inl jm_iret)]
def met_129 : jm_M := (hdr_129.1, hdr_129.2, [0, 1, 4, 5, 6, 7, 10, 11, 12, 15, 16, 17, 20, 21, 22, 23, 24, 27, 28, 31], cod_129)
abbrev cod_130 : List jm_I := [.inl (jm_aload 0), .inl (jm_ic (-1)), .inr (.inr (121, 2, 9)), .inl (jm_istore 1), .inl (jm_ic 0), .inl (jm_istore 2), .inl (jm_ic 0), .inl (jm_istore 3), .inl (jm_iload 3), .inl (jm_aload 0), .inl (jm_gI 8 26), .inl (jm_icge 27), .inl (jm_iload 2), .inl (jm_aload 0), .inl (jm_iload 3), .inr (.inr (121, 2, 9)), .inl (jm_iload 1), .inl (jm_icge 22), .inl (jm_ic 1), .inl (jm_iload 3), .inl (jm_bin (fun a b => a <<< (b &&& 31))), .inl (jm_goto 23), .inl (jm_ic 0), .inl (jm_bin (fun a b => a ||| b)), .inl (jm_istore 2), .inl (jm_iinc 3 1), .inl (jm_goto 8), .inl (jm_iload 2), .inr (.inl jm_iret)]
def met_130 : jm_M := (hdr_130.1, hdr_130.2, [0, 1, 2, 5, 6, 7, 8, 9, 10, 11, 12, 15, 18, 19, 20, 21, 24, 25, 28, 29, 30, 31, 34, 35, 36, 37, 40, 43, 44], cod_130)
abbrev cod_131 : List jm_I := [.inl (jm_aload 0), .inr (.inr (86, 1, 9)), .inl (jm_aload 0), .inl (jm_iload 1), .inl (jm_iload 2), .inr (.inr (124, 3, 9)), .inl (jm_istore 3), .inl (jm_iload 3), .inl (jm_ifeq 13), .inl (jm_aload 0), .inl (jm_iload 3), .inr (.inr (87, 2, 9)), .inr (.inl jm_iret), .inl (jm_aload 0), .inl (jm_iload 1), .inl (jm_iload 2), .inr (.inr (118, 3, 9)), .inl (jm_aload 0), .inr (.inr (130, 1, 9)), .inr (.inl jm_iret)]
def met_131 : jm_M := (hdr_131.1, hdr_131.2, [0, 1, 4, 5, 6, 7, 10, 11, 12, 15, 16, 17, 20, 21, 22, 23, 24, 27, 28, 31], cod_131)
abbrev cod_132 : List jm_I := [.inl (jm_aload 0), .inr (.inr (86, 1, 9)), .inl (jm_aload 0), .inl (jm_iload 1), .inl (jm_iload 2), .inr (.inr (124, 3, 9)), .inl (jm_istore 3), .inl (jm_iload 3), .inl (jm_ifeq 13), .inl (jm_aload 0), .inl (jm_iload 3), .inr (.inr (87, 2, 9)), .inr (.inl jm_iret), .inl (jm_aload 0), .inl (jm_iload 1), .inl (jm_iload 2), .inr (.inr (118, 3, 9)), .inl (jm_aload 0), .inr (.inr (130, 1, 9)), .inl (jm_istore 4), .inl (jm_ic 0), .inl (jm_istore 5), .inl (jm_ic 0), .inl (jm_istore 6), .inl (jm_iload 6), .inl (jm_aload 0), .inl (jm_gI 8 28), .inl (jm_icge 68), .inl (jm_ic 1), .inl (jm_istore 7), .inl (jm_aload 0), .inl (jm_gS 8 29 45 (fun i => i)), .inl (jm_iload 6), .inl jm_iald, .inl (jm_istore 8), .inl (jm_iload 8), .inl (jm_aload 0), .inl (jm_gS 8 30 46 (fun i => i)), .inl (jm_iload 6), .inl jm_iald, .inl (jm_icgt 56), .inl (jm_iload 7), .inl (jm_ifeq 52), .inl (jm_iload 4), .inl (jm_iload 8), .inl (jm_bin (fun a b => a >>> (b &&& 31))), .inl (jm_ic 1), .inl (jm_bin (fun a b => a &&& b)), .inl (jm_ic 1), .inl (jm_icne 52), .inl (jm_ic 1), .inl (jm_goto 53), .inl (jm_ic 0), .inl (jm_istore 7), .inl (jm_iinc 8 1), .inl (jm_goto 35), .inl (jm_iload 5), .inl (jm_iload 7), .inl (jm_ifeq 63), .inl (jm_ic 1), .inl (jm_iload 6), .inl (jm_bin (fun a b => a <<< (b &&& 31))), .inl (jm_goto 64), .inl (jm_ic 0), .inl (jm_bin (fun a b => a ||| b)), .inl (jm_istore 5), .inl (jm_iinc 6 1), .inl (jm_goto 24), .inl (jm_iload 5), .inr (.inl jm_iret)]
def met_132 : jm_M := (hdr_132.1, hdr_132.2, [0, 1, 4, 5, 6, 7, 10, 11, 12, 15, 16, 17, 20, 21, 22, 23, 24, 27, 28, 31, 33, 34, 36, 37, 39, 41, 42, 45, 48, 49, 51, 52, 55, 57, 58, 60, 62, 63, 66, 68, 69, 72, 74, 77, 79, 81, 82, 83, 84, 85, 88, 89, 92, 93, 95, 98, 101, 103, 105, 108, 109, 111, 112, 115, 116, 117, 119, 122, 125, 127], cod_132)
abbrev cod_133 : List jm_I := [.inl (jm_aload 0), .inr (.inr (86, 1, 9)), .inl (jm_aload 0), .inl (jm_iload 1), .inr (.inr (113, 2, 9)), .inl (jm_ifne 10), .inl (jm_aload 0), .inl (jm_ic 1), .inr (.inr (87, 2, 9)), .inr (.inl jm_iret), .inl (jm_ic 0), .inl (jm_istore 2), .inl (jm_ic 4), .inl (jm_istore 3), .inl (jm_iload 3), .inl (jm_ic 96), .inl (jm_icgt 30), .inl (jm_iload 2), .inl (jm_aload 0), .inl (jm_iload 1), .inl (jm_iload 3), .inr (.inr (126, 3, 9)), .inl (jm_ifeq 25), .inl (jm_ic 1), .inl (jm_goto 26), .inl (jm_ic 0), .inl (jm_bin (fun a b => a + b)), .inl (jm_istore 2), .inl (jm_iinc 3 1), .inl (jm_goto 14), .inl (jm_iload 2), .inr (.inl jm_iret)]
def met_133 : jm_M := (hdr_133.1, hdr_133.2, [0, 1, 4, 5, 6, 9, 12, 13, 14, 17, 18, 19, 20, 21, 22, 23, 25, 28, 29, 30, 31, 32, 35, 38, 39, 42, 43, 44, 45, 48, 51, 52], cod_133)
abbrev cod_134 : List jm_I := [.inl (jm_aload 0), .inr (.inr (86, 1, 9)), .inl (jm_aload 0), .inl (jm_iload 1), .inr (.inr (113, 2, 9)), .inl (jm_ifne 10), .inl (jm_aload 0), .inl (jm_ic 1), .inr (.inr (87, 2, 9)), .inr (.inl jm_iret), .inl (jm_ic 0), .inl (jm_istore 3), .inl (jm_ic 4), .inl (jm_istore 4), .inl (jm_iload 4), .inl (jm_ic 96), .inl (jm_icgt 30), .inl (jm_aload 0), .inl (jm_iload 1), .inl (jm_iload 4), .inr (.inr (126, 3, 9)), .inl (jm_ifeq 28), .inl (jm_iload 3), .inl (jm_iload 2), .inl (jm_icne 27), .inl (jm_iload 4), .inr (.inl jm_iret), .inl (jm_iinc 3 1), .inl (jm_iinc 4 1), .inl (jm_goto 14), .inl (jm_aload 0), .inl (jm_ic 1), .inr (.inr (87, 2, 9)), .inr (.inl jm_iret)]
def met_134 : jm_M := (hdr_134.1, hdr_134.2, [0, 1, 4, 5, 6, 9, 12, 13, 14, 17, 18, 19, 20, 21, 23, 25, 27, 30, 31, 32, 34, 37, 40, 41, 42, 45, 47, 48, 51, 54, 57, 58, 59, 62], cod_134)
abbrev cod_135 : List jm_I := [.inl (jm_iload 3), .inl (jm_ifle 10), .inl (jm_iload 2), .inl (jm_aload 0), .inl (jm_gS 8 30 46 (fun i => i)), .inl (jm_iload 1), .inl jm_iald, .inl (jm_icne 10), .inl (jm_ic 0), .inr (.inl (jm_nret .boolean)), .inl (jm_ic 0), .inl (jm_istore 4), .inl (jm_iload 4), .inl (jm_ic 576), .inl (jm_icge 22), .inl (jm_aload 0), .inl (jm_gS 8 36 51 (fun i => i)), .inl (jm_iload 4), .inl (jm_ic 0), .inl jm_iast, .inl (jm_iinc 4 1), .inl (jm_goto 12), .inl (jm_iload 3), .inl (jm_ifle 41), .inl (jm_aload 0), .inl (jm_gS 8 36 51 (fun i => i)), .inl (jm_ic 24), .inl (jm_iload 2), .inl (jm_ic 1), .inl (jm_bin (fun a b => a + b)), .inl (jm_bin (fun a b => a * b)), .inl (jm_aload 0), .inl (jm_gS 8 30 46 (fun i => i)), .inl (jm_iload 1), .inl jm_iald, .inl (jm_bin (fun a b => a + b)), .inl jm_dup2, .inl jm_iald, .inl (jm_iload 3), .inl (jm_bin (fun a b => a + b)), .inl jm_iast, .inl (jm_iload 1), .inl (jm_ic 1), .inl (jm_bin (fun a b => a + b)), .inl (jm_istore 4), .inl (jm_iload 4), .inl (jm_aload 0), .inl (jm_gI 8 28), .inl (jm_icge 72), .inl (jm_aload 0), .inl (jm_gS 8 36 51 (fun i => i)), .inl (jm_ic 24), .inl (jm_aload 0), .inl (jm_gS 8 29 45 (fun i => i)), .inl (jm_iload 4), .inl jm_iald, .inl (jm_bin (fun a b => a * b)), .inl (jm_aload 0), .inl (jm_gS 8 30 46 (fun i => i)), .inl (jm_iload 4), .inl jm_iald, .inl (jm_bin (fun a b => a + b)), .inl jm_dup2, .inl jm_iald, .inl (jm_aload 0), .inl (jm_gS 8 31 47 (fun i => i)), .inl (jm_iload 4), .inl jm_iald, .inl (jm_bin (fun a b => a + b)), .inl jm_iast, .inl (jm_iinc 4 1), .inl (jm_goto 45), .inl (jm_ic 0), .inl (jm_istore 4), .inl (jm_iload 4), .inl (jm_aload 0), .inl (jm_gI 8 26), .inl (jm_icge 122), .inl (jm_ic 0), .inl (jm_istore 5), .inl (jm_ic 0), .inl (jm_istore 6), .inl (jm_iload 4), .inl (jm_istore 7), .inl (jm_iload 7), .inl (jm_aload 0), .inl (jm_gI 8 26), .inl (jm_icge 120), .inl (jm_iload 5), .inl (jm_aload 0), .inl (jm_gS 8 34 50 (fun i => i)), .inl (jm_iload 7), .inl jm_iald, .inl (jm_bin (fun a b => a + b)), .inl (jm_istore 5), .inl (jm_iload 4), .inl (jm_istore 8), .inl (jm_iload 8), .inl (jm_iload 7), .inl (jm_icgt 113), .inl (jm_iload 6), .inl (jm_aload 0), .inl (jm_gS 8 36 51 (fun i => i)), .inl (jm_ic 24), .inl (jm_iload 8), .inl (jm_bin (fun a b => a * b)), .inl (jm_iload 7), .inl (jm_bin (fun a b => a + b)), .inl jm_iald, .inl (jm_bin (fun a b => a + b)), .inl (jm_istore 6), .inl (jm_iinc 8 1), .inl (jm_goto 97), .inl (jm_iload 6), .inl (jm_iload 5), .inl (jm_icle 118), .inl (jm_ic 0), .inr (.inl (jm_nret .boolean)), .inl (jm_iinc 7 1), .inl (jm_goto 84), .inl (jm_iinc 4 1), .inl (jm_goto 74), .inl (jm_ic 1), .inr (.inl (jm_nret .boolean))]
def met_135 : jm_M := (hdr_135.1, hdr_135.2, [0, 1, 4, 5, 6, 9, 10, 11, 14, 15, 16, 17, 19, 21, 24, 27, 28, 31, 33, 34, 35, 38, 41, 42, 45, 46, 49, 51, 52, 53, 54, 55, 56, 59, 60, 61, 62, 63, 64, 65, 66, 67, 68, 69, 70, 72, 74, 75, 78, 81, 82, 85, 87, 88, 91, 93, 94, 95, 96, 99, 101, 102, 103, 104, 105, 106, 109, 111, 112, 113, 114, 117, 120, 121, 123, 125, 126, 129, 132, 133, 135, 136, 138, 140, 142, 144, 145, 148, 151, 153, 154, 157, 159, 160, 161, 163, 165, 167, 169, 171, 174, 176, 177, 180, 182, 184, 185, 187, 188, 189, 190, 192, 195, 198, 200, 202, 205, 206, 207, 210, 213, 216, 219, 220], cod_135)
abbrev cod_136 : List jm_I := [.inl (jm_ic 0), .inl (jm_istore 1), .inl (jm_iload 1), .inl (jm_ic 576), .inl (jm_icge 12), .inl (jm_aload 0), .inl (jm_gS 8 33 49 (fun i => i)), .inl (jm_iload 1), .inl (jm_ic 0), .inl jm_iast, .inl (jm_iinc 1 1), .inl (jm_goto 2), .inl (jm_ic 0), .inl (jm_istore 1), .inl (jm_iload 1), .inl (jm_aload 0), .inl (jm_gI 8 26), .inl (jm_icge 26), .inl (jm_aload 0), .inl (jm_gS 8 34 50 (fun i => i)), .inl (jm_iload 1), .inl (jm_aload 0), .inl (jm_gI 8 27), .inl jm_iast, .inl (jm_iinc 1 1), .inl (jm_goto 14), .inl (jm_ic 0), .inl (jm_istore 1), .inl (jm_iload 1), .inl (jm_aload 0), .inl (jm_gI 8 28), .inl (jm_icge 101), .inl (jm_aload 0), .inl (jm_gS 8 31 47 (fun i => i)), .inl (jm_iload 1), .inl jm_iald, .inl (jm_istore 2), .inl (jm_aload 0), .inl (jm_gS 8 29 45 (fun i => i)), .inl (jm_iload 1), .inl jm_iald, .inl (jm_istore 3), .inl (jm_iload 3), .inl (jm_aload 0), .inl (jm_gS 8 30 46 (fun i => i)), .inl (jm_iload 1), .inl jm_iald, .inl (jm_icgt 99), .inl (jm_aload 0), .inl (jm_gS 8 34 50 (fun i => i)), .inl (jm_iload 3), .inl jm_iald, .inl (jm_istore 4), .inl (jm_iload 2), .inl (jm_iload 4), .inl (jm_icge 58), .inl (jm_iload 2), .inl (jm_goto 59), .inl (jm_iload 4), .inl (jm_istore 5), .inl (jm_aload 0), .inl (jm_gS 8 34 50 (fun i => i)), .inl (jm_iload 3), .inl (jm_iload 4), .inl (jm_iload 5), .inl (jm_bin (fun a b => a - b)), .inl jm_iast, .inl (jm_aload 0), .inl (jm_iload 1), .inl (jm_iload 3), .inl (jm_iload 2), .inl (jm_iload 5), .inl (jm_bin (fun a b => a - b)), .inr (.inr (135, 4, 9)), .inl (jm_ifne 84), .inl (jm_iinc 5 (-1)), .inl (jm_aload 0), .inl (jm_gS 8 34 50 (fun i => i)), .inl (jm_iload 3), .inl (jm_iload 4), .inl (jm_iload 5), .inl (jm_bin (fun a b => a - b)), .inl jm_iast, .inl (jm_goto 67), .inl (jm_aload 0), .inl (jm_gS 8 33 49 (fun i => i)), .inl (jm_ic 24), .inl (jm_iload 1), .inl (jm_bin (fun a b => a * b)), .inl (jm_iload 3), .inl (jm_bin (fun a b => a + b)), .inl (jm_iload 5), .inl jm_iast, .inl (jm_iload 2), .inl (jm_iload 5), .inl (jm_bin (fun a b => a - b)), .inl (jm_istore 2), .inl (jm_iinc 3 1), .inl (jm_goto 42), .inl (jm_iinc 1 1), .inl (jm_goto 28), .inr (.inl jm_vret)]
def met_136 : jm_M := (hdr_136.1, hdr_136.2, [0, 1, 2, 3, 6, 9, 10, 13, 14, 15, 16, 19, 22, 23, 24, 25, 26, 29, 32, 33, 36, 37, 38, 41, 42, 45, 48, 49, 50, 51, 52, 55, 58, 59, 62, 63, 64, 65, 66, 69, 70, 71, 72, 73, 74, 77, 78, 79, 82, 83, 86, 87, 88, 90, 91, 93, 96, 97, 100, 102, 104, 105, 108, 109, 111, 113, 114, 115, 116, 117, 118, 119, 121, 122, 125, 128, 131, 132, 135, 136, 138, 140, 141, 142, 145, 146, 149, 151, 152, 153, 154, 155, 157, 158, 159, 161, 162, 163, 166, 169, 172, 175], cod_136)
abbrev cod_137 : List jm_I := [.inl (jm_ic 0), .inl (jm_istore 1), .inl (jm_iload 1), .inl (jm_aload 0), .inl (jm_gI 8 28), .inl (jm_icge 92), .inl (jm_ic 0), .inl (jm_istore 2), .inl (jm_iload 2), .inl (jm_aload 0), .inl (jm_gI 8 26), .inl (jm_icge 90), .inl (jm_aload 0), .inl (jm_gS 8 33 49 (fun i => i)), .inl (jm_ic 24), .inl (jm_iload 1), .inl (jm_bin (fun a b => a * b)), .inl (jm_iload 2), .inl (jm_bin (fun a b => a + b)), .inl jm_iald, .inl (jm_istore 3), .inl (jm_ic 0), .inl (jm_istore 4), .inl (jm_iload 4), .inl (jm_aload 0), .inl (jm_gI 8 26), .inl (jm_icge 88), .inl (jm_iload 3), .inl (jm_ifle 88), .inl (jm_iload 4), .inl (jm_iload 2), .inl (jm_iceq 86), .inl (jm_aload 0), .inl (jm_gS 8 33 49 (fun i => i)), .inl (jm_ic 24), .inl (jm_iload 1), .inl (jm_bin (fun a b => a * b)), .inl (jm_iload 4), .inl (jm_bin (fun a b => a + b)), .inl jm_iald, .inl (jm_ifle 86), .inl (jm_aload 0), .inl (jm_gS 8 34 50 (fun i => i)), .inl (jm_iload 4), .inl jm_iald, .inl (jm_iload 3), .inl (jm_iclt 86), .inl (jm_aload 0), .inl (jm_gS 8 33 49 (fun i => i)), .inl (jm_ic 24), .inl (jm_iload 1), .inl (jm_bin (fun a b => a * b)), .inl (jm_iload 2), .inl (jm_bin (fun a b => a + b)), .inl (jm_ic 0), .inl jm_iast, .inl (jm_aload 0), .inl (jm_gS 8 33 49 (fun i => i)), .inl (jm_ic 24), .inl (jm_iload 1), .inl (jm_bin (fun a b => a * b)), .inl (jm_iload 4), .inl (jm_bin (fun a b => a + b)), .inl jm_dup2, .inl jm_iald, .inl (jm_iload 3), .inl (jm_bin (fun a b => a + b)), .inl jm_iast, .inl (jm_aload 0), .inl (jm_gS 8 34 50 (fun i => i)), .inl (jm_iload 2), .inl jm_dup2, .inl jm_iald, .inl (jm_iload 3), .inl (jm_bin (fun a b => a + b)), .inl jm_iast, .inl (jm_aload 0), .inl (jm_gS 8 34 50 (fun i => i)), .inl (jm_iload 4), .inl jm_dup2, .inl jm_iald, .inl (jm_iload 3), .inl (jm_bin (fun a b => a - b)), .inl jm_iast, .inl (jm_ic 1), .inr (.inl (jm_nret .boolean)), .inl (jm_iinc 4 1), .inl (jm_goto 23), .inl (jm_iinc 2 1), .inl (jm_goto 8), .inl (jm_iinc 1 1), .inl (jm_goto 2), .inl (jm_ic 0), .inr (.inl (jm_nret .boolean))]
def met_137 : jm_M := (hdr_137.1, hdr_137.2, [0, 1, 2, 3, 4, 7, 10, 11, 12, 13, 14, 17, 20, 21, 24, 26, 27, 28, 29, 30, 31, 32, 33, 35, 37, 38, 41, 44, 45, 48, 50, 51, 54, 55, 58, 60, 61, 62, 64, 65, 66, 69, 70, 73, 75, 76, 77, 80, 81, 84, 86, 87, 88, 89, 90, 91, 92, 93, 96, 98, 99, 100, 102, 103, 104, 105, 106, 107, 108, 109, 112, 113, 114, 115, 116, 117, 118, 119, 122, 124, 125, 126, 127, 128, 129, 130, 131, 134, 137, 140, 143, 146, 149, 150], cod_137)
abbrev cod_138 : List jm_I := [.inl (jm_aload 0), .inl (jm_iload 1), .inl (jm_iload 2), .inr (.inr (118, 3, 9)), .inl (jm_aload 0), .inr (.inr (136, 1, 9)), .inl (jm_aload 0), .inl (jm_ic 0), .inl (jm_pI 8 35), .inl (jm_aload 0), .inr (.inr (137, 1, 9)), .inl (jm_ifeq 19), .inl (jm_aload 0), .inl jm_dup, .inl (jm_gI 8 35), .inl (jm_ic 1), .inl (jm_bin (fun a b => a + b)), .inl (jm_pI 8 35), .inl (jm_goto 9), .inr (.inl jm_vret)]
def met_138 : jm_M := (hdr_138.1, hdr_138.2, [0, 1, 2, 3, 6, 7, 10, 11, 12, 15, 16, 19, 22, 23, 24, 27, 28, 29, 32, 35], cod_138)
abbrev cod_139 : List jm_I := [.inl (jm_ic 0), .inl (jm_istore 1), .inl (jm_ic 0), .inl (jm_istore 2), .inl (jm_iload 2), .inl (jm_ic 576), .inl (jm_icge 20), .inl (jm_iload 1), .inl (jm_aload 0), .inl (jm_gS 8 33 49 (fun i => i)), .inl (jm_iload 2), .inl jm_iald, .inl (jm_ifle 15), .inl (jm_ic 1), .inl (jm_goto 16), .inl (jm_ic 0), .inl (jm_bin (fun a b => a + b)), .inl (jm_istore 1), .inl (jm_iinc 2 1), .inl (jm_goto 4), .inl (jm_iload 1), .inr (.inl jm_iret)]
def met_139 : jm_M := (hdr_139.1, hdr_139.2, [0, 1, 2, 3, 4, 5, 8, 11, 12, 13, 16, 17, 18, 21, 22, 25, 26, 27, 28, 31, 34, 35], cod_139)
abbrev cod_140 : List jm_I := [.inl (jm_aload 0), .inr (.inr (86, 1, 9)), .inl (jm_aload 0), .inl (jm_iload 1), .inl (jm_iload 2), .inr (.inr (124, 3, 9)), .inl (jm_istore 3), .inl (jm_iload 3), .inl (jm_ifeq 13), .inl (jm_aload 0), .inl (jm_iload 3), .inr (.inr (87, 2, 9)), .inr (.inl jm_iret), .inl (jm_aload 0), .inl (jm_iload 1), .inl (jm_iload 2), .inr (.inr (126, 3, 9)), .inl (jm_ifne 22), .inl (jm_aload 0), .inl (jm_ic 5), .inr (.inr (87, 2, 9)), .inr (.inl jm_iret), .inl (jm_aload 0), .inl (jm_iload 1), .inl (jm_iload 2), .inr (.inr (138, 3, 9)), .inl (jm_aload 0), .inr (.inr (139, 1, 9)), .inr (.inl jm_iret)]
def met_140 : jm_M := (hdr_140.1, hdr_140.2, [0, 1, 4, 5, 6, 7, 10, 11, 12, 15, 16, 17, 20, 21, 22, 23, 24, 27, 30, 31, 32, 35, 36, 37, 38, 39, 42, 43, 46], cod_140)
abbrev cod_141 : List jm_I := [.inl (jm_aload 0), .inr (.inr (86, 1, 9)), .inl (jm_aload 0), .inl (jm_iload 1), .inr (.inr (113, 2, 9)), .inl (jm_ifne 10), .inl (jm_aload 0), .inl (jm_ic 1), .inr (.inr (87, 2, 9)), .inr (.inl jm_iret), .inl (jm_ic (-2)), .inl (jm_istore 2), .inl (jm_ic 0), .inl (jm_istore 3), .inl (jm_ic 96), .inl (jm_istore 4), .inl (jm_iload 4), .inl (jm_ic 4), .inl (jm_iclt 43), .inl (jm_aload 0), .inl (jm_iload 1), .inl (jm_iload 4), .inr (.inr (126, 3, 9)), .inl (jm_ifeq 41), .inl (jm_aload 0), .inl (jm_iload 1), .inl (jm_iload 4), .inr (.inr (138, 3, 9)), .inl (jm_aload 0), .inr (.inr (139, 1, 9)), .inl (jm_istore 5), .inl (jm_iload 2), .inl (jm_ic (-2)), .inl (jm_iceq 37), .inl (jm_iload 5), .inl (jm_iload 3), .inl (jm_icge 41), .inl (jm_iload 4), .inl (jm_istore 2), .inl (jm_iload 5), .inl (jm_istore 3), .inl (jm_iinc 4 (-1)), .inl (jm_goto 16), .inl (jm_iload 2), .inr (.inl jm_iret)]
def met_141 : jm_M := (hdr_141.1, hdr_141.2, [0, 1, 4, 5, 6, 9, 12, 13, 14, 17, 18, 20, 21, 22, 23, 25, 27, 29, 30, 33, 34, 35, 37, 40, 43, 44, 45, 47, 50, 51, 54, 56, 57, 59, 62, 64, 65, 68, 70, 71, 73, 74, 77, 80, 81], cod_141)
abbrev cod_142 : List jm_I := [.inl (jm_aload 0), .inr (.inr (86, 1, 9)), .inl (jm_aload 0), .inl (jm_iload 1), .inr (.inr (113, 2, 9)), .inl (jm_ifeq 16), .inl (jm_iload 2), .inl (jm_ic 0), .inl (jm_aload 0), .inl (jm_gS 8 10 36 (fun i => i)), .inl (jm_iload 1), .inl jm_iald, .inl (jm_ic 1), .inl (jm_bin (fun a b => a - b)), .inr (.inr (85, 3, 0)), .inl (jm_ifne 20), .inl (jm_aload 0), .inl (jm_ic 1), .inr (.inr (87, 2, 9)), .inr (.inl jm_iret), .inl (jm_aload 0), .inl (jm_iload 1), .inl (jm_aload 0), .inl (jm_gS 8 8 34 (fun i => i)), .inl (jm_iload 1), .inl jm_iald, .inr (.inr (118, 3, 9)), .inl (jm_ic 60), .inl (jm_istore 3), .inl (jm_iload 3), .inl (jm_iflt 66), .inl (jm_ic 0), .inl (jm_istore 4), .inl (jm_iload 4), .inl (jm_aload 0), .inl (jm_gI 8 28), .inl (jm_icge 59), .inl (jm_aload 0), .inl (jm_gS 8 31 47 (fun i => i)), .inl (jm_iload 4), .inl (jm_aload 0), .inl (jm_gS 8 24 43 (fun i => i)), .inl (jm_ic 24), .inl (jm_iload 1), .inl (jm_bin (fun a b => a * b)), .inl (jm_iload 4), .inl (jm_bin (fun a b => a + b)), .inl jm_iald, .inl (jm_iload 2), .inl (jm_icne 52), .inl (jm_iload 3), .inl (jm_goto 56), .inl (jm_aload 0), .inl (jm_gS 8 31 47 (fun i => i)), .inl (jm_iload 4), .inl jm_iald, .inl jm_iast, .inl (jm_iinc 4 1), .inl (jm_goto 33), .inl (jm_aload 0), .inr (.inr (122, 1, 9)), .inl (jm_ifgt 64), .inl (jm_iload 3), .inr (.inl jm_iret), .inl (jm_iinc 3 (-1)), .inl (jm_goto 29), .inl (jm_ic (-2)), .inr (.inl jm_iret)]
def met_142 : jm_M := (hdr_142.1, hdr_142.2, [0, 1, 4, 5, 6, 9, 12, 13, 14, 15, 18, 19, 20, 21, 22, 25, 28, 29, 30, 33, 34, 35, 36, 37, 40, 41, 42, 45, 47, 48, 49, 52, 53, 55, 57, 58, 61, 64, 65, 68, 70, 71, 74, 76, 77, 78, 80, 81, 82, 83, 86, 87, 90, 91, 94, 96, 97, 98, 101, 104, 105, 108, 111, 112, 113, 116, 119, 121], cod_142)
abbrev cod_143 : List jm_I := [.inl (jm_aload 0), .inr (.inr (86, 1, 9)), .inl (jm_aload 0), .inl (jm_iload 1), .inr (.inr (113, 2, 9)), .inl (jm_ifne 10), .inl (jm_aload 0), .inl (jm_ic 1), .inr (.inr (87, 2, 9)), .inr (.inl jm_iret), .inl (jm_aload 0), .inl (jm_iload 1), .inl (jm_aload 0), .inl (jm_gS 8 8 34 (fun i => i)), .inl (jm_iload 1), .inl jm_iald, .inr (.inr (118, 3, 9)), .inl (jm_aload 0), .inl (jm_gS 8 8 34 (fun i => i)), .inl (jm_iload 1), .inl jm_iald, .inl (jm_ic 1), .inl (jm_bin (fun a b => a - b)), .inl (jm_istore 2), .inl (jm_iload 2), .inl (jm_iflt 41), .inl (jm_aload 0), .inl (jm_aload 0), .inl (jm_gS 8 8 34 (fun i => i)), .inl (jm_iload 1), .inl jm_iald, .inl (jm_iload 2), .inl (jm_bin (fun a b => a - b)), .inl (jm_pI 8 27), .inl (jm_aload 0), .inr (.inr (122, 1, 9)), .inl (jm_ifgt 39), .inl (jm_iload 2), .inr (.inl jm_iret), .inl (jm_iinc 2 (-1)), .inl (jm_goto 24), .inl (jm_ic (-2)), .inr (.inl jm_iret)]
def met_143 : jm_M := (hdr_143.1, hdr_143.2, [0, 1, 4, 5, 6, 9, 12, 13, 14, 17, 18, 19, 20, 21, 24, 25, 26, 29, 30, 33, 34, 35, 36, 37, 38, 39, 42, 43, 44, 47, 48, 49, 50, 51, 54, 55, 58, 61, 62, 63, 66, 69, 71], cod_143)
abbrev cod_144 : List jm_I := [.inl (jm_aload 0), .inl (jm_gS 8 37 52 (fun i => i)), .inl (jm_iload 1), .inl jm_iald, .inl (jm_ifne 101), .inl (jm_aload 0), .inl (jm_gS 8 37 52 (fun i => i)), .inl (jm_iload 1), .inl (jm_aload 0), .inl (jm_iload 1), .inl (jm_aload 0), .inl (jm_gS 8 8 34 (fun i => i)), .inl (jm_iload 1), .inl jm_iald, .inr (.inr (126, 3, 9)), .inl (jm_ifeq 18), .inl (jm_ic 1), .inl (jm_goto 19), .inl (jm_ic 2), .inl jm_iast, .inl (jm_aload 0), .inl (jm_gS 8 37 52 (fun i => i)), .inl (jm_iload 1), .inl jm_iald, .inl (jm_ic 1), .inl (jm_icne 101), .inl (jm_aload 0), .inl (jm_iload 1), .inl (jm_aload 0), .inl (jm_gS 8 8 34 (fun i => i)), .inl (jm_iload 1), .inl jm_iald, .inr (.inr (138, 3, 9)), .inl (jm_aload 0), .inl (jm_gS 8 39 54 (fun i => i)), .inl (jm_iload 1), .inl (jm_aload 0), .inl (jm_gI 8 35), .inl jm_iast, .inl (jm_ic 0), .inl (jm_istore 2), .inl (jm_iload 2), .inl (jm_ic 576), .inl (jm_icge 58), .inl (jm_aload 0), .inl (jm_gS 8 38 53 (fun i => i)), .inl (jm_ic 576), .inl (jm_iload 1), .inl (jm_bin (fun a b => a * b)), .inl (jm_iload 2), .inl (jm_bin (fun a b => a + b)), .inl (jm_aload 0), .inl (jm_gS 8 33 49 (fun i => i)), .inl (jm_iload 2), .inl jm_iald, .inl jm_iast, .inl (jm_iinc 2 1), .inl (jm_goto 41), .inl (jm_ic 0), .inl (jm_istore 2), .inl (jm_iload 2), .inl (jm_ic 24), .inl (jm_icge 101), .inl (jm_aload 0), .inl (jm_gS 8 40 55 (fun i => i)), .inl (jm_ic 24), .inl (jm_iload 1), .inl (jm_bin (fun a b => a * b)), .inl (jm_iload 2), .inl (jm_bin (fun a b => a + b)), .inl (jm_aload 0), .inl (jm_gI 8 27), .inl jm_iast, .inl (jm_ic 0), .inl (jm_istore 3), .inl (jm_iload 3), .inl (jm_ic 24), .inl (jm_icge 99), .inl (jm_aload 0), .inl (jm_gS 8 40 55 (fun i => i)), .inl (jm_ic 24), .inl (jm_iload 1), .inl (jm_bin (fun a b => a * b)), .inl (jm_iload 2), .inl (jm_bin (fun a b => a + b)), .inl jm_dup2, .inl jm_iald, .inl (jm_aload 0), .inl (jm_gS 8 33 49 (fun i => i)), .inl (jm_ic 24), .inl (jm_iload 3), .inl (jm_bin (fun a b => a * b)), .inl (jm_iload 2), .inl (jm_bin (fun a b => a + b)), .inl jm_iald, .inl (jm_bin (fun a b => a - b)), .inl jm_iast, .inl (jm_iinc 3 1), .inl (jm_goto 75), .inl (jm_iinc 2 1), .inl (jm_goto 60), .inl (jm_aload 0), .inl (jm_gS 8 37 52 (fun i => i)), .inl (jm_iload 1), .inl jm_iald, .inl (jm_ic 1), .inl (jm_icne 109), .inl (jm_ic 1), .inl (jm_goto 110), .inl (jm_ic 0), .inr (.inl (jm_nret .boolean))]
def met_144 : jm_M := (hdr_144.1, hdr_144.2, [0, 1, 4, 5, 6, 9, 10, 13, 14, 15, 16, 17, 20, 21, 22, 25, 28, 29, 32, 33, 34, 35, 38, 39, 40, 41, 44, 45, 46, 47, 50, 51, 52, 55, 56, 59, 60, 61, 64, 65, 66, 67, 68, 71, 74, 75, 78, 81, 82, 83, 84, 85, 86, 89, 90, 91, 92, 95, 98, 99, 100, 101, 103, 106, 107, 110, 112, 113, 114, 115, 116, 117, 120, 121, 122, 123, 124, 126, 129, 130, 133, 135, 136, 137, 138, 139, 140, 141, 142, 145, 147, 148, 149, 150, 151, 152, 153, 154, 157, 160, 163, 166, 167, 170, 171, 172, 173, 176, 177, 180, 181], cod_144)
abbrev cod_145 : List jm_I := [.inl (jm_aload 0), .inl (jm_gS 8 11 37 (fun i => i)), .inl (jm_iload 1), .inl jm_iald, .inl (jm_aload 0), .inl (jm_gS 8 8 34 (fun i => i)), .inl (jm_iload 1), .inl jm_iald, .inl jm_idiv, .inr (.inl jm_iret)]
def met_145 : jm_M := (hdr_145.1, hdr_145.2, [0, 1, 4, 5, 6, 7, 10, 11, 12, 13], cod_145)
abbrev cod_146 : List jm_I := [.inl (jm_aload 0), .inl (jm_gS 8 38 53 (fun i => i)), .inl (jm_ic 576), .inl (jm_iload 1), .inl (jm_bin (fun a b => a * b)), .inl (jm_ic 24), .inl (jm_iload 2), .inl (jm_bin (fun a b => a * b)), .inl (jm_bin (fun a b => a + b)), .inl (jm_iload 3), .inl (jm_bin (fun a b => a + b)), .inl jm_iald, .inr (.inl jm_iret)]
def met_146 : jm_M := (hdr_146.1, hdr_146.2, [0, 1, 4, 7, 8, 9, 11, 12, 13, 14, 15, 16, 17], cod_146)
abbrev cod_147 : List jm_I := [.inl (jm_iload 2), .inl (jm_ifne 4), .inl (jm_ic 1), .inl (jm_goto 11), .inl (jm_aload 0), .inl (jm_iload 1), .inr (.inr (144, 2, 9)), .inl (jm_ifeq 10), .inl (jm_ic 0), .inl (jm_goto 11), .inl (jm_ic 5), .inr (.inl jm_iret)]
def met_147 : jm_M := (hdr_147.1, hdr_147.2, [0, 1, 4, 5, 8, 9, 10, 13, 16, 17, 20, 21], cod_147)
abbrev cod_148 : List jm_I := [.inl (jm_aload 0), .inl (jm_iload 1), .inr (.inr (113, 2, 9)), .inl (jm_ifeq 16), .inl (jm_iload 2), .inl (jm_ic 0), .inl (jm_aload 0), .inl (jm_gS 8 23 42 (fun i => i)), .inl (jm_iload 1), .inl jm_iald, .inl (jm_ic 1), .inl (jm_bin (fun a b => a - b)), .inr (.inr (85, 3, 0)), .inl (jm_ifeq 16), .inl (jm_ic 1), .inl (jm_goto 17), .inl (jm_ic 0), .inr (.inl (jm_nret .boolean))]
def met_148 : jm_M := (hdr_148.1, hdr_148.2, [0, 1, 2, 5, 8, 9, 10, 11, 14, 15, 16, 17, 18, 21, 24, 25, 28, 29], cod_148)
abbrev cod_149 : List jm_I := [.inl (jm_aload 0), .inl (jm_iload 1), .inr (.inr (113, 2, 9)), .inl (jm_ifeq 15), .inl (jm_iload 2), .inl (jm_ic 0), .inl (jm_aload 0), .inl (jm_iload 1), .inr (.inr (145, 2, 9)), .inl (jm_ic 1), .inl (jm_bin (fun a b => a - b)), .inr (.inr (85, 3, 0)), .inl (jm_ifeq 15), .inl (jm_ic 1), .inl (jm_goto 16), .inl (jm_ic 0), .inr (.inl (jm_nret .boolean))]
def met_149 : jm_M := (hdr_149.1, hdr_149.2, [0, 1, 2, 5, 8, 9, 10, 11, 12, 15, 16, 17, 20, 23, 24, 27, 28], cod_149)
abbrev cod_150 : List jm_I := [.inl (jm_aload 0), .inr (.inr (86, 1, 9)), .inl (jm_aload 0), .inl (jm_iload 1), .inr (.inr (113, 2, 9)), .inl (jm_ifne 10), .inl (jm_aload 0), .inl (jm_ic 1), .inr (.inr (87, 2, 9)), .inl (jm_goto 17), .inl (jm_aload 0), .inl (jm_iload 1), .inr (.inr (144, 2, 9)), .inl (jm_ifeq 16), .inl (jm_ic 1), .inl (jm_goto 17), .inl (jm_ic 0), .inr (.inl jm_iret)]
def met_150 : jm_M := (hdr_150.1, hdr_150.2, [0, 1, 4, 5, 6, 9, 12, 13, 14, 17, 20, 21, 22, 25, 28, 29, 32, 33], cod_150)
abbrev cod_151 : List jm_I := [.inl (jm_aload 0), .inr (.inr (86, 1, 9)), .inl (jm_aload 0), .inl (jm_iload 1), .inl (jm_aload 0), .inl (jm_iload 1), .inr (.inr (113, 2, 9)), .inr (.inr (147, 3, 9)), .inl (jm_istore 2), .inl (jm_iload 2), .inl (jm_ifeq 15), .inl (jm_aload 0), .inl (jm_iload 2), .inr (.inr (87, 2, 9)), .inr (.inl jm_iret), .inl (jm_ic 0), .inl (jm_istore 3), .inl (jm_ic 0), .inl (jm_istore 4), .inl (jm_iload 4), .inl (jm_ic 576), .inl (jm_icge 39), .inl (jm_iload 3), .inl (jm_aload 0), .inl (jm_gS 8 38 53 (fun i => i)), .inl (jm_ic 576), .inl (jm_iload 1), .inl (jm_bin (fun a b => a * b)), .inl (jm_iload 4), .inl (jm_bin (fun a b => a + b)), .inl jm_iald, .inl (jm_ifle 34), .inl (jm_ic 1), .inl (jm_goto 35), .inl (jm_ic 0), .inl (jm_bin (fun a b => a + b)), .inl (jm_istore 3), .inl (jm_iinc 4 1), .inl (jm_goto 19), .inl (jm_iload 3), .inr (.inl jm_iret)]
def met_151 : jm_M := (hdr_151.1, hdr_151.2, [0, 1, 4, 5, 6, 7, 8, 11, 14, 15, 16, 19, 20, 21, 24, 25, 26, 27, 28, 30, 32, 35, 38, 39, 40, 43, 46, 47, 48, 50, 51, 52, 55, 56, 59, 60, 61, 62, 65, 68, 69], cod_151)
abbrev cod_152 : List jm_I := [.inl (jm_aload 0), .inr (.inr (86, 1, 9)), .inl (jm_aload 0), .inl (jm_iload 1), .inl (jm_aload 0), .inl (jm_iload 1), .inr (.inr (113, 2, 9)), .inr (.inr (147, 3, 9)), .inl (jm_istore 2), .inl (jm_iload 2), .inl (jm_ifeq 15), .inl (jm_aload 0), .inl (jm_iload 2), .inr (.inr (87, 2, 9)), .inl (jm_goto 19), .inl (jm_aload 0), .inl (jm_gS 8 39 54 (fun i => i)), .inl (jm_iload 1), .inl jm_iald, .inr (.inl jm_iret)]
def met_152 : jm_M := (hdr_152.1, hdr_152.2, [0, 1, 4, 5, 6, 7, 8, 11, 14, 15, 16, 19, 20, 21, 24, 27, 28, 31, 32, 33], cod_152)
abbrev cod_153 : List jm_I := [.inl (jm_aload 0), .inr (.inr (86, 1, 9)), .inl (jm_aload 0), .inl (jm_iload 1), .inl (jm_aload 0), .inl (jm_iload 1), .inl (jm_iload 2), .inr (.inr (148, 3, 9)), .inl (jm_ifeq 16), .inl (jm_aload 0), .inl (jm_iload 1), .inl (jm_iload 3), .inr (.inr (149, 3, 9)), .inl (jm_ifeq 16), .inl (jm_ic 1), .inl (jm_goto 17), .inl (jm_ic 0), .inr (.inr (147, 3, 9)), .inl (jm_istore 4), .inl (jm_iload 4), .inl (jm_ifeq 25), .inl (jm_aload 0), .inl (jm_iload 4), .inr (.inr (87, 2, 9)), .inl (jm_goto 30), .inl (jm_aload 0), .inl (jm_iload 1), .inl (jm_iload 2), .inl (jm_iload 3), .inr (.inr (146, 4, 9)), .inr (.inl jm_iret)]
def met_153 : jm_M := (hdr_153.1, hdr_153.2, [0, 1, 4, 5, 6, 7, 8, 9, 12, 15, 16, 17, 18, 21, 24, 25, 28, 29, 32, 34, 36, 39, 40, 42, 45, 48, 49, 50, 51, 52, 55], cod_153)
abbrev cod_154 : List jm_I := [.inl (jm_aload 0), .inl (jm_gS 8 8 34 (fun i => i)), .inl (jm_iload 1), .inl jm_iald, .inl (jm_iload 3), .inl (jm_bin (fun a b => a * b)), .inl (jm_istore 4), .inl (jm_ic 0), .inl (jm_istore 5), .inl (jm_iload 5), .inl (jm_aload 0), .inl (jm_gS 8 23 42 (fun i => i)), .inl (jm_iload 1), .inl jm_iald, .inl (jm_icge 54), .inl (jm_aload 0), .inl (jm_iload 1), .inl (jm_iload 5), .inr (.inr (107, 3, 9)), .inl (jm_aload 0), .inl (jm_iload 1), .inl (jm_iload 2), .inr (.inr (107, 3, 9)), .inl (jm_iclt 36), .inl (jm_aload 0), .inl (jm_iload 1), .inl (jm_iload 5), .inr (.inr (107, 3, 9)), .inl (jm_aload 0), .inl (jm_iload 1), .inl (jm_iload 2), .inr (.inr (107, 3, 9)), .inl (jm_icne 38), .inl (jm_iload 5), .inl (jm_iload 2), .inl (jm_icge 38), .inl (jm_ic 1), .inl (jm_goto 39), .inl (jm_ic 0), .inl (jm_istore 6), .inl (jm_iload 4), .inl (jm_iload 6), .inl (jm_ifeq 49), .inl (jm_aload 0), .inl (jm_iload 1), .inl (jm_iload 5), .inl (jm_iload 3), .inr (.inr (146, 4, 9)), .inl (jm_goto 50), .inl (jm_ic 0), .inl (jm_bin (fun a b => a + b)), .inl (jm_istore 4), .inl (jm_iinc 5 1), .inl (jm_goto 9), .inl (jm_iload 4), .inr (.inl jm_iret)]
def met_154 : jm_M := (hdr_154.1, hdr_154.2, [0, 1, 4, 5, 6, 7, 8, 10, 11, 13, 15, 16, 19, 20, 21, 24, 25, 26, 28, 31, 32, 33, 34, 37, 40, 41, 42, 44, 47, 48, 49, 50, 53, 56, 58, 59, 62, 63, 66, 67, 69, 71, 73, 76, 77, 78, 80, 81, 84, 87, 88, 89, 91, 94, 97, 99], cod_154)
abbrev cod_155 : List jm_I := [.inl (jm_aload 0), .inr (.inr (86, 1, 9)), .inl (jm_aload 0), .inl (jm_iload 1), .inl (jm_aload 0), .inl (jm_iload 1), .inl (jm_iload 2), .inr (.inr (148, 3, 9)), .inl (jm_ifeq 16), .inl (jm_aload 0), .inl (jm_iload 1), .inl (jm_iload 3), .inr (.inr (149, 3, 9)), .inl (jm_ifeq 16), .inl (jm_ic 1), .inl (jm_goto 17), .inl (jm_ic 0), .inr (.inr (147, 3, 9)), .inl (jm_istore 4), .inl (jm_iload 4), .inl (jm_ifeq 25), .inl (jm_aload 0), .inl (jm_iload 4), .inr (.inr (87, 2, 9)), .inr (.inl jm_iret), .inl (jm_aload 0), .inl (jm_iload 1), .inl (jm_iload 2), .inl (jm_iload 3), .inr (.inr (146, 4, 9)), .inl (jm_ifne 33), .inl (jm_ic (-2)), .inl (jm_goto 38), .inl (jm_aload 0), .inl (jm_iload 1), .inl (jm_iload 2), .inl (jm_iload 3), .inr (.inr (154, 4, 9)), .inr (.inl jm_iret)]
def met_155 : jm_M := (hdr_155.1, hdr_155.2, [0, 1, 4, 5, 6, 7, 8, 9, 12, 15, 16, 17, 18, 21, 24, 25, 28, 29, 32, 34, 36, 39, 40, 42, 45, 46, 47, 48, 49, 50, 53, 56, 58, 61, 62, 63, 64, 65, 68], cod_155)
abbrev cod_156 : List jm_I := [.inl (jm_aload 0), .inr (.inr (86, 1, 9)), .inl (jm_aload 0), .inl (jm_iload 1), .inl (jm_aload 0), .inl (jm_iload 1), .inl (jm_iload 2), .inr (.inr (148, 3, 9)), .inr (.inr (147, 3, 9)), .inl (jm_istore 3), .inl (jm_iload 3), .inl (jm_ifeq 16), .inl (jm_aload 0), .inl (jm_iload 3), .inr (.inr (87, 2, 9)), .inr (.inl jm_iret), .inl (jm_aload 0), .inl (jm_iload 1), .inr (.inr (145, 2, 9)), .inl (jm_ic 1), .inl (jm_bin (fun a b => a - b)), .inl (jm_istore 4), .inl (jm_aload 0), .inl (jm_iload 1), .inl (jm_iload 2), .inl (jm_iload 4), .inr (.inr (146, 4, 9)), .inl (jm_ifne 30), .inl (jm_iinc 4 (-1)), .inl (jm_goto 22), .inl (jm_aload 0), .inl (jm_iload 1), .inl (jm_iload 2), .inl (jm_iload 4), .inr (.inr (154, 4, 9)), .inl (jm_aload 0), .inl (jm_iload 1), .inl (jm_iload 2), .inl (jm_iload 4), .inr (.inr (146, 4, 9)), .inl (jm_bin (fun a b => a + b)), .inr (.inl jm_iret)]
def met_156 : jm_M := (hdr_156.1, hdr_156.2, [0, 1, 4, 5, 6, 7, 8, 9, 12, 15, 16, 17, 20, 21, 22, 25, 26, 27, 28, 31, 32, 33, 35, 36, 37, 38, 40, 43, 46, 49, 52, 53, 54, 55, 57, 60, 61, 62, 63, 65, 68, 69], cod_156)
abbrev cod_157 : List jm_I := [.inl (jm_aload 0), .inr (.inr (86, 1, 9)), .inl (jm_aload 0), .inl (jm_iload 1), .inl (jm_aload 0), .inl (jm_iload 1), .inl (jm_iload 2), .inr (.inr (149, 3, 9)), .inr (.inr (147, 3, 9)), .inl (jm_istore 3), .inl (jm_iload 3), .inl (jm_ifeq 16), .inl (jm_aload 0), .inl (jm_iload 3), .inr (.inr (87, 2, 9)), .inl (jm_goto 24), .inl (jm_aload 0), .inl (jm_gS 8 40 55 (fun i => i)), .inl (jm_ic 24), .inl (jm_iload 1), .inl (jm_bin (fun a b => a * b)), .inl (jm_iload 2), .inl (jm_bin (fun a b => a + b)), .inl jm_iald, .inr (.inl jm_iret)]
def met_157 : jm_M := (hdr_157.1, hdr_157.2, [0, 1, 4, 5, 6, 7, 8, 9, 12, 15, 16, 17, 20, 21, 22, 25, 28, 29, 32, 34, 35, 36, 37, 38, 39], cod_157)
abbrev cod_158 : List jm_I := [.inl (jm_ic 0), .inl (jm_istore 3), .inl (jm_ic 0), .inl (jm_istore 4), .inl (jm_iload 4), .inl (jm_aload 0), .inl (jm_gS 8 23 42 (fun i => i)), .inl (jm_iload 1), .inl jm_iald, .inl (jm_icge 56), .inl (jm_ic 0), .inl (jm_istore 5), .inl (jm_iload 2), .inl (jm_istore 6), .inl (jm_iload 6), .inl (jm_aload 0), .inl (jm_iload 1), .inr (.inr (145, 2, 9)), .inl (jm_icge 29), .inl (jm_iload 5), .inl (jm_aload 0), .inl (jm_iload 1), .inl (jm_iload 4), .inl (jm_iload 6), .inr (.inr (146, 4, 9)), .inl (jm_bin (fun a b => a + b)), .inl (jm_istore 5), .inl (jm_iinc 6 1), .inl (jm_goto 14), .inl (jm_iload 3), .inl (jm_iload 5), .inl (jm_ifle 51), .inl (jm_aload 0), .inl (jm_gS 8 25 44 (fun i => i)), .inl (jm_ic 24), .inl (jm_iload 1), .inl (jm_bin (fun a b => a * b)), .inl (jm_iload 4), .inl (jm_bin (fun a b => a + b)), .inl jm_iald, .inl (jm_aload 0), .inl (jm_gS 8 8 34 (fun i => i)), .inl (jm_iload 1), .inl jm_iald, .inl (jm_iload 2), .inl (jm_bin (fun a b => a * b)), .inl (jm_icge 51), .inl (jm_ic 1), .inl (jm_iload 4), .inl (jm_bin (fun a b => a <<< (b &&& 31))), .inl (jm_goto 52), .inl (jm_ic 0), .inl (jm_bin (fun a b => a ||| b)), .inl (jm_istore 3), .inl (jm_iinc 4 1), .inl (jm_goto 4), .inl (jm_iload 3), .inr (.inl jm_iret)]
def met_158 : jm_M := (hdr_158.1, hdr_158.2, [0, 1, 2, 3, 5, 7, 8, 11, 12, 13, 16, 17, 19, 20, 22, 24, 25, 26, 29, 32, 34, 35, 36, 38, 40, 43, 44, 46, 49, 52, 53, 55, 58, 59, 62, 64, 65, 66, 68, 69, 70, 71, 74, 75, 76, 77, 78, 81, 82, 84, 85, 88, 89, 90, 91, 94, 97, 98], cod_158)
abbrev cod_159 : List jm_I := [.inl (jm_aload 0), .inr (.inr (86, 1, 9)), .inl (jm_aload 0), .inl (jm_iload 1), .inl (jm_aload 0), .inl (jm_iload 1), .inl (jm_iload 2), .inr (.inr (149, 3, 9)), .inr (.inr (147, 3, 9)), .inl (jm_istore 3), .inl (jm_iload 3), .inl (jm_ifeq 16), .inl (jm_aload 0), .inl (jm_iload 3), .inr (.inr (87, 2, 9)), .inl (jm_goto 20), .inl (jm_aload 0), .inl (jm_iload 1), .inl (jm_iload 2), .inr (.inr (158, 3, 9)), .inr (.inl jm_iret)]
def met_159 : jm_M := (hdr_159.1, hdr_159.2, [0, 1, 4, 5, 6, 7, 8, 9, 12, 15, 16, 17, 20, 21, 22, 25, 28, 29, 30, 31, 34], cod_159)
abbrev cod_160 : List jm_I := [.inl (jm_ic 0), .inl (jm_istore 1), .inl (jm_iload 1), .inl (jm_ic 28), .inl (jm_icge 12), .inl (jm_aload 0), .inl (jm_gS 8 41 56 (fun i => i)), .inl (jm_iload 1), .inl (jm_ic 0), .inl jm_iast, .inl (jm_iinc 1 1), .inl (jm_goto 2), .inl (jm_aload 0), .inl (jm_gS 8 41 56 (fun i => i)), .inl (jm_ic 7), .inl (jm_ic (-2)), .inl jm_iast, .inl (jm_aload 0), .inl (jm_gS 8 41 56 (fun i => i)), .inl (jm_ic 8), .inl (jm_ic (-2)), .inl jm_iast, .inl (jm_aload 0), .inl (jm_gS 8 41 56 (fun i => i)), .inl (jm_ic 9), .inl (jm_ic (-2)), .inl jm_iast, .inl (jm_aload 0), .inl (jm_ic 0), .inl (jm_pZ 8 43), .inl (jm_ic 0), .inl (jm_istore 1), .inl (jm_iload 1), .inl (jm_ic 3), .inl (jm_icge 42), .inl (jm_aload 0), .inl (jm_gS 8 37 52 (fun i => i)), .inl (jm_iload 1), .inl (jm_ic 0), .inl jm_iast, .inl (jm_iinc 1 1), .inl (jm_goto 32), .inr (.inl jm_vret)]
def met_160 : jm_M := (hdr_160.1, hdr_160.2, [0, 1, 2, 3, 5, 8, 9, 12, 13, 14, 15, 18, 21, 22, 25, 27, 29, 30, 31, 34, 36, 38, 39, 40, 43, 45, 47, 48, 49, 50, 53, 54, 55, 56, 57, 60, 61, 64, 65, 66, 67, 70, 73], cod_160)
abbrev cod_161 : List jm_I := [.inl (jm_aload 0), .inl (jm_gI 8 6), .inl (jm_ifeq 5), .inl (jm_iload 1), .inl (jm_ifne 7), .inl (jm_ic 1), .inl (jm_goto 17), .inl (jm_aload 0), .inl (jm_aload 0), .inl (jm_gS 8 41 56 (fun i => i)), .inl (jm_ic 1), .inl jm_iald, .inr (.inr (144, 2, 9)), .inl (jm_ifeq 16), .inl (jm_ic 0), .inl (jm_goto 17), .inl (jm_ic 5), .inr (.inl jm_iret)]
def met_161 : jm_M := (hdr_161.1, hdr_161.2, [0, 1, 4, 7, 8, 11, 12, 15, 16, 17, 20, 21, 22, 25, 28, 29, 32, 33], cod_161)
abbrev cod_162 : List jm_I := [.inl (jm_aload 0), .inl (jm_gI 8 47), .inl (jm_ic (-2)), .inl (jm_iceq 16), .inl (jm_aload 0), .inl (jm_gI 8 44), .inl (jm_aload 0), .inl (jm_gI 8 48), .inl (jm_icne 16), .inl (jm_aload 0), .inl (jm_aload 0), .inl (jm_gI 8 47), .inl (jm_pI 8 45), .inl (jm_aload 0), .inl (jm_ic 0), .inl (jm_pI 8 46), .inr (.inl jm_vret)]
def met_162 : jm_M := (hdr_162.1, hdr_162.2, [0, 1, 4, 6, 9, 10, 13, 14, 17, 20, 21, 22, 25, 28, 29, 30, 33], cod_162)
abbrev cod_163 : List jm_I := [.inl (jm_aload 0), .inl (jm_iload 1), .inl (jm_pI 8 47), .inl (jm_aload 0), .inl (jm_iload 2), .inl (jm_pI 8 48), .inl (jm_aload 0), .inl (jm_aload 0), .inl (jm_gS 8 41 56 (fun i => i)), .inl (jm_ic 0), .inl jm_iald, .inl (jm_pI 8 44), .inl (jm_aload 0), .inl (jm_aload 0), .inl (jm_gS 8 41 56 (fun i => i)), .inl (jm_ic 1), .inl jm_iald, .inl (jm_pI 8 45), .inl (jm_aload 0), .inl (jm_aload 0), .inl (jm_gS 8 41 56 (fun i => i)), .inl (jm_ic 2), .inl jm_iald, .inl (jm_pI 8 46), .inl (jm_aload 0), .inr (.inr (162, 1, 9)), .inr (.inl jm_vret)]
def met_163 : jm_M := (hdr_163.1, hdr_163.2, [0, 1, 2, 5, 6, 7, 10, 11, 12, 15, 16, 17, 20, 21, 22, 25, 26, 27, 30, 31, 32, 35, 36, 37, 40, 41, 44], cod_163)
abbrev cod_164 : List jm_I := [.inl (jm_aload 0), .inl (jm_aload 0), .inl (jm_gS 8 41 56 (fun i => i)), .inl (jm_ic 7), .inl jm_iald, .inl (jm_aload 0), .inl (jm_gS 8 41 56 (fun i => i)), .inl (jm_ic 8), .inl jm_iald, .inr (.inr (163, 3, 9)), .inr (.inl jm_vret)]
def met_164 : jm_M := (hdr_164.1, hdr_164.2, [0, 1, 2, 5, 7, 8, 9, 12, 14, 15, 18], cod_164)
abbrev cod_165 : List jm_I := [.inl (jm_aload 0), .inl (jm_gI 8 44), .inl (jm_aload 0), .inl (jm_gS 8 8 34 (fun i => i)), .inl (jm_aload 0), .inl (jm_gI 8 45), .inl jm_iald, .inl (jm_bin (fun a b => a + b)), .inr (.inl jm_iret)]
def met_165 : jm_M := (hdr_165.1, hdr_165.2, [0, 1, 4, 5, 8, 9, 12, 13, 14], cod_165)
abbrev cod_166 : List jm_I := [.inl (jm_aload 0), .inl (jm_gS 8 40 55 (fun i => i)), .inl (jm_ic 24), .inl (jm_aload 0), .inl (jm_gI 8 45), .inl (jm_bin (fun a b => a * b)), .inl (jm_aload 0), .inl (jm_gI 8 46), .inl (jm_bin (fun a b => a + b)), .inl jm_iald, .inr (.inl jm_iret)]
def met_166 : jm_M := (hdr_166.1, hdr_166.2, [0, 1, 4, 6, 7, 10, 11, 12, 15, 16, 17], cod_166)
abbrev cod_167 : List jm_I := [.inl (jm_aload 0), .inl (jm_aload 0), .inr (.inr (165, 1, 9)), .inl (jm_pI 8 44), .inl (jm_aload 0), .inl jm_dup, .inl (jm_gI 8 46), .inl (jm_ic 1), .inl (jm_bin (fun a b => a + b)), .inl (jm_pI 8 46), .inl (jm_aload 0), .inl (jm_gI 8 46), .inl (jm_aload 0), .inl (jm_aload 0), .inl (jm_gI 8 45), .inr (.inr (145, 2, 9)), .inl (jm_icne 20), .inl (jm_aload 0), .inl (jm_ic 0), .inl (jm_pI 8 46), .inl (jm_aload 0), .inr (.inr (162, 1, 9)), .inr (.inl jm_vret)]
def met_167 : jm_M := (hdr_167.1, hdr_167.2, [0, 1, 2, 5, 8, 9, 10, 13, 14, 15, 18, 19, 22, 23, 24, 27, 30, 33, 34, 35, 38, 39, 42], cod_167)
abbrev cod_168 : List jm_I := [.inl (jm_iload 1), .inl jm_ineg, .inl (jm_istore 2), .inl (jm_ic 0), .inl (jm_istore 3), .inl (jm_ic 1), .inl (jm_istore 4), .inl (jm_ic 0), .inl (jm_istore 5), .inl (jm_iload 5), .inl (jm_aload 0), .inl (jm_gS 8 41 56 (fun i => i)), .inl (jm_ic 3), .inl jm_iald, .inl (jm_icge 81), .inl (jm_iload 4), .inl (jm_ifeq 81), .inl (jm_aload 0), .inr (.inr (165, 1, 9)), .inl (jm_aload 0), .inl (jm_gS 8 41 56 (fun i => i)), .inl (jm_ic 19), .inl (jm_iload 5), .inl (jm_bin (fun a b => a + b)), .inl jm_iald, .inl (jm_icgt 34), .inl (jm_iload 2), .inl (jm_aload 0), .inr (.inr (166, 1, 9)), .inl (jm_bin (fun a b => a + b)), .inl (jm_istore 2), .inl (jm_aload 0), .inr (.inr (167, 1, 9)), .inl (jm_goto 17), .inl (jm_iload 3), .inl (jm_aload 0), .inl (jm_gS 8 41 56 (fun i => i)), .inl (jm_ic 10), .inl (jm_iload 5), .inl (jm_bin (fun a b => a + b)), .inl jm_iald, .inl (jm_bin (fun a b => a + b)), .inl (jm_istore 3), .inl (jm_iload 5), .inl (jm_aload 0), .inl (jm_gS 8 41 56 (fun i => i)), .inl (jm_ic 3), .inl jm_iald, .inl (jm_ic 1), .inl (jm_bin (fun a b => a - b)), .inl (jm_iceq 66), .inl (jm_aload 0), .inl (jm_gS 8 41 56 (fun i => i)), .inl (jm_ic 19), .inl (jm_iload 5), .inl (jm_bin (fun a b => a + b)), .inl (jm_ic 1), .inl (jm_bin (fun a b => a + b)), .inl jm_iald, .inl (jm_aload 0), .inl (jm_gS 8 41 56 (fun i => i)), .inl (jm_ic 19), .inl (jm_iload 5), .inl (jm_bin (fun a b => a + b)), .inl jm_iald, .inl (jm_icle 68), .inl (jm_ic 1), .inl (jm_goto 69), .inl (jm_ic 0), .inl (jm_istore 6), .inl (jm_iload 6), .inl (jm_ifeq 75), .inl (jm_iload 2), .inl (jm_iload 3), .inl (jm_iclt 77), .inl (jm_ic 1), .inl (jm_goto 78), .inl (jm_ic 0), .inl (jm_istore 4), .inl (jm_iinc 5 1), .inl (jm_goto 9), .inl (jm_iload 4), .inr (.inl (jm_nret .boolean))]
def met_168 : jm_M := (hdr_168.1, hdr_168.2, [0, 1, 2, 3, 4, 5, 6, 8, 9, 11, 13, 14, 17, 18, 19, 22, 24, 27, 28, 31, 32, 35, 37, 39, 40, 41, 44, 45, 46, 49, 50, 51, 52, 55, 58, 59, 60, 63, 65, 67, 68, 69, 70, 71, 73, 74, 77, 78, 79, 80, 81, 84, 85, 88, 90, 92, 93, 94, 95, 96, 97, 100, 102, 104, 105, 106, 109, 110, 113, 114, 116, 118, 121, 122, 123, 126, 127, 130, 131, 133, 136, 139, 141], cod_168)
abbrev cod_169 : List jm_I := [.inl (jm_aload 0), .inr (.inr (86, 1, 9)), .inl (jm_aload 0), .inl (jm_gI 8 6), .inl (jm_ifeq 10), .inl (jm_iload 1), .inl (jm_ic 0), .inl (jm_ic 9), .inr (.inr (85, 3, 0)), .inl (jm_ifne 14), .inl (jm_aload 0), .inl (jm_ic 1), .inr (.inr (87, 2, 9)), .inl (jm_goto 18), .inl (jm_aload 0), .inl (jm_gS 8 41 56 (fun i => i)), .inl (jm_iload 1), .inl jm_iald, .inr (.inl jm_iret)]
def met_169 : jm_M := (hdr_169.1, hdr_169.2, [0, 1, 4, 5, 8, 11, 12, 13, 15, 18, 21, 22, 23, 26, 29, 30, 33, 34, 35], cod_169)
abbrev cod_170 : List jm_I := [.inl (jm_aload 0), .inr (.inr (86, 1, 9)), .inl (jm_aload 0), .inl (jm_iload 2), .inl (jm_ic 0), .inl (jm_ic 3), .inr (.inr (85, 3, 0)), .inr (.inr (161, 2, 9)), .inl (jm_istore 3), .inl (jm_iload 3), .inl (jm_ifeq 15), .inl (jm_aload 0), .inl (jm_iload 3), .inr (.inr (87, 2, 9)), .inr (.inl jm_iret), .inl (jm_iload 1), .inl (jm_ic 0), .inl (jm_ic 99), .inr (.inr (85, 3, 0)), .inl (jm_ifne 24), .inl (jm_aload 0), .inl (jm_ic 2), .inr (.inr (87, 2, 9)), .inr (.inl jm_iret), .inl (jm_aload 0), .inr (.inr (164, 1, 9)), .inl (jm_ic 0), .inl (jm_istore 4), .inl (jm_iload 4), .inl (jm_iload 1), .inl (jm_icge 35), .inl (jm_aload 0), .inr (.inr (167, 1, 9)), .inl (jm_iinc 4 1), .inl (jm_goto 28), .inl (jm_iload 2), .inl (jm_ifne 40), .inl (jm_aload 0), .inl (jm_gI 8 44), .inl (jm_goto 54), .inl (jm_iload 2), .inl (jm_ic 1), .inl (jm_icne 46), .inl (jm_aload 0), .inl (jm_gI 8 45), .inl (jm_goto 54), .inl (jm_iload 2), .inl (jm_ic 2), .inl (jm_icne 52), .inl (jm_aload 0), .inl (jm_gI 8 46), .inl (jm_goto 54), .inl (jm_aload 0), .inr (.inr (166, 1, 9)), .inr (.inl jm_iret)]
def met_170 : jm_M := (hdr_170.1, hdr_170.2, [0, 1, 4, 5, 6, 7, 8, 11, 14, 15, 16, 19, 20, 21, 24, 25, 26, 27, 29, 32, 35, 36, 37, 40, 41, 42, 45, 46, 48, 50, 51, 54, 55, 58, 61, 64, 65, 68, 69, 72, 75, 76, 77, 80, 81, 84, 87, 88, 89, 92, 93, 96, 99, 100, 103], cod_170)
abbrev cod_171 : List jm_I := [.inl (jm_aload 0), .inr (.inr (86, 1, 9)), .inl (jm_aload 0), .inl (jm_gI 8 6), .inl (jm_ifeq 20), .inl (jm_iload 1), .inl (jm_ic 0), .inl (jm_aload 0), .inl (jm_gS 8 41 56 (fun i => i)), .inl (jm_ic 3), .inl jm_iald, .inl (jm_ic 1), .inl (jm_bin (fun a b => a - b)), .inr (.inr (85, 3, 0)), .inl (jm_ifeq 20), .inl (jm_iload 2), .inl (jm_ic 0), .inl (jm_ic 2), .inr (.inr (85, 3, 0)), .inl (jm_ifne 24), .inl (jm_aload 0), .inl (jm_ic 1), .inr (.inr (87, 2, 9)), .inr (.inl jm_iret), .inl (jm_iload 2), .inl (jm_ic 2), .inl (jm_icge 38), .inl (jm_aload 0), .inl (jm_gS 8 41 56 (fun i => i)), .inl (jm_iload 2), .inl (jm_ifne 33), .inl (jm_ic 10), .inl (jm_goto 34), .inl (jm_ic 19), .inl (jm_iload 1), .inl (jm_bin (fun a b => a + b)), .inl jm_iald, .inr (.inl jm_iret), .inl (jm_ic 0), .inl (jm_istore 3), .inl (jm_ic 0), .inl (jm_istore 4), .inl (jm_iload 4), .inl (jm_iload 1), .inl (jm_icgt 56), .inl (jm_iload 3), .inl (jm_aload 0), .inl (jm_gS 8 41 56 (fun i => i)), .inl (jm_ic 10), .inl (jm_iload 4), .inl (jm_bin (fun a b => a + b)), .inl jm_iald, .inl (jm_bin (fun a b => a + b)), .inl (jm_istore 3), .inl (jm_iinc 4 1), .inl (jm_goto 42), .inl (jm_aload 0), .inr (.inr (164, 1, 9)), .inl (jm_aload 0), .inr (.inr (166, 1, 9)), .inl (jm_istore 4), .inl (jm_iload 4), .inl (jm_iload 3), .inl (jm_icge 72), .inl (jm_aload 0), .inr (.inr (167, 1, 9)), .inl (jm_iload 4), .inl (jm_aload 0), .inr (.inr (166, 1, 9)), .inl (jm_bin (fun a b => a + b)), .inl (jm_istore 4), .inl (jm_goto 61), .inl (jm_aload 0), .inr (.inr (165, 1, 9)), .inr (.inl jm_iret)]
def met_171 : jm_M := (hdr_171.1, hdr_171.2, [0, 1, 4, 5, 8, 11, 12, 13, 14, 17, 18, 19, 20, 21, 24, 27, 28, 29, 30, 33, 36, 37, 38, 41, 42, 43, 44, 47, 48, 51, 52, 55, 57, 60, 62, 63, 64, 65, 66, 67, 68, 69, 71, 73, 74, 77, 78, 79, 82, 84, 86, 87, 88, 89, 90, 93, 96, 97, 100, 101, 104, 106, 108, 109, 112, 113, 116, 118, 119, 122, 123, 125, 128, 129, 132], cod_171)
abbrev cod_172 : List jm_I := [.inl (jm_aload 0), .inl (jm_gS 8 41 56 (fun i => i)), .inl (jm_ic 3), .inl jm_iald, .inl (jm_istore 3), .inl (jm_iload 3), .inl (jm_ifle 47), .inl (jm_aload 0), .inl (jm_gS 8 41 56 (fun i => i)), .inl (jm_ic 19), .inl (jm_iload 3), .inl (jm_bin (fun a b => a + b)), .inl (jm_ic 1), .inl (jm_bin (fun a b => a - b)), .inl jm_iald, .inl (jm_iload 2), .inl (jm_icle 47), .inl (jm_aload 0), .inl (jm_gS 8 41 56 (fun i => i)), .inl (jm_ic 10), .inl (jm_iload 3), .inl (jm_bin (fun a b => a + b)), .inl (jm_aload 0), .inl (jm_gS 8 41 56 (fun i => i)), .inl (jm_ic 10), .inl (jm_iload 3), .inl (jm_bin (fun a b => a + b)), .inl (jm_ic 1), .inl (jm_bin (fun a b => a - b)), .inl jm_iald, .inl jm_iast, .inl (jm_aload 0), .inl (jm_gS 8 41 56 (fun i => i)), .inl (jm_ic 19), .inl (jm_iload 3), .inl (jm_bin (fun a b => a + b)), .inl (jm_aload 0), .inl (jm_gS 8 41 56 (fun i => i)), .inl (jm_ic 19), .inl (jm_iload 3), .inl (jm_bin (fun a b => a + b)), .inl (jm_ic 1), .inl (jm_bin (fun a b => a - b)), .inl jm_iald, .inl jm_iast, .inl (jm_iinc 3 (-1)), .inl (jm_goto 5), .inl (jm_aload 0), .inl (jm_gS 8 41 56 (fun i => i)), .inl (jm_ic 10), .inl (jm_iload 3), .inl (jm_bin (fun a b => a + b)), .inl (jm_iload 1), .inl jm_iast, .inl (jm_aload 0), .inl (jm_gS 8 41 56 (fun i => i)), .inl (jm_ic 19), .inl (jm_iload 3), .inl (jm_bin (fun a b => a + b)), .inl (jm_iload 2), .inl jm_iast, .inl (jm_aload 0), .inl (jm_gS 8 41 56 (fun i => i)), .inl (jm_ic 3), .inl jm_dup2, .inl jm_iald, .inl (jm_ic 1), .inl (jm_bin (fun a b => a + b)), .inl jm_iast, .inl (jm_iload 3), .inr (.inl jm_iret)]
def met_172 : jm_M := (hdr_172.1, hdr_172.2, [0, 1, 4, 5, 6, 7, 8, 11, 12, 15, 17, 18, 19, 20, 21, 22, 23, 26, 27, 30, 32, 33, 34, 35, 38, 40, 41, 42, 43, 44, 45, 46, 47, 50, 52, 53, 54, 55, 58, 60, 61, 62, 63, 64, 65, 66, 69, 72, 73, 76, 78, 79, 80, 81, 82, 83, 86, 88, 89, 90, 91, 92, 93, 96, 97, 98, 99, 100, 101, 102, 103], cod_172)
abbrev cod_173 : List jm_I := [.inl (jm_iload 1), .inl (jm_ic 1), .inl (jm_bin (fun a b => a + b)), .inl (jm_istore 2), .inl (jm_iload 2), .inl (jm_aload 0), .inl (jm_gS 8 41 56 (fun i => i)), .inl (jm_ic 3), .inl jm_iald, .inl (jm_icge 40), .inl (jm_aload 0), .inl (jm_gS 8 41 56 (fun i => i)), .inl (jm_ic 10), .inl (jm_iload 2), .inl (jm_bin (fun a b => a + b)), .inl (jm_ic 1), .inl (jm_bin (fun a b => a - b)), .inl (jm_aload 0), .inl (jm_gS 8 41 56 (fun i => i)), .inl (jm_ic 10), .inl (jm_iload 2), .inl (jm_bin (fun a b => a + b)), .inl jm_iald, .inl jm_iast, .inl (jm_aload 0), .inl (jm_gS 8 41 56 (fun i => i)), .inl (jm_ic 19), .inl (jm_iload 2), .inl (jm_bin (fun a b => a + b)), .inl (jm_ic 1), .inl (jm_bin (fun a b => a - b)), .inl (jm_aload 0), .inl (jm_gS 8 41 56 (fun i => i)), .inl (jm_ic 19), .inl (jm_iload 2), .inl (jm_bin (fun a b => a + b)), .inl jm_iald, .inl jm_iast, .inl (jm_iinc 2 1), .inl (jm_goto 4), .inl (jm_aload 0), .inl (jm_gS 8 41 56 (fun i => i)), .inl (jm_ic 3), .inl jm_dup2, .inl jm_iald, .inl (jm_ic 1), .inl (jm_bin (fun a b => a - b)), .inl jm_iast, .inr (.inl jm_vret)]
def met_173 : jm_M := (hdr_173.1, hdr_173.2, [0, 1, 2, 3, 4, 5, 6, 9, 10, 11, 14, 15, 18, 20, 21, 22, 23, 24, 25, 28, 30, 31, 32, 33, 34, 35, 38, 40, 41, 42, 43, 44, 45, 48, 50, 51, 52, 53, 54, 57, 60, 61, 64, 65, 66, 67, 68, 69, 70], cod_173)
abbrev cod_174 : List jm_I := [.inl (jm_aload 0), .inl (jm_iload 1), .inl (jm_iload 2), .inr (.inr (172, 3, 9)), .inl (jm_istore 3), .inl (jm_aload 0), .inr (.inr (164, 1, 9)), .inl (jm_aload 0), .inl (jm_ic 0), .inr (.inr (168, 2, 9)), .inl (jm_istore 4), .inl (jm_aload 0), .inl (jm_iload 3), .inr (.inr (173, 2, 9)), .inl (jm_iload 4), .inr (.inl (jm_nret .boolean))]
def met_174 : jm_M := (hdr_174.1, hdr_174.2, [0, 1, 2, 3, 6, 7, 8, 11, 12, 13, 16, 18, 19, 20, 23, 25], cod_174)
abbrev cod_175 : List jm_I := [.inl (jm_iload 1), .inl (jm_ic 1), .inl (jm_ic 400), .inr (.inr (85, 3, 0)), .inr (.inl (jm_nret .boolean))]
def met_175 : jm_M := (hdr_175.1, hdr_175.2, [0, 1, 2, 5, 8], cod_175)
abbrev cod_176 : List jm_I := [.inl (jm_iload 1), .inl (jm_aload 0), .inl (jm_gS 8 41 56 (fun i => i)), .inl (jm_ic 0), .inl jm_iald, .inl (jm_ic 1), .inl (jm_bin (fun a b => a + b)), .inl (jm_aload 0), .inl (jm_gS 8 41 56 (fun i => i)), .inl (jm_ic 0), .inl jm_iald, .inl (jm_ic 400), .inl (jm_bin (fun a b => a + b)), .inr (.inr (85, 3, 0)), .inr (.inl (jm_nret .boolean))]
def met_176 : jm_M := (hdr_176.1, hdr_176.2, [0, 1, 2, 5, 6, 7, 8, 9, 10, 13, 14, 15, 18, 19, 22], cod_176)
abbrev cod_177 : List jm_I := [.inl (jm_aload 0), .inr (.inr (86, 1, 9)), .inl (jm_aload 0), .inl (jm_ic 1), .inr (.inr (161, 2, 9)), .inl (jm_istore 3), .inl (jm_iload 3), .inl (jm_ifeq 12), .inl (jm_aload 0), .inl (jm_iload 3), .inr (.inr (87, 2, 9)), .inr (.inl jm_iret), .inl (jm_aload 0), .inl (jm_iload 1), .inr (.inr (175, 2, 9)), .inl (jm_ifeq 20), .inl (jm_aload 0), .inl (jm_iload 2), .inr (.inr (176, 2, 9)), .inl (jm_ifne 24), .inl (jm_aload 0), .inl (jm_ic 2), .inr (.inr (87, 2, 9)), .inr (.inl jm_iret), .inl (jm_aload 0), .inl (jm_iload 1), .inl (jm_iload 2), .inr (.inr (174, 3, 9)), .inl (jm_ifeq 31), .inl (jm_ic 1), .inl (jm_goto 32), .inl (jm_ic 0), .inr (.inl jm_iret)]
def met_177 : jm_M := (hdr_177.1, hdr_177.2, [0, 1, 4, 5, 6, 9, 10, 11, 14, 15, 16, 19, 20, 21, 22, 25, 28, 29, 30, 33, 36, 37, 38, 41, 42, 43, 44, 45, 48, 51, 52, 55, 56], cod_177)
abbrev cod_178 : List jm_I := [.inl (jm_aload 0), .inr (.inr (86, 1, 9)), .inl (jm_aload 0), .inl (jm_ic 1), .inr (.inr (161, 2, 9)), .inl (jm_istore 3), .inl (jm_iload 3), .inl (jm_ifeq 12), .inl (jm_aload 0), .inl (jm_iload 3), .inr (.inr (87, 2, 9)), .inr (.inl jm_iret), .inl (jm_aload 0), .inl (jm_iload 1), .inr (.inr (175, 2, 9)), .inl (jm_ifeq 20), .inl (jm_aload 0), .inl (jm_iload 2), .inr (.inr (176, 2, 9)), .inl (jm_ifne 24), .inl (jm_aload 0), .inl (jm_ic 2), .inr (.inr (87, 2, 9)), .inr (.inl jm_iret), .inl (jm_aload 0), .inl (jm_gS 8 41 56 (fun i => i)), .inl (jm_ic 3), .inl jm_iald, .inl (jm_ic 8), .inl (jm_icne 34), .inl (jm_aload 0), .inl (jm_ic 3), .inr (.inr (87, 2, 9)), .inr (.inl jm_iret), .inl (jm_aload 0), .inl (jm_iload 1), .inl (jm_iload 2), .inr (.inr (174, 3, 9)), .inl (jm_ifeq 44), .inl (jm_aload 0), .inl (jm_iload 1), .inl (jm_iload 2), .inr (.inr (172, 3, 9)), .inl (jm_goto 47), .inl (jm_aload 0), .inl (jm_ic 5), .inr (.inr (87, 2, 9)), .inr (.inl jm_iret)]
def met_178 : jm_M := (hdr_178.1, hdr_178.2, [0, 1, 4, 5, 6, 9, 10, 11, 14, 15, 16, 19, 20, 21, 22, 25, 28, 29, 30, 33, 36, 37, 38, 41, 42, 43, 46, 47, 48, 50, 53, 54, 55, 58, 59, 60, 61, 62, 65, 68, 69, 70, 71, 74, 77, 78, 79, 82], cod_178)
abbrev cod_179 : List jm_I := [.inl (jm_aload 0), .inr (.inr (86, 1, 9)), .inl (jm_aload 0), .inl (jm_ic 1), .inr (.inr (161, 2, 9)), .inl (jm_istore 2), .inl (jm_iload 2), .inl (jm_ifeq 12), .inl (jm_aload 0), .inl (jm_iload 2), .inr (.inr (87, 2, 9)), .inr (.inl jm_iret), .inl (jm_aload 0), .inl (jm_iload 1), .inr (.inr (175, 2, 9)), .inl (jm_ifne 20), .inl (jm_aload 0), .inl (jm_ic 2), .inr (.inr (87, 2, 9)), .inr (.inl jm_iret), .inl (jm_aload 0), .inl (jm_gS 8 41 56 (fun i => i)), .inl (jm_ic 0), .inl jm_iald, .inl (jm_ic 1), .inl (jm_bin (fun a b => a + b)), .inl (jm_istore 3), .inl (jm_iload 3), .inl (jm_aload 0), .inl (jm_gS 8 41 56 (fun i => i)), .inl (jm_ic 0), .inl jm_iald, .inl (jm_ic 400), .inl (jm_bin (fun a b => a + b)), .inl (jm_icgt 44), .inl (jm_aload 0), .inl (jm_iload 1), .inl (jm_iload 3), .inr (.inr (174, 3, 9)), .inl (jm_ifeq 42), .inl (jm_iload 3), .inr (.inl jm_iret), .inl (jm_iinc 3 1), .inl (jm_goto 27), .inl (jm_ic (-2)), .inr (.inl jm_iret)]
def met_179 : jm_M := (hdr_179.1, hdr_179.2, [0, 1, 4, 5, 6, 9, 10, 11, 14, 15, 16, 19, 20, 21, 22, 25, 28, 29, 30, 33, 34, 35, 38, 39, 40, 41, 42, 43, 44, 45, 48, 49, 50, 53, 54, 57, 58, 59, 60, 63, 66, 67, 68, 71, 74, 76], cod_179)
abbrev cod_180 : List jm_I := [.inl (jm_aload 0), .inr (.inr (86, 1, 9)), .inl (jm_aload 0), .inl (jm_ic 1), .inr (.inr (161, 2, 9)), .inl (jm_istore 2), .inl (jm_iload 2), .inl (jm_ifeq 12), .inl (jm_aload 0), .inl (jm_iload 2), .inr (.inr (87, 2, 9)), .inr (.inl jm_iret), .inl (jm_aload 0), .inl (jm_iload 1), .inr (.inr (176, 2, 9)), .inl (jm_ifne 20), .inl (jm_aload 0), .inl (jm_ic 2), .inr (.inr (87, 2, 9)), .inr (.inl jm_iret), .inl (jm_ic 400), .inl (jm_istore 3), .inl (jm_iload 3), .inl (jm_ifle 31), .inl (jm_aload 0), .inl (jm_iload 3), .inl (jm_iload 1), .inr (.inr (174, 3, 9)), .inl (jm_ifne 31), .inl (jm_iinc 3 (-1)), .inl (jm_goto 22), .inl (jm_iload 3), .inr (.inl jm_iret)]
def met_180 : jm_M := (hdr_180.1, hdr_180.2, [0, 1, 4, 5, 6, 9, 10, 11, 14, 15, 16, 19, 20, 21, 22, 25, 28, 29, 30, 33, 34, 37, 38, 39, 42, 43, 44, 45, 48, 51, 54, 57, 58], cod_180)
abbrev cod_181 : List jm_I := [.inl (jm_aload 0), .inr (.inr (164, 1, 9)), .inl (jm_aload 0), .inr (.inr (166, 1, 9)), .inl (jm_istore 1), .inl (jm_aload 0), .inl (jm_iload 1), .inr (.inr (168, 2, 9)), .inl (jm_istore 2), .inl (jm_iload 2), .inl (jm_ifne 19), .inl (jm_iinc 1 (-1)), .inl (jm_aload 0), .inr (.inr (164, 1, 9)), .inl (jm_aload 0), .inl (jm_iload 1), .inr (.inr (168, 2, 9)), .inl (jm_istore 2), .inl (jm_goto 9), .inl (jm_iload 1), .inr (.inl jm_iret)]
def met_181 : jm_M := (hdr_181.1, hdr_181.2, [0, 1, 4, 5, 8, 9, 10, 11, 14, 15, 16, 19, 22, 23, 26, 27, 28, 31, 32, 35, 36], cod_181)
abbrev cod_182 : List jm_I := [.inl (jm_aload 0), .inr (.inr (86, 1, 9)), .inl (jm_aload 0), .inl (jm_ic 1), .inr (.inr (161, 2, 9)), .inl (jm_istore 1), .inl (jm_iload 1), .inl (jm_ifeq 12), .inl (jm_aload 0), .inl (jm_iload 1), .inr (.inr (87, 2, 9)), .inl (jm_goto 14), .inl (jm_aload 0), .inr (.inr (181, 1, 9)), .inr (.inl jm_iret)]
def met_182 : jm_M := (hdr_182.1, hdr_182.2, [0, 1, 4, 5, 6, 9, 10, 11, 14, 15, 16, 19, 22, 23, 26], cod_182)
abbrev cod_183 : List jm_I := [.inl (jm_aload 0), .inr (.inr (181, 1, 9)), .inl (jm_istore 2), .inl (jm_iload 1), .inl (jm_iload 2), .inl (jm_icge 8), .inl (jm_iload 1), .inl (jm_goto 9), .inl (jm_iload 2), .inl (jm_istore 3), .inl (jm_aload 0), .inl (jm_gS 8 41 56 (fun i => i)), .inl (jm_ic 5), .inl jm_dup2, .inl jm_iald, .inl (jm_iload 3), .inl (jm_bin (fun a b => a + b)), .inl jm_iast, .inl (jm_aload 0), .inl (jm_gS 8 41 56 (fun i => i)), .inl (jm_ic 6), .inl jm_dup2, .inl jm_iald, .inl (jm_iload 1), .inl (jm_iload 3), .inl (jm_bin (fun a b => a - b)), .inl (jm_bin (fun a b => a + b)), .inl jm_iast, .inl (jm_aload 0), .inr (.inr (164, 1, 9)), .inl (jm_aload 0), .inr (.inr (166, 1, 9)), .inl (jm_iload 3), .inl (jm_bin (fun a b => a - b)), .inl (jm_istore 4), .inl (jm_aload 0), .inr (.inr (165, 1, 9)), .inl (jm_istore 5), .inl (jm_iload 4), .inl (jm_ifle 116), .inl (jm_aload 0), .inl (jm_gS 8 41 56 (fun i => i)), .inl (jm_ic 3), .inl jm_iald, .inl (jm_ifle 116), .inl (jm_iload 4), .inl (jm_aload 0), .inl (jm_gS 8 41 56 (fun i => i)), .inl (jm_ic 10), .inl jm_iald, .inl (jm_icge 53), .inl (jm_iload 4), .inl (jm_goto 57), .inl (jm_aload 0), .inl (jm_gS 8 41 56 (fun i => i)), .inl (jm_ic 10), .inl jm_iald, .inl (jm_istore 6), .inl (jm_aload 0), .inl (jm_gS 8 41 56 (fun i => i)), .inl (jm_ic 10), .inl jm_dup2, .inl jm_iald, .inl (jm_iload 6), .inl (jm_bin (fun a b => a - b)), .inl jm_iast, .inl (jm_iload 4), .inl (jm_iload 6), .inl (jm_bin (fun a b => a - b)), .inl (jm_istore 4), .inl (jm_aload 0), .inl (jm_gS 8 41 56 (fun i => i)), .inl (jm_ic 10), .inl jm_iald, .inl (jm_ifne 115), .inl (jm_aload 0), .inl (jm_gS 8 41 56 (fun i => i)), .inl (jm_ic 19), .inl jm_iald, .inl (jm_iload 5), .inl (jm_bin (fun a b => a - b)), .inl (jm_istore 7), .inl (jm_aload 0), .inl (jm_gS 8 41 56 (fun i => i)), .inl (jm_ic 9), .inl (jm_aload 0), .inl (jm_gS 8 41 56 (fun i => i)), .inl (jm_ic 9), .inl jm_iald, .inl (jm_ic (-2)), .inl (jm_iceq 97), .inl (jm_iload 7), .inl (jm_aload 0), .inl (jm_gS 8 41 56 (fun i => i)), .inl (jm_ic 9), .inl jm_iald, .inl (jm_icge 99), .inl (jm_iload 7), .inl (jm_goto 103), .inl (jm_aload 0), .inl (jm_gS 8 41 56 (fun i => i)), .inl (jm_ic 9), .inl jm_iald, .inl jm_iast, .inl (jm_aload 0), .inl (jm_gS 8 41 56 (fun i => i)), .inl (jm_ic 4), .inl jm_dup2, .inl jm_iald, .inl (jm_ic 1), .inl (jm_bin (fun a b => a + b)), .inl jm_iast, .inl (jm_aload 0), .inl (jm_ic 0), .inr (.inr (173, 2, 9)), .inl (jm_goto 38), .inl (jm_aload 0), .inr (.inr (167, 1, 9)), .inl (jm_aload 0), .inl (jm_gS 8 41 56 (fun i => i)), .inl (jm_ic 0), .inl (jm_aload 0), .inl (jm_gI 8 44), .inl jm_iast, .inl (jm_aload 0), .inl (jm_gS 8 41 56 (fun i => i)), .inl (jm_ic 1), .inl (jm_aload 0), .inl (jm_gI 8 45), .inl jm_iast, .inl (jm_aload 0), .inl (jm_gS 8 41 56 (fun i => i)), .inl (jm_ic 2), .inl (jm_aload 0), .inl (jm_gI 8 46), .inl jm_iast, .inl (jm_aload 0), .inl (jm_gS 8 41 56 (fun i => i)), .inl (jm_ic 8), .inl jm_iald, .inl (jm_aload 0), .inl (jm_gI 8 44), .inl (jm_icne 153), .inl (jm_aload 0), .inl (jm_gS 8 41 56 (fun i => i)), .inl (jm_ic 7), .inl (jm_ic (-2)), .inl jm_iast, .inl (jm_aload 0), .inl (jm_gS 8 41 56 (fun i => i)), .inl (jm_ic 8), .inl (jm_ic (-2)), .inl jm_iast, .inl (jm_iload 3), .inr (.inl jm_iret)]
def met_183 : jm_M := (hdr_183.1, hdr_183.2, [0, 1, 4, 5, 6, 7, 10, 11, 14, 15, 16, 17, 20, 21, 22, 23, 24, 25, 26, 27, 30, 32, 33, 34, 35, 36, 37, 38, 39, 40, 43, 44, 47, 48, 49, 51, 52, 55, 57, 59, 62, 63, 66, 67, 68, 71, 73, 74, 77, 79, 80, 83, 85, 88, 89, 92, 94, 95, 97, 98, 101, 103, 104, 105, 107, 108, 109, 111, 113, 114, 116, 117, 120, 122, 123, 126, 127, 130, 132, 133, 135, 136, 138, 139, 142, 144, 145, 148, 150, 151, 153, 156, 158, 159, 162, 164, 165, 168, 170, 173, 174, 177, 179, 180, 181, 182, 185, 186, 187, 188, 189, 190, 191, 192, 193, 196, 199, 200, 203, 204, 207, 208, 209, 212, 213, 214, 217, 218, 219, 222, 223, 224, 227, 228, 229, 232, 233, 234, 237, 239, 240, 241, 244, 247, 248, 251, 253, 255, 256, 257, 260, 262, 264, 265, 266], cod_183)
abbrev cod_184 : List jm_I := [.inl (jm_aload 0), .inr (.inr (86, 1, 9)), .inl (jm_aload 0), .inl (jm_ic 1), .inr (.inr (161, 2, 9)), .inl (jm_istore 2), .inl (jm_iload 2), .inl (jm_ifeq 12), .inl (jm_aload 0), .inl (jm_iload 2), .inr (.inr (87, 2, 9)), .inr (.inl jm_iret), .inl (jm_iload 1), .inl (jm_ic 0), .inl (jm_ic 99), .inr (.inr (85, 3, 0)), .inl (jm_ifeq 21), .inl (jm_aload 0), .inl (jm_iload 1), .inr (.inr (183, 2, 9)), .inl (jm_goto 24), .inl (jm_aload 0), .inl (jm_ic 2), .inr (.inr (87, 2, 9)), .inr (.inl jm_iret)]
def met_184 : jm_M := (hdr_184.1, hdr_184.2, [0, 1, 4, 5, 6, 9, 10, 11, 14, 15, 16, 19, 20, 21, 22, 24, 27, 30, 31, 32, 35, 38, 39, 40, 43], cod_184)
abbrev cod_185 : List jm_I := [.inl (jm_aload 0), .inr (.inr (86, 1, 9)), .inl (jm_aload 0), .inl (jm_ic 1), .inr (.inr (161, 2, 9)), .inl (jm_istore 2), .inl (jm_iload 2), .inl (jm_ifeq 12), .inl (jm_aload 0), .inl (jm_iload 2), .inr (.inr (87, 2, 9)), .inr (.inl jm_iret), .inl (jm_iload 1), .inl (jm_ic 1), .inl (jm_ic 100), .inr (.inr (85, 3, 0)), .inl (jm_ifne 21), .inl (jm_aload 0), .inl (jm_ic 2), .inr (.inr (87, 2, 9)), .inr (.inl jm_iret), .inl (jm_aload 0), .inl (jm_gS 8 41 56 (fun i => i)), .inl (jm_ic 4), .inl jm_iald, .inl (jm_istore 3), .inl (jm_ic 0), .inl (jm_istore 4), .inl (jm_iload 4), .inl (jm_iload 1), .inl (jm_icge 37), .inl (jm_aload 0), .inl (jm_ic 0), .inr (.inr (183, 2, 9)), .inl jm_pop, .inl (jm_iinc 4 1), .inl (jm_goto 28), .inl (jm_aload 0), .inl (jm_gS 8 41 56 (fun i => i)), .inl (jm_ic 4), .inl jm_iald, .inl (jm_iload 3), .inl (jm_bin (fun a b => a - b)), .inr (.inl jm_iret)]
def met_185 : jm_M := (hdr_185.1, hdr_185.2, [0, 1, 4, 5, 6, 9, 10, 11, 14, 15, 16, 19, 20, 21, 22, 24, 27, 30, 31, 32, 35, 36, 37, 40, 41, 42, 43, 44, 46, 48, 49, 52, 53, 54, 57, 58, 61, 64, 65, 68, 69, 70, 71, 72], cod_185)
abbrev cod_186 : List jm_I := [.inl (jm_aload 0), .inl (jm_aload 0), .inl (jm_iload 1), .inr (.inr (113, 2, 9)), .inr (.inr (161, 2, 9)), .inl (jm_istore 2), .inl (jm_iload 2), .inl (jm_ifeq 10), .inl (jm_iload 2), .inl (jm_goto 23), .inl (jm_aload 0), .inl (jm_iload 1), .inr (.inr (144, 2, 9)), .inl (jm_ifeq 22), .inl (jm_aload 0), .inl (jm_gS 8 41 56 (fun i => i)), .inl (jm_ic 7), .inl jm_iald, .inl (jm_ic (-2)), .inl (jm_icne 22), .inl (jm_ic 0), .inl (jm_goto 23), .inl (jm_ic 5), .inr (.inl jm_iret)]
def met_186 : jm_M := (hdr_186.1, hdr_186.2, [0, 1, 2, 3, 6, 9, 10, 11, 14, 15, 18, 19, 20, 23, 26, 27, 30, 32, 33, 35, 38, 39, 42, 43], cod_186)
abbrev cod_187 : List jm_I := [.inl (jm_aload 0), .inl (jm_gS 8 41 56 (fun i => i)), .inl (jm_ic 0), .inl jm_iald, .inl (jm_istore 2), .inl (jm_aload 0), .inl (jm_gS 8 41 56 (fun i => i)), .inl (jm_ic 2), .inl jm_iald, .inl (jm_istore 3), .inl (jm_ic 0), .inl (jm_istore 4), .inl (jm_iload 4), .inl (jm_ifne 54), .inl (jm_aload 0), .inl (jm_aload 0), .inl (jm_gS 8 41 56 (fun i => i)), .inl (jm_ic 1), .inl jm_iald, .inl (jm_iload 3), .inr (.inr (158, 3, 9)), .inl (jm_ifne 30), .inl (jm_aload 0), .inl (jm_iload 1), .inl (jm_iload 2), .inr (.inr (163, 3, 9)), .inl (jm_aload 0), .inl (jm_ic 0), .inr (.inr (168, 2, 9)), .inl (jm_istore 4), .inl (jm_iload 4), .inl (jm_ifne 12), .inl (jm_iload 2), .inl (jm_aload 0), .inl (jm_gS 8 8 34 (fun i => i)), .inl (jm_aload 0), .inl (jm_gS 8 41 56 (fun i => i)), .inl (jm_ic 1), .inl jm_iald, .inl jm_iald, .inl (jm_bin (fun a b => a + b)), .inl (jm_istore 2), .inl (jm_iload 3), .inl (jm_ic 1), .inl (jm_bin (fun a b => a + b)), .inl (jm_aload 0), .inl (jm_aload 0), .inl (jm_gS 8 41 56 (fun i => i)), .inl (jm_ic 1), .inl jm_iald, .inr (.inr (145, 2, 9)), .inl jm_irem, .inl (jm_istore 3), .inl (jm_goto 12), .inl (jm_iload 2), .inr (.inl jm_iret)]
def met_187 : jm_M := (hdr_187.1, hdr_187.2, [0, 1, 4, 5, 6, 7, 8, 11, 12, 13, 14, 15, 17, 19, 22, 23, 24, 27, 28, 29, 30, 33, 36, 37, 38, 39, 42, 43, 44, 47, 49, 51, 54, 55, 56, 59, 60, 63, 64, 65, 66, 67, 68, 69, 70, 71, 72, 73, 76, 77, 78, 81, 82, 83, 86, 87], cod_187)
abbrev cod_188 : List jm_I := [.inl (jm_aload 0), .inr (.inr (86, 1, 9)), .inl (jm_aload 0), .inl (jm_iload 1), .inr (.inr (186, 2, 9)), .inl (jm_istore 2), .inl (jm_iload 2), .inl (jm_ifeq 12), .inl (jm_aload 0), .inl (jm_iload 2), .inr (.inr (87, 2, 9)), .inl (jm_goto 15), .inl (jm_aload 0), .inl (jm_iload 1), .inr (.inr (187, 2, 9)), .inr (.inl jm_iret)]
def met_188 : jm_M := (hdr_188.1, hdr_188.2, [0, 1, 4, 5, 6, 9, 10, 11, 14, 15, 16, 19, 22, 23, 24, 27], cod_188)
abbrev cod_189 : List jm_I := [.inl (jm_aload 0), .inr (.inr (86, 1, 9)), .inl (jm_aload 0), .inl (jm_iload 1), .inr (.inr (186, 2, 9)), .inl (jm_istore 2), .inl (jm_iload 2), .inl (jm_ifeq 12), .inl (jm_aload 0), .inl (jm_iload 2), .inr (.inr (87, 2, 9)), .inr (.inl jm_iret), .inl (jm_aload 0), .inl (jm_iload 1), .inr (.inr (187, 2, 9)), .inl (jm_istore 3), .inl (jm_iload 3), .inl (jm_aload 0), .inl (jm_gS 8 41 56 (fun i => i)), .inl (jm_ic 0), .inl jm_iald, .inl (jm_icne 33), .inl (jm_aload 0), .inl (jm_gS 8 41 56 (fun i => i)), .inl (jm_ic 1), .inl (jm_iload 1), .inl jm_iast, .inl (jm_aload 0), .inl (jm_gS 8 41 56 (fun i => i)), .inl (jm_ic 2), .inl (jm_ic 0), .inl jm_iast, .inl (jm_goto 43), .inl (jm_aload 0), .inl (jm_gS 8 41 56 (fun i => i)), .inl (jm_ic 7), .inl (jm_iload 1), .inl jm_iast, .inl (jm_aload 0), .inl (jm_gS 8 41 56 (fun i => i)), .inl (jm_ic 8), .inl (jm_iload 3), .inl jm_iast, .inl (jm_iload 3), .inr (.inl jm_iret)]
def met_189 : jm_M := (hdr_189.1, hdr_189.2, [0, 1, 4, 5, 6, 9, 10, 11, 14, 15, 16, 19, 20, 21, 22, 25, 26, 27, 28, 31, 32, 33, 36, 37, 40, 41, 42, 43, 44, 47, 48, 49, 50, 53, 54, 57, 59, 60, 61, 62, 65, 67, 68, 69, 70], cod_189)
abbrev cod_190 : List jm_I := [.inl (jm_aload 0), .inr (.inr (86, 1, 9)), .inl (jm_aload 0), .inl (jm_gI 8 6), .inl (jm_ifne 10), .inl (jm_aload 0), .inl (jm_ic 1), .inl (jm_pI 8 1), .inl (jm_ic 0), .inr (.inl (jm_nret .boolean)), .inl (jm_ic 0), .inl (jm_istore 1), .inl (jm_iload 1), .inl (jm_ic 28), .inl (jm_icge 25), .inl (jm_aload 0), .inl (jm_gS 8 42 57 (fun i => i)), .inl (jm_iload 1), .inl (jm_aload 0), .inl (jm_gS 8 41 56 (fun i => i)), .inl (jm_iload 1), .inl jm_iald, .inl jm_iast, .inl (jm_iinc 1 1), .inl (jm_goto 12), .inl (jm_aload 0), .inl (jm_ic 1), .inl (jm_pZ 8 43), .inl (jm_ic 1), .inr (.inl (jm_nret .boolean))]
def met_190 : jm_M := (hdr_190.1, hdr_190.2, [0, 1, 4, 5, 8, 11, 12, 13, 16, 17, 18, 19, 20, 21, 23, 26, 27, 30, 31, 32, 35, 36, 37, 38, 41, 44, 45, 46, 49, 50], cod_190)
abbrev cod_191 : List jm_I := [.inl (jm_aload 0), .inr (.inr (86, 1, 9)), .inl (jm_aload 0), .inl (jm_gI 8 43), .inl (jm_ifne 10), .inl (jm_aload 0), .inl (jm_ic 1), .inl (jm_pI 8 1), .inl (jm_ic 0), .inr (.inl (jm_nret .boolean)), .inl (jm_ic 0), .inl (jm_istore 1), .inl (jm_iload 1), .inl (jm_ic 28), .inl (jm_icge 25), .inl (jm_aload 0), .inl (jm_gS 8 41 56 (fun i => i)), .inl (jm_iload 1), .inl (jm_aload 0), .inl (jm_gS 8 42 57 (fun i => i)), .inl (jm_iload 1), .inl jm_iald, .inl jm_iast, .inl (jm_iinc 1 1), .inl (jm_goto 12), .inl (jm_ic 1), .inr (.inl (jm_nret .boolean))]
def met_191 : jm_M := (hdr_191.1, hdr_191.2, [0, 1, 4, 5, 8, 11, 12, 13, 16, 17, 18, 19, 20, 21, 23, 26, 27, 30, 31, 32, 35, 36, 37, 38, 41, 44, 45], cod_191)
abbrev cod_192 : List jm_I := [.inl (jm_aload 0), .inr (.inr (86, 1, 9)), .inl (jm_aload 0), .inl (jm_iload 1), .inr (.inr (113, 2, 9)), .inl (jm_ifeq 16), .inl (jm_iload 2), .inl (jm_ic 0), .inl (jm_aload 0), .inl (jm_gS 8 10 36 (fun i => i)), .inl (jm_iload 1), .inl jm_iald, .inl (jm_ic 1), .inl (jm_bin (fun a b => a - b)), .inr (.inr (85, 3, 0)), .inl (jm_ifne 20), .inl (jm_aload 0), .inl (jm_ic 1), .inr (.inr (87, 2, 9)), .inr (.inl jm_iret), .inl (jm_iload 3), .inl (jm_ic 1), .inl (jm_ic 60), .inr (.inr (85, 3, 0)), .inl (jm_ifne 29), .inl (jm_aload 0), .inl (jm_ic 2), .inr (.inr (87, 2, 9)), .inr (.inl jm_iret), .inl (jm_aload 0), .inl (jm_gS 8 14 40 (fun i => i)), .inl (jm_ic 6), .inl (jm_iload 1), .inl (jm_bin (fun a b => a * b)), .inl (jm_iload 2), .inl (jm_bin (fun a b => a + b)), .inl jm_iald, .inl (jm_istore 4), .inl (jm_aload 0), .inl (jm_gS 8 14 40 (fun i => i)), .inl (jm_ic 6), .inl (jm_iload 1), .inl (jm_bin (fun a b => a * b)), .inl (jm_iload 2), .inl (jm_bin (fun a b => a + b)), .inl (jm_iload 3), .inl jm_iast, .inl (jm_aload 0), .inr (.inr (160, 1, 9)), .inl (jm_iload 4), .inr (.inl jm_iret)]
def met_192 : jm_M := (hdr_192.1, hdr_192.2, [0, 1, 4, 5, 6, 9, 12, 13, 14, 15, 18, 19, 20, 21, 22, 25, 28, 29, 30, 33, 34, 35, 36, 38, 41, 44, 45, 46, 49, 50, 51, 54, 56, 57, 58, 59, 60, 61, 63, 64, 67, 69, 70, 71, 72, 73, 74, 75, 76, 79, 81], cod_192)
abbrev cod_193 : List jm_I := [.inl (jm_aload 0), .inr (.inr (86, 1, 9)), .inl (jm_aload 0), .inl (jm_iload 1), .inr (.inr (113, 2, 9)), .inl (jm_ifne 10), .inl (jm_aload 0), .inl (jm_ic 1), .inr (.inr (87, 2, 9)), .inr (.inl jm_iret), .inl (jm_iload 2), .inl (jm_ic 4), .inl (jm_ic 60), .inr (.inr (85, 3, 0)), .inl (jm_ifeq 21), .inl (jm_iload 2), .inl (jm_aload 0), .inl (jm_gS 8 9 35 (fun i => i)), .inl (jm_iload 1), .inl jm_iald, .inl (jm_icgt 25), .inl (jm_aload 0), .inl (jm_ic 2), .inr (.inr (87, 2, 9)), .inr (.inl jm_iret), .inl (jm_aload 0), .inl (jm_gS 8 8 34 (fun i => i)), .inl (jm_iload 1), .inl jm_iald, .inl (jm_istore 3), .inl (jm_aload 0), .inl (jm_gS 8 8 34 (fun i => i)), .inl (jm_iload 1), .inl (jm_iload 2), .inl jm_iast, .inl (jm_aload 0), .inl (jm_gS 8 10 36 (fun i => i)), .inl (jm_iload 1), .inl jm_iald, .inl (jm_ifne 45), .inl (jm_aload 0), .inl (jm_gS 8 11 37 (fun i => i)), .inl (jm_iload 1), .inl (jm_iload 2), .inl jm_iast, .inl (jm_aload 0), .inr (.inr (160, 1, 9)), .inl (jm_iload 3), .inr (.inl jm_iret)]
def met_193 : jm_M := (hdr_193.1, hdr_193.2, [0, 1, 4, 5, 6, 9, 12, 13, 14, 17, 18, 19, 20, 22, 25, 28, 29, 30, 33, 34, 35, 38, 39, 40, 43, 44, 45, 48, 49, 50, 51, 52, 55, 56, 57, 58, 59, 62, 63, 64, 67, 68, 71, 72, 73, 74, 75, 78, 79], cod_193)
abbrev cod_194 : List jm_I := [.inl (jm_aload 0), .inr (.inr (86, 1, 9)), .inl (jm_aload 0), .inl (jm_iload 1), .inr (.inr (113, 2, 9)), .inl (jm_ifne 10), .inl (jm_aload 0), .inl (jm_ic 1), .inr (.inr (87, 2, 9)), .inr (.inl jm_iret), .inl (jm_iload 2), .inl (jm_ic 0), .inl (jm_ic 59), .inr (.inr (85, 3, 0)), .inl (jm_ifeq 21), .inl (jm_iload 2), .inl (jm_aload 0), .inl (jm_gS 8 8 34 (fun i => i)), .inl (jm_iload 1), .inl jm_iald, .inl (jm_iclt 25), .inl (jm_aload 0), .inl (jm_ic 2), .inr (.inr (87, 2, 9)), .inr (.inl jm_iret), .inl (jm_aload 0), .inl (jm_gS 8 9 35 (fun i => i)), .inl (jm_iload 1), .inl jm_iald, .inl (jm_istore 3), .inl (jm_aload 0), .inl (jm_gS 8 9 35 (fun i => i)), .inl (jm_iload 1), .inl (jm_iload 2), .inl jm_iast, .inl (jm_aload 0), .inr (.inr (160, 1, 9)), .inl (jm_iload 3), .inr (.inl jm_iret)]
def met_194 : jm_M := (hdr_194.1, hdr_194.2, [0, 1, 4, 5, 6, 9, 12, 13, 14, 17, 18, 19, 20, 22, 25, 28, 29, 30, 33, 34, 35, 38, 39, 40, 43, 44, 45, 48, 49, 50, 51, 52, 55, 56, 57, 58, 59, 62, 63], cod_194)
abbrev cod_195 : List jm_I := [.inl (jm_aload 0), .inl (jm_iload 1), .inr (.inr (113, 2, 9)), .inl (jm_ifne 6), .inl (jm_ic 1), .inl (jm_goto 19), .inl (jm_iload 2), .inl (jm_ic 0), .inl (jm_ic 100000), .inr (.inr (85, 3, 0)), .inl (jm_ifeq 18), .inl (jm_iload 3), .inl (jm_ic 1), .inl (jm_ic 100000), .inr (.inr (85, 3, 0)), .inl (jm_ifeq 18), .inl (jm_ic 0), .inl (jm_goto 19), .inl (jm_ic 2), .inr (.inl jm_iret)]
def met_195 : jm_M := (hdr_195.1, hdr_195.2, [0, 1, 2, 5, 8, 9, 12, 13, 14, 17, 20, 23, 24, 25, 28, 31, 34, 35, 38, 39], cod_195)
abbrev cod_196 : List jm_I := [.inl (jm_aload 0), .inr (.inr (86, 1, 9)), .inl (jm_aload 0), .inl (jm_iload 1), .inl (jm_iload 2), .inl (jm_iload 3), .inr (.inr (195, 4, 9)), .inl (jm_istore 4), .inl (jm_iload 4), .inl (jm_ifeq 15), .inl (jm_aload 0), .inl (jm_iload 4), .inr (.inr (87, 2, 9)), .inl jm_i2l, .inr (.inl jm_lret), .inl (jm_iload 2), .inl (jm_aload 0), .inl (jm_gS 8 8 34 (fun i => i)), .inl (jm_iload 1), .inl jm_iald, .inl (jm_bin (fun a b => a * b)), .inl jm_i2d, .inl (jm_dstore 5), .inl (jm_dload 5), .inl (jm_dc 4652007308841189376), .inl (jm_iload 3), .inl jm_i2d, .inl (jm_dbin FP.ddiv), .inl (jm_dbin FP.ddiv), .inl jm_d2l, .inr (.inl jm_lret)]
def met_196 : jm_M := (hdr_196.1, hdr_196.2, [0, 1, 4, 5, 6, 7, 8, 11, 13, 15, 18, 19, 21, 24, 25, 26, 27, 28, 31, 32, 33, 34, 35, 37, 39, 42, 43, 44, 45, 46, 47], cod_196)
abbrev cod_197 : List jm_I := [.inl (jm_aload 0), .inr (.inr (86, 1, 9)), .inl (jm_aload 0), .inl (jm_iload 1), .inl (jm_iload 2), .inl (jm_iload 3), .inr (.inr (195, 4, 9)), .inl (jm_istore 4), .inl (jm_iload 4), .inl (jm_ifeq 14), .inl (jm_aload 0), .inl (jm_iload 4), .inr (.inr (87, 2, 9)), .inr (.inl jm_iret), .inl (jm_iload 2), .inl (jm_aload 0), .inl (jm_gS 8 8 34 (fun i => i)), .inl (jm_iload 1), .inl jm_iald, .inl (jm_bin (fun a b => a * b)), .inl jm_i2d, .inl (jm_dstore 5), .inl (jm_dload 5), .inl (jm_dc 4652007308841189376), .inl (jm_iload 3), .inl jm_i2d, .inl (jm_dbin FP.ddiv), .inl (jm_dbin FP.drem), .inl jm_d2f, .inr (.inr (4, 1, 0)), .inr (.inl jm_iret)]
def met_197 : jm_M := (hdr_197.1, hdr_197.2, [0, 1, 4, 5, 6, 7, 8, 11, 13, 15, 18, 19, 21, 24, 25, 26, 27, 30, 31, 32, 33, 34, 36, 38, 41, 42, 43, 44, 45, 46, 49], cod_197)
abbrev cod_198 : List jm_I := [.inl (jm_aload 0), .inl (jm_ic 0), .inl (jm_pI 8 0), .inl (jm_ic 0), .inl (jm_istore 2), .inl (jm_aload 0), .inl (jm_gI 8 6), .inl (jm_ifle 17), .inl (jm_aload 0), .inl (jm_aload 0), .inl (jm_gS 8 41 56 (fun i => i)), .inl (jm_ic 1), .inl jm_iald, .inr (.inr (144, 2, 9)), .inl (jm_ifeq 17), .inl (jm_ic 1), .inl (jm_goto 18), .inl (jm_ic 0), .inl (jm_istore 3), .inl (jm_ic 0), .inl (jm_istore 4), .inl (jm_iload 3), .inl (jm_ifeq 67), .inl (jm_iload 4), .inl (jm_aload 0), .inl (jm_aload 0), .inl (jm_gS 8 41 56 (fun i => i)), .inl (jm_ic 1), .inl jm_iald, .inr (.inr (145, 2, 9)), .inl (jm_icge 67), .inl (jm_ic 0), .inl (jm_istore 5), .inl (jm_ic 0), .inl (jm_istore 6), .inl (jm_iload 6), .inl (jm_aload 0), .inl (jm_gS 8 23 42 (fun i => i)), .inl (jm_aload 0), .inl (jm_gS 8 41 56 (fun i => i)), .inl (jm_ic 1), .inl jm_iald, .inl jm_iald, .inl (jm_icge 57), .inl (jm_iload 5), .inl (jm_aload 0), .inl (jm_aload 0), .inl (jm_gS 8 41 56 (fun i => i)), .inl (jm_ic 1), .inl jm_iald, .inl (jm_iload 6), .inl (jm_iload 4), .inr (.inr (146, 4, 9)), .inl (jm_bin (fun a b => a + b)), .inl (jm_istore 5), .inl (jm_iinc 6 1), .inl (jm_goto 35), .inl (jm_iload 5), .inl (jm_ifne 65), .inl (jm_iload 2), .inl (jm_iload 1), .inl (jm_icne 64), .inl (jm_iload 4), .inr (.inl jm_iret), .inl (jm_iinc 2 1), .inl (jm_iinc 4 1), .inl (jm_goto 21), .inl (jm_aload 0), .inl (jm_ic 1), .inl (jm_pI 8 0), .inl (jm_ic 0), .inr (.inl jm_iret)]
def met_198 : jm_M := (hdr_198.1, hdr_198.2, [0, 1, 2, 5, 6, 7, 8, 11, 14, 15, 16, 19, 20, 21, 24, 27, 28, 31, 32, 33, 34, 36, 37, 40, 42, 43, 44, 47, 48, 49, 52, 55, 56, 58, 59, 61, 63, 64, 67, 68, 71, 72, 73, 74, 77, 79, 80, 81, 84, 85, 86, 88, 90, 93, 94, 96, 99, 102, 104, 107, 108, 109, 112, 114, 115, 118, 121, 124, 125, 126, 129, 130], cod_198)
abbrev cod_199 : List jm_I := [.inl (jm_aload 0), .inl (jm_ic 0), .inl (jm_pI 8 0), .inl (jm_ic 0), .inl (jm_istore 2), .inl (jm_ic 0), .inl (jm_istore 3), .inl (jm_ic 0), .inl (jm_istore 4), .inl (jm_iload 4), .inl (jm_aload 0), .inl (jm_gI 8 6), .inl (jm_icge 29), .inl (jm_iload 2), .inl (jm_aload 0), .inl (jm_gS 8 10 36 (fun i => i)), .inl (jm_iload 4), .inl jm_iald, .inl (jm_bin (fun a b => a + b)), .inl (jm_istore 2), .inl (jm_iload 3), .inl (jm_aload 0), .inl (jm_gS 8 23 42 (fun i => i)), .inl (jm_iload 4), .inl jm_iald, .inl (jm_bin (fun a b => a + b)), .inl (jm_istore 3), .inl (jm_iinc 4 1), .inl (jm_goto 9), .inl (jm_iload 1), .inl (jm_tsw 0 [31, 34, 36, 38, 41] 48), .inl (jm_aload 0), .inl (jm_gI 8 6), .inr (.inl jm_iret), .inl (jm_iload 2), .inr (.inl jm_iret), .inl (jm_iload 3), .inr (.inl jm_iret), .inl (jm_aload 0), .inl (jm_gI 8 5), .inr (.inl jm_iret), .inl (jm_aload 0), .inl (jm_gI 8 43), .inl (jm_ifeq 46), .inl (jm_ic 1), .inl (jm_goto 47), .inl (jm_ic 0), .inr (.inl jm_iret), .inl (jm_ic (-1)), .inr (.inl jm_iret)]
def met_199 : jm_M := (hdr_199.1, hdr_199.2, [0, 1, 2, 5, 6, 7, 8, 9, 10, 12, 14, 15, 18, 21, 22, 23, 26, 28, 29, 30, 31, 32, 33, 36, 38, 39, 40, 41, 44, 47, 48, 84, 85, 88, 89, 90, 91, 92, 93, 94, 97, 98, 99, 102, 105, 106, 109, 110, 111, 112], cod_199)
abbrev cod_200 : List jm_I := [.inl (jm_aload 0), .inl (jm_ic 0), .inl (jm_pI 8 0), .inl (jm_aload 0), .inl (jm_gI 8 1), .inr (.inl jm_iret)]
def met_200 : jm_M := (hdr_200.1, hdr_200.2, [0, 1, 2, 5, 6, 9], cod_200)
abbrev cod_201 : List jm_I := [.inl (jm_aload 0), .inl (jm_ic 0), .inl (jm_pI 0 0), .inl (jm_aload 0), .inl (jm_ic 0), .inl (jm_pI 0 1), .inl (jm_aload 0), .inl (jm_ic 0), .inl (jm_pI 0 2), .inl (jm_aload 0), .inl (jm_ic 0), .inl (jm_pI 0 3), .inl (jm_aload 0), .inl (jm_ic 0), .inl (jm_pI 0 4), .inl (jm_aload 0), .inl (jm_ic 0), .inl (jm_pI 0 5), .inl (jm_aload 0), .inl (jm_ic 0), .inl (jm_pI 0 6), .inl (jm_aload 0), .inl (jm_ic (-2)), .inl (jm_pI 0 7), .inl (jm_aload 0), .inl (jm_ic (-2)), .inl (jm_pI 0 8), .inl (jm_aload 0), .inl (jm_ic (-2)), .inl (jm_pI 0 9), .inr (.inl jm_vret)]
def met_201 : jm_M := (hdr_201.1, hdr_201.2, [0, 1, 2, 5, 6, 7, 10, 11, 12, 15, 16, 17, 20, 21, 22, 25, 26, 27, 30, 31, 32, 35, 36, 38, 41, 42, 44, 47, 48, 50, 53], cod_201)
abbrev cod_202 : List jm_I := [.inl (jm_aload 0), .inl (jm_aload 1), .inl (jm_gI 0 0), .inl (jm_pI 0 0), .inl (jm_aload 0), .inl (jm_aload 1), .inl (jm_gI 0 1), .inl (jm_pI 0 1), .inl (jm_aload 0), .inl (jm_aload 1), .inl (jm_gI 0 2), .inl (jm_pI 0 2), .inl (jm_aload 0), .inl (jm_aload 1), .inl (jm_gI 0 3), .inl (jm_pI 0 3), .inl (jm_aload 0), .inl (jm_aload 1), .inl (jm_gI 0 4), .inl (jm_pI 0 4), .inl (jm_aload 0), .inl (jm_aload 1), .inl (jm_gI 0 5), .inl (jm_pI 0 5), .inl (jm_aload 0), .inl (jm_aload 1), .inl (jm_gI 0 6), .inl (jm_pI 0 6), .inl (jm_aload 0), .inl (jm_aload 1), .inl (jm_gI 0 7), .inl (jm_pI 0 7), .inl (jm_aload 0), .inl (jm_aload 1), .inl (jm_gI 0 8), .inl (jm_pI 0 8), .inl (jm_aload 0), .inl (jm_aload 1), .inl (jm_gI 0 9), .inl (jm_pI 0 9), .inl (jm_aload 1), .inl (jm_gS 0 10 10 (fun i => i)), .inl (jm_ic 0), .inl (jm_aload 0), .inl (jm_gS 0 10 10 (fun i => i)), .inl (jm_ic 0), .inl (jm_ic 8), .inl jm_acopy, .inl (jm_aload 1), .inl (jm_gS 0 11 11 (fun i => i)), .inl (jm_ic 0), .inl (jm_aload 0), .inl (jm_gS 0 11 11 (fun i => i)), .inl (jm_ic 0), .inl (jm_ic 8), .inl jm_acopy, .inr (.inl jm_vret)]
def met_202 : jm_M := (hdr_202.1, hdr_202.2, [0, 1, 2, 5, 8, 9, 10, 13, 16, 17, 18, 21, 24, 25, 26, 29, 32, 33, 34, 37, 40, 41, 42, 45, 48, 49, 50, 53, 56, 57, 58, 61, 64, 65, 66, 69, 72, 73, 74, 77, 80, 81, 84, 85, 86, 89, 90, 92, 95, 96, 99, 100, 101, 104, 105, 107, 110], cod_202)
abbrev cod_203 : List jm_I := [.inl (jm_iload 1), .inl (jm_tsw 0 [2, 5, 8, 11, 14, 17, 20, 23, 26] 29), .inl (jm_aload 0), .inl (jm_gI 0 0), .inr (.inl jm_iret), .inl (jm_aload 0), .inl (jm_gI 0 1), .inr (.inl jm_iret), .inl (jm_aload 0), .inl (jm_gI 0 2), .inr (.inl jm_iret), .inl (jm_aload 0), .inl (jm_gI 0 3), .inr (.inl jm_iret), .inl (jm_aload 0), .inl (jm_gI 0 4), .inr (.inl jm_iret), .inl (jm_aload 0), .inl (jm_gI 0 5), .inr (.inl jm_iret), .inl (jm_aload 0), .inl (jm_gI 0 6), .inr (.inl jm_iret), .inl (jm_aload 0), .inl (jm_gI 0 7), .inr (.inl jm_iret), .inl (jm_aload 0), .inl (jm_gI 0 8), .inr (.inl jm_iret), .inl (jm_aload 0), .inl (jm_gI 0 9), .inr (.inl jm_iret)]
def met_203 : jm_M := (hdr_203.1, hdr_203.2, [0, 1, 52, 53, 56, 57, 58, 61, 62, 63, 66, 67, 68, 71, 72, 73, 76, 77, 78, 81, 82, 83, 86, 87, 88, 91, 92, 93, 96, 97, 98, 101], cod_203)
abbrev cod_204 : List jm_I := [.inl (jm_aload 0), .inl (jm_gI 0 7), .inl (jm_iflt 5), .inl (jm_ic 1), .inl (jm_goto 6), .inl (jm_ic 0), .inr (.inl (jm_nret .boolean))]
def met_204 : jm_M := (hdr_204.1, hdr_204.2, [0, 1, 4, 7, 8, 11, 12], cod_204)
abbrev cod_205 : List jm_I := [.inl (jm_ic 0), .inl (jm_istore 2), .inl (jm_ic 0), .inl (jm_istore 3), .inl (jm_iload 3), .inl (jm_iload 1), .inl (jm_icgt 20), .inl (jm_iload 3), .inl (jm_aload 0), .inl (jm_gI 0 3), .inl (jm_icge 20), .inl (jm_iload 2), .inl (jm_aload 0), .inl (jm_gS 0 10 10 (fun i => i)), .inl (jm_iload 3), .inl jm_iald, .inl (jm_bin (fun a b => a + b)), .inl (jm_istore 2), .inl (jm_iinc 3 1), .inl (jm_goto 4), .inl (jm_iload 2), .inr (.inl jm_iret)]
def met_205 : jm_M := (hdr_205.1, hdr_205.2, [0, 1, 2, 3, 4, 5, 6, 9, 10, 11, 14, 17, 18, 19, 22, 23, 24, 25, 26, 29, 32, 33], cod_205)
abbrev cod_206 : List jm_I := [.inl (jm_aload 0), .inl (jm_gI 0 3), .inl (jm_ic 8), .inl (jm_iclt 6), .inl (jm_ic (-1)), .inr (.inl jm_iret), .inl (jm_aload 0), .inl (jm_gI 0 3), .inl (jm_istore 3), .inl (jm_aload 0), .inl (jm_gI 0 3), .inl (jm_istore 4), .inl (jm_iload 4), .inl (jm_ifle 48), .inl (jm_aload 0), .inl (jm_gS 0 11 11 (fun i => i)), .inl (jm_iload 4), .inl (jm_ic 1), .inl (jm_bin (fun a b => a - b)), .inl jm_iald, .inl (jm_iload 2), .inl (jm_icle 48), .inl (jm_aload 0), .inl (jm_gS 0 10 10 (fun i => i)), .inl (jm_iload 4), .inl (jm_aload 0), .inl (jm_gS 0 10 10 (fun i => i)), .inl (jm_iload 4), .inl (jm_ic 1), .inl (jm_bin (fun a b => a - b)), .inl jm_iald, .inl jm_iast, .inl (jm_aload 0), .inl (jm_gS 0 11 11 (fun i => i)), .inl (jm_iload 4), .inl (jm_aload 0), .inl (jm_gS 0 11 11 (fun i => i)), .inl (jm_iload 4), .inl (jm_ic 1), .inl (jm_bin (fun a b => a - b)), .inl jm_iald, .inl jm_iast, .inl (jm_iload 4), .inl (jm_ic 1), .inl (jm_bin (fun a b => a - b)), .inl (jm_istore 3), .inl (jm_iinc 4 (-1)), .inl (jm_goto 12), .inl (jm_aload 0), .inl (jm_gS 0 10 10 (fun i => i)), .inl (jm_iload 3), .inl (jm_iload 1), .inl jm_iast, .inl (jm_aload 0), .inl (jm_gS 0 11 11 (fun i => i)), .inl (jm_iload 3), .inl (jm_iload 2), .inl jm_iast, .inl (jm_aload 0), .inl jm_dup, .inl (jm_gI 0 3), .inl (jm_ic 1), .inl (jm_bin (fun a b => a + b)), .inl (jm_pI 0 3), .inl (jm_iload 3), .inr (.inl jm_iret)]
def met_206 : jm_M := (hdr_206.1, hdr_206.2, [0, 1, 4, 6, 9, 10, 11, 12, 15, 16, 17, 20, 22, 24, 27, 28, 31, 33, 34, 35, 36, 37, 40, 41, 44, 46, 47, 50, 52, 53, 54, 55, 56, 57, 60, 62, 63, 66, 68, 69, 70, 71, 72, 74, 75, 76, 77, 80, 83, 84, 87, 88, 89, 90, 91, 94, 95, 96, 97, 98, 99, 102, 103, 104, 107, 108], cod_206)
abbrev cod_207 : List jm_I := [.inl (jm_aload 0), .inl jm_dup, .inl (jm_gI 0 0), .inl (jm_iload 2), .inl (jm_bin (fun a b => a + b)), .inl (jm_pI 0 0), .inl (jm_aload 0), .inl (jm_aload 0), .inl (jm_gI 0 2), .inl (jm_ic 1), .inl (jm_bin (fun a b => a + b)), .inl (jm_iload 3), .inl (jm_icge 18), .inl (jm_aload 0), .inl (jm_gI 0 2), .inl (jm_ic 1), .inl (jm_bin (fun a b => a + b)), .inl (jm_goto 19), .inl (jm_ic 0), .inl (jm_pI 0 2), .inl (jm_iload 1), .inl (jm_istore 4), .inl (jm_ic 0), .inl (jm_istore 5), .inl (jm_ic 0), .inl (jm_istore 6), .inl (jm_iload 6), .inl (jm_aload 0), .inl (jm_gI 0 3), .inl (jm_icge 66), .inl (jm_iload 4), .inl (jm_aload 0), .inl (jm_gS 0 10 10 (fun i => i)), .inl (jm_iload 6), .inl jm_iald, .inl jm_min, .inl (jm_istore 7), .inl (jm_aload 0), .inl (jm_gS 0 10 10 (fun i => i)), .inl (jm_iload 6), .inl jm_dup2, .inl jm_iald, .inl (jm_iload 7), .inl (jm_bin (fun a b => a - b)), .inl jm_iast, .inl (jm_iload 4), .inl (jm_iload 7), .inl (jm_bin (fun a b => a - b)), .inl (jm_istore 4), .inl (jm_aload 0), .inl (jm_gS 0 10 10 (fun i => i)), .inl (jm_iload 6), .inl jm_iald, .inl (jm_ifne 64), .inl (jm_aload 0), .inl (jm_aload 0), .inl (jm_gS 0 11 11 (fun i => i)), .inl (jm_iload 6), .inl jm_iald, .inl (jm_aload 0), .inl (jm_gI 0 0), .inl (jm_bin (fun a b => a - b)), .inr (.inr (208, 2, 1)), .inl (jm_iinc 5 1), .inl (jm_iinc 6 1), .inl (jm_goto 26), .inl (jm_aload 0), .inl (jm_iload 5), .inr (.inr (209, 2, 1)), .inl (jm_aload 0), .inr (.inr (210, 1, 1)), .inr (.inl jm_vret)]
def met_207 : jm_M := (hdr_207.1, hdr_207.2, [0, 1, 2, 5, 6, 7, 10, 11, 12, 15, 16, 17, 18, 21, 22, 25, 26, 27, 30, 31, 34, 35, 37, 38, 40, 41, 43, 45, 46, 49, 52, 54, 55, 58, 60, 61, 64, 66, 67, 70, 72, 73, 74, 76, 77, 78, 80, 82, 83, 85, 86, 89, 91, 92, 95, 96, 97, 100, 102, 103, 104, 107, 108, 111, 114, 117, 120, 121, 123, 126, 127, 130], cod_207)
abbrev cod_208 : List jm_I := [.inl (jm_aload 0), .inl jm_dup, .inl (jm_gI 0 4), .inl (jm_ic 1), .inl (jm_bin (fun a b => a + b)), .inl (jm_pI 0 4), .inl (jm_aload 0), .inl (jm_gI 0 9), .inl (jm_ic (-2)), .inl (jm_iceq 14), .inl (jm_iload 1), .inl (jm_aload 0), .inl (jm_gI 0 9), .inl (jm_icge 17), .inl (jm_aload 0), .inl (jm_iload 1), .inl (jm_pI 0 9), .inr (.inl jm_vret)]
def met_208 : jm_M := (hdr_208.1, hdr_208.2, [0, 1, 2, 5, 6, 7, 10, 11, 14, 16, 19, 20, 21, 24, 27, 28, 29, 32], cod_208)
abbrev cod_209 : List jm_I := [.inl (jm_iload 1), .inl (jm_istore 2), .inl (jm_iload 2), .inl (jm_aload 0), .inl (jm_gI 0 3), .inl (jm_icge 28), .inl (jm_aload 0), .inl (jm_gS 0 10 10 (fun i => i)), .inl (jm_iload 2), .inl (jm_iload 1), .inl (jm_bin (fun a b => a - b)), .inl (jm_aload 0), .inl (jm_gS 0 10 10 (fun i => i)), .inl (jm_iload 2), .inl jm_iald, .inl jm_iast, .inl (jm_aload 0), .inl (jm_gS 0 11 11 (fun i => i)), .inl (jm_iload 2), .inl (jm_iload 1), .inl (jm_bin (fun a b => a - b)), .inl (jm_aload 0), .inl (jm_gS 0 11 11 (fun i => i)), .inl (jm_iload 2), .inl jm_iald, .inl jm_iast, .inl (jm_iinc 2 1), .inl (jm_goto 2), .inl (jm_aload 0), .inl jm_dup, .inl (jm_gI 0 3), .inl (jm_iload 1), .inl (jm_bin (fun a b => a - b)), .inl (jm_pI 0 3), .inr (.inl jm_vret)]
def met_209 : jm_M := (hdr_209.1, hdr_209.2, [0, 1, 2, 3, 4, 7, 10, 11, 14, 15, 16, 17, 18, 21, 22, 23, 24, 25, 28, 29, 30, 31, 32, 35, 36, 37, 38, 41, 44, 45, 46, 49, 50, 51, 54], cod_209)
abbrev cod_210 : List jm_I := [.inl (jm_aload 0), .inr (.inr (204, 1, 1)), .inl (jm_ifeq 21), .inl (jm_aload 0), .inl (jm_gI 0 8), .inl (jm_aload 0), .inl (jm_gI 0 0), .inl (jm_icne 21), .inl (jm_aload 0), .inl (jm_aload 0), .inl (jm_gI 0 7), .inl (jm_pI 0 1), .inl (jm_aload 0), .inl (jm_ic 0), .inl (jm_pI 0 2), .inl (jm_aload 0), .inl (jm_ic (-2)), .inl (jm_pI 0 7), .inl (jm_aload 0), .inl (jm_ic (-2)), .inl (jm_pI 0 8), .inr (.inl jm_vret)]
def met_210 : jm_M := (hdr_210.1, hdr_210.2, [0, 1, 4, 7, 8, 11, 12, 15, 18, 19, 20, 23, 26, 27, 28, 31, 32, 34, 37, 38, 40, 43], cod_210)
abbrev cod_211 : List jm_I := [.inl (jm_aload 0), .inl (jm_ic 1), .inl (jm_iload 2), .inl jm_max, .inl (jm_pI 1 0), .inl (jm_aload 0), .inl (jm_ic 0), .inl (jm_iload 2), .inl (jm_iload 3), .inl (jm_bin (fun a b => a - b)), .inl jm_max, .inl (jm_pI 1 1), .inl (jm_aload 0), .inl (jm_ic 24), .inl (jm_aload 1), .inr (.inr (229, 1, 3)), .inl (jm_aload 0), .inl (jm_gI 1 0), .inl jm_idiv, .inl jm_min, .inl (jm_pI 1 2), .inl (jm_aload 0), .inl (jm_ic 24), .inl (jm_aload 1), .inl (jm_gI 2 3), .inl jm_min, .inl (jm_pI 1 3), .inl (jm_ic 0), .inl (jm_istore 4), .inl (jm_iload 4), .inl (jm_aload 0), .inl (jm_gI 1 3), .inl (jm_icge 107), .inl (jm_aload 0), .inl (jm_gS 1 4 12 (fun i => i)), .inl (jm_iload 4), .inl (jm_aload 1), .inl (jm_gS 2 9 26 (fun i => i)), .inl (jm_iload 4), .inl jm_iald, .inl jm_iast, .inl (jm_aload 0), .inl (jm_gS 1 5 13 (fun i => i)), .inl (jm_iload 4), .inl (jm_aload 1), .inl (jm_gS 2 10 27 (fun i => i)), .inl (jm_iload 4), .inl jm_iald, .inl jm_iast, .inl (jm_aload 0), .inl (jm_gS 1 6 14 (fun i => i)), .inl (jm_iload 4), .inl (jm_aload 0), .inl (jm_gS 1 5 13 (fun i => i)), .inl (jm_iload 4), .inl jm_iald, .inl (jm_aload 1), .inl (jm_gS 2 8 25 (fun i => i)), .inl (jm_aload 0), .inl (jm_gS 1 4 12 (fun i => i)), .inl (jm_iload 4), .inl jm_iald, .inl jm_iald, .inl (jm_bin (fun a b => a + b)), .inl jm_iast, .inl (jm_aload 0), .inl (jm_gS 1 7 15 (fun i => i)), .inl (jm_iload 4), .inl (jm_aload 1), .inl (jm_gS 2 7 24 (fun i => i)), .inl (jm_aload 0), .inl (jm_gS 1 4 12 (fun i => i)), .inl (jm_iload 4), .inl jm_iald, .inl jm_iald, .inl jm_iast, .inl (jm_aload 0), .inl (jm_gS 1 8 16 (fun i => i)), .inl (jm_iload 4), .inl (jm_aload 0), .inl (jm_gS 1 5 13 (fun i => i)), .inl (jm_iload 4), .inl jm_iald, .inl (jm_aload 0), .inl (jm_gI 1 0), .inl (jm_bin (fun a b => a + b)), .inl (jm_ic 1), .inl (jm_bin (fun a b => a - b)), .inl (jm_aload 0), .inl (jm_gI 1 0), .inl jm_idiv, .inl jm_iast, .inl (jm_aload 0), .inl (jm_gS 1 9 17 (fun i => i)), .inl (jm_iload 4), .inl (jm_aload 0), .inl (jm_gS 1 6 14 (fun i => i)), .inl (jm_iload 4), .inl jm_iald, .inl (jm_aload 0), .inl (jm_gI 1 0), .inl jm_idiv, .inl (jm_ic 1), .inl (jm_bin (fun a b => a - b)), .inl jm_iast, .inl (jm_iinc 4 1), .inl (jm_goto 29), .inr (.inl jm_vret)]
def met_211 : jm_M := (hdr_211.1, hdr_211.2, [0, 1, 2, 3, 6, 9, 10, 11, 12, 13, 14, 17, 20, 21, 23, 24, 27, 28, 31, 32, 35, 38, 39, 41, 42, 45, 48, 51, 52, 54, 56, 57, 60, 63, 64, 67, 69, 70, 73, 75, 76, 77, 78, 81, 83, 84, 87, 89, 90, 91, 92, 95, 97, 98, 101, 103, 104, 105, 108, 109, 112, 114, 115, 116, 117, 118, 119, 122, 124, 125, 128, 129, 132, 134, 135, 136, 137, 138, 141, 143, 144, 147, 149, 150, 151, 154, 155, 156, 157, 158, 161, 162, 163, 164, 167, 169, 170, 173, 175, 176, 177, 180, 181, 182, 183, 184, 187, 190], cod_211)
abbrev cod_212 : List jm_I := [.inl (jm_aload 0), .inl (jm_gS 1 8 16 (fun i => i)), .inl (jm_iload 1), .inl jm_iald, .inl (jm_aload 0), .inl (jm_gS 1 9 17 (fun i => i)), .inl (jm_iload 1), .inl jm_iald, .inl (jm_icle 11), .inl (jm_ic 1), .inl (jm_goto 12), .inl (jm_ic 0), .inr (.inl (jm_nret .boolean))]
def met_212 : jm_M := (hdr_212.1, hdr_212.2, [0, 1, 4, 5, 6, 7, 10, 11, 12, 15, 16, 19, 20], cod_212)
abbrev cod_213 : List jm_I := [.inl (jm_ic 0), .inl (jm_istore 1), .inl (jm_iload 1), .inl (jm_aload 0), .inl (jm_gI 1 3), .inl (jm_icge 14), .inl (jm_aload 0), .inl (jm_iload 1), .inr (.inr (212, 2, 2)), .inl (jm_ifeq 12), .inl (jm_ic 1), .inr (.inl (jm_nret .boolean)), .inl (jm_iinc 1 1), .inl (jm_goto 2), .inl (jm_ic 0), .inr (.inl (jm_nret .boolean))]
def met_213 : jm_M := (hdr_213.1, hdr_213.2, [0, 1, 2, 3, 4, 7, 10, 11, 12, 15, 18, 19, 20, 23, 26, 27], cod_213)
abbrev cod_214 : List jm_I := [.inl (jm_ic 0), .inl (jm_istore 1), .inl (jm_ic 0), .inl (jm_istore 2), .inl (jm_iload 2), .inl (jm_aload 0), .inl (jm_gI 1 3), .inl (jm_icge 17), .inl (jm_iload 1), .inl (jm_aload 0), .inl (jm_gS 1 7 15 (fun i => i)), .inl (jm_iload 2), .inl jm_iald, .inl (jm_bin (fun a b => a + b)), .inl (jm_istore 1), .inl (jm_iinc 2 1), .inl (jm_goto 4), .inl (jm_iload 1), .inr (.inl jm_iret)]
def met_214 : jm_M := (hdr_214.1, hdr_214.2, [0, 1, 2, 3, 4, 5, 6, 9, 12, 13, 14, 17, 18, 19, 20, 21, 24, 27, 28], cod_214)
abbrev cod_215 : List jm_I := [.inl (jm_aload 1), .inl (jm_aload 0), .inl (jm_gI 1 0), .inr (.inr (230, 2, 3)), .inl (jm_ifeq 13), .inl (jm_aload 0), .inr (.inr (213, 1, 2)), .inl (jm_ifne 13), .inl (jm_aload 0), .inr (.inr (216, 1, 2)), .inl (jm_ifeq 13), .inl (jm_ic 1), .inl (jm_goto 14), .inl (jm_ic 0), .inr (.inl (jm_nret .boolean))]
def met_215 : jm_M := (hdr_215.1, hdr_215.2, [0, 1, 2, 5, 8, 11, 12, 15, 18, 19, 22, 25, 26, 29, 30], cod_215)
abbrev cod_216 : List jm_I := [.inl (jm_aload 0), .inr (.inr (219, 1, 2)), .inl (jm_aload 0), .inr (.inr (214, 1, 2)), .inl (jm_icne 7), .inl (jm_ic 1), .inl (jm_goto 8), .inl (jm_ic 0), .inr (.inl (jm_nret .boolean))]
def met_216 : jm_M := (hdr_216.1, hdr_216.2, [0, 1, 4, 5, 8, 11, 12, 15, 16], cod_216)
abbrev cod_217 : List jm_I := [.inl (jm_ic 0), .inl (jm_istore 3), .inl (jm_iload 3), .inl (jm_aload 0), .inl (jm_gI 1 3), .inl (jm_icge 19), .inl (jm_aload 0), .inl (jm_gS 1 4 12 (fun i => i)), .inl (jm_iload 3), .inl jm_iald, .inl (jm_iload 1), .inl (jm_icne 17), .inl (jm_aload 0), .inl (jm_gS 1 7 15 (fun i => i)), .inl (jm_iload 3), .inl (jm_iload 2), .inl jm_iast, .inl (jm_iinc 3 1), .inl (jm_goto 2), .inl (jm_aload 0), .inr (.inr (216, 1, 2)), .inr (.inl (jm_nret .boolean))]
def met_217 : jm_M := (hdr_217.1, hdr_217.2, [0, 1, 2, 3, 4, 7, 10, 11, 14, 15, 16, 17, 20, 21, 24, 25, 26, 27, 30, 33, 34, 37], cod_217)
abbrev cod_218 : List jm_I := [.inl (jm_ic 0), .inl (jm_istore 1), .inl (jm_iload 1), .inl (jm_aload 0), .inl (jm_gI 1 2), .inl (jm_icge 14), .inl (jm_aload 0), .inl (jm_gS 1 11 19 (fun i => i)), .inl (jm_iload 1), .inl (jm_aload 0), .inl (jm_gI 1 1), .inl jm_iast, .inl (jm_iinc 1 1), .inl (jm_goto 2), .inl (jm_ic 0), .inl (jm_istore 1), .inl (jm_iload 1), .inl (jm_aload 0), .inl (jm_gI 1 3), .inl (jm_icge 36), .inl (jm_aload 0), .inl (jm_gS 1 10 18 (fun i => i)), .inl (jm_iload 1), .inl (jm_aload 0), .inl (jm_gS 1 7 15 (fun i => i)), .inl (jm_iload 1), .inl jm_iald, .inl jm_iast, .inl (jm_aload 0), .inl (jm_gS 1 12 20 (fun i => i)), .inl (jm_iload 1), .inl jm_aald, .inl (jm_ic 0), .inr (.inr (0, 2, 0)), .inl (jm_iinc 1 1), .inl (jm_goto 16), .inr (.inl jm_vret)]
def met_218 : jm_M := (hdr_218.1, hdr_218.2, [0, 1, 2, 3, 4, 7, 10, 11, 14, 15, 16, 19, 20, 23, 26, 27, 28, 29, 30, 33, 36, 37, 40, 41, 42, 45, 46, 47, 48, 49, 52, 53, 54, 55, 58, 61, 64], cod_218)
abbrev cod_219 : List jm_I := [.inl (jm_aload 0), .inr (.inr (218, 1, 2)), .inl (jm_ic 0), .inl (jm_istore 1), .inl (jm_ic 0), .inl (jm_istore 2), .inl (jm_iload 2), .inl (jm_aload 0), .inl (jm_gI 1 2), .inl (jm_icge 18), .inl (jm_iload 1), .inl (jm_aload 0), .inl (jm_iload 2), .inr (.inr (220, 2, 2)), .inl (jm_bin (fun a b => a + b)), .inl (jm_istore 1), .inl (jm_iinc 2 1), .inl (jm_goto 6), .inl (jm_iload 1), .inr (.inl jm_iret)]
def met_219 : jm_M := (hdr_219.1, hdr_219.2, [0, 1, 4, 5, 6, 7, 8, 9, 10, 13, 16, 17, 18, 19, 22, 23, 24, 27, 30, 31], cod_219)
abbrev cod_220 : List jm_I := [.inl (jm_ic 0), .inl (jm_istore 2), .inl (jm_ic 0), .inl (jm_istore 3), .inl (jm_iload 3), .inl (jm_aload 0), .inl (jm_gI 1 3), .inl (jm_icge 42), .inl (jm_aload 0), .inl (jm_gS 1 11 19 (fun i => i)), .inl (jm_iload 1), .inl jm_iald, .inl (jm_ifle 42), .inl (jm_aload 0), .inl (jm_iload 1), .inr (.inr (221, 2, 2)), .inl (jm_istore 4), .inl (jm_iload 4), .inl (jm_ifge 21), .inl (jm_iload 2), .inr (.inl jm_iret), .inl (jm_aload 0), .inl (jm_gS 1 10 18 (fun i => i)), .inl (jm_iload 4), .inl jm_iald, .inl (jm_aload 0), .inl (jm_gS 1 11 19 (fun i => i)), .inl (jm_iload 1), .inl jm_iald, .inl jm_min, .inl (jm_istore 5), .inl (jm_aload 0), .inl (jm_iload 4), .inl (jm_iload 1), .inl (jm_iload 5), .inr (.inr (222, 4, 2)), .inl (jm_iload 2), .inl (jm_iload 5), .inl (jm_bin (fun a b => a + b)), .inl (jm_istore 2), .inl (jm_iinc 3 1), .inl (jm_goto 4), .inl (jm_iload 2), .inr (.inl jm_iret)]
def met_220 : jm_M := (hdr_220.1, hdr_220.2, [0, 1, 2, 3, 4, 5, 6, 9, 12, 13, 16, 17, 18, 21, 22, 23, 26, 28, 30, 33, 34, 35, 36, 39, 41, 42, 43, 46, 47, 48, 51, 53, 54, 56, 57, 59, 62, 63, 65, 66, 67, 70, 73, 74], cod_220)
abbrev cod_221 : List jm_I := [.inl (jm_ic (-1)), .inl (jm_istore 2), .inl (jm_ic 0), .inl (jm_istore 3), .inl (jm_iload 3), .inl (jm_aload 0), .inl (jm_gI 1 3), .inl (jm_icge 40), .inl (jm_aload 0), .inl (jm_gS 1 10 18 (fun i => i)), .inl (jm_iload 3), .inl jm_iald, .inl (jm_ifle 38), .inl (jm_aload 0), .inl (jm_gS 1 8 16 (fun i => i)), .inl (jm_iload 3), .inl jm_iald, .inl (jm_iload 1), .inl (jm_icgt 38), .inl (jm_iload 1), .inl (jm_aload 0), .inl (jm_gS 1 9 17 (fun i => i)), .inl (jm_iload 3), .inl jm_iald, .inl (jm_icgt 38), .inl (jm_iload 2), .inl (jm_iflt 36), .inl (jm_aload 0), .inl (jm_gS 1 9 17 (fun i => i)), .inl (jm_iload 3), .inl jm_iald, .inl (jm_aload 0), .inl (jm_gS 1 9 17 (fun i => i)), .inl (jm_iload 2), .inl jm_iald, .inl (jm_icge 38), .inl (jm_iload 3), .inl (jm_istore 2), .inl (jm_iinc 3 1), .inl (jm_goto 4), .inl (jm_iload 2), .inr (.inl jm_iret)]
def met_221 : jm_M := (hdr_221.1, hdr_221.2, [0, 1, 2, 3, 4, 5, 6, 9, 12, 13, 16, 17, 18, 21, 22, 25, 26, 27, 28, 31, 32, 33, 36, 37, 38, 41, 42, 45, 46, 49, 50, 51, 52, 55, 56, 57, 60, 61, 62, 65, 68, 69], cod_221)
abbrev cod_222 : List jm_I := [.inl (jm_aload 0), .inl (jm_gS 1 12 20 (fun i => i)), .inl (jm_iload 1), .inl jm_aald, .inl (jm_iload 2), .inl jm_dup2, .inl jm_iald, .inl (jm_iload 3), .inl (jm_bin (fun a b => a + b)), .inl jm_iast, .inl (jm_aload 0), .inl (jm_gS 1 10 18 (fun i => i)), .inl (jm_iload 1), .inl jm_dup2, .inl jm_iald, .inl (jm_iload 3), .inl (jm_bin (fun a b => a - b)), .inl jm_iast, .inl (jm_aload 0), .inl (jm_gS 1 11 19 (fun i => i)), .inl (jm_iload 2), .inl jm_dup2, .inl jm_iald, .inl (jm_iload 3), .inl (jm_bin (fun a b => a - b)), .inl jm_iast, .inr (.inl jm_vret)]
def met_222 : jm_M := (hdr_222.1, hdr_222.2, [0, 1, 4, 5, 6, 7, 8, 9, 10, 11, 12, 13, 16, 17, 18, 19, 20, 21, 22, 23, 26, 27, 28, 29, 30, 31, 32], cod_222)
abbrev cod_223 : List jm_I := [.inl (jm_ic 0), .inl (jm_istore 1), .inl (jm_ic 0), .inl (jm_istore 2), .inl (jm_iload 2), .inl (jm_aload 0), .inl (jm_gI 1 3), .inl (jm_icge 21), .inl (jm_aload 0), .inl (jm_gS 1 10 18 (fun i => i)), .inl (jm_iload 2), .inl jm_iald, .inl (jm_ifle 19), .inl (jm_iload 1), .inl (jm_ic 1), .inl (jm_iload 2), .inl (jm_bin (fun a b => a <<< (b &&& 31))), .inl (jm_bin (fun a b => a ||| b)), .inl (jm_istore 1), .inl (jm_iinc 2 1), .inl (jm_goto 4), .inl (jm_ic 0), .inl (jm_istore 2), .inl (jm_ic 0), .inl (jm_istore 3), .inl (jm_iload 3), .inl (jm_aload 0), .inl (jm_gI 1 3), .inl (jm_icgt 48), .inl (jm_iload 2), .inl (jm_istore 4), .inl (jm_aload 0), .inl (jm_iload 1), .inr (.inr (225, 2, 2)), .inl (jm_istore 2), .inl (jm_iload 2), .inl (jm_iload 4), .inl (jm_icne 40), .inl (jm_iload 2), .inr (.inl jm_iret), .inl (jm_iload 1), .inl (jm_aload 0), .inl (jm_iload 2), .inr (.inr (226, 2, 2)), .inl (jm_bin (fun a b => a ||| b)), .inl (jm_istore 1), .inl (jm_iinc 3 1), .inl (jm_goto 25), .inl (jm_iload 2), .inr (.inl jm_iret)]
def met_223 : jm_M := (hdr_223.1, hdr_223.2, [0, 1, 2, 3, 4, 5, 6, 9, 12, 13, 16, 17, 18, 21, 22, 23, 24, 25, 26, 27, 30, 33, 34, 35, 36, 37, 38, 39, 42, 45, 46, 48, 49, 50, 53, 54, 55, 57, 60, 61, 62, 63, 64, 65, 68, 69, 70, 73, 76, 77], cod_223)
abbrev cod_224 : List jm_I := [.inl (jm_aload 0), .inl (jm_iload 1), .inr (.inr (212, 2, 2)), .inl (jm_ifeq 6), .inl (jm_ic 0), .inl (jm_goto 21), .inl (jm_ic 1), .inl (jm_aload 0), .inl (jm_gS 1 9 17 (fun i => i)), .inl (jm_iload 1), .inl jm_iald, .inl (jm_ic 1), .inl (jm_bin (fun a b => a + b)), .inl (jm_bin (fun a b => a <<< (b &&& 31))), .inl (jm_ic 1), .inl (jm_aload 0), .inl (jm_gS 1 8 16 (fun i => i)), .inl (jm_iload 1), .inl jm_iald, .inl (jm_bin (fun a b => a <<< (b &&& 31))), .inl (jm_bin (fun a b => a - b)), .inr (.inl jm_iret)]
def met_224 : jm_M := (hdr_224.1, hdr_224.2, [0, 1, 2, 5, 8, 9, 12, 13, 14, 17, 18, 19, 20, 21, 22, 23, 24, 27, 28, 29, 30, 31], cod_224)
abbrev cod_225 : List jm_I := [.inl (jm_ic 0), .inl (jm_istore 2), .inl (jm_ic 0), .inl (jm_istore 3), .inl (jm_iload 3), .inl (jm_aload 0), .inl (jm_gI 1 3), .inl (jm_icge 23), .inl (jm_iload 1), .inl (jm_iload 3), .inl (jm_bin (fun a b => a >>> (b &&& 31))), .inl (jm_ic 1), .inl (jm_bin (fun a b => a &&& b)), .inl (jm_ic 1), .inl (jm_icne 21), .inl (jm_iload 2), .inl (jm_aload 0), .inl (jm_iload 3), .inr (.inr (224, 2, 2)), .inl (jm_bin (fun a b => a ||| b)), .inl (jm_istore 2), .inl (jm_iinc 3 1), .inl (jm_goto 4), .inl (jm_iload 2), .inr (.inl jm_iret)]
def met_225 : jm_M := (hdr_225.1, hdr_225.2, [0, 1, 2, 3, 4, 5, 6, 9, 12, 13, 14, 15, 16, 17, 18, 21, 22, 23, 24, 27, 28, 29, 32, 35, 36], cod_225)
abbrev cod_226 : List jm_I := [.inl (jm_ic 0), .inl (jm_istore 2), .inl (jm_ic 0), .inl (jm_istore 3), .inl (jm_iload 3), .inl (jm_aload 0), .inl (jm_gI 1 3), .inl (jm_icge 43), .inl (jm_aload 0), .inl (jm_gS 1 8 16 (fun i => i)), .inl (jm_iload 3), .inl jm_iald, .inl (jm_istore 4), .inl (jm_iload 4), .inl (jm_aload 0), .inl (jm_gS 1 9 17 (fun i => i)), .inl (jm_iload 3), .inl jm_iald, .inl (jm_icgt 41), .inl (jm_iload 1), .inl (jm_iload 4), .inl (jm_bin (fun a b => a >>> (b &&& 31))), .inl (jm_ic 1), .inl (jm_bin (fun a b => a &&& b)), .inl (jm_ic 1), .inl (jm_icne 39), .inl (jm_aload 0), .inl (jm_gS 1 12 20 (fun i => i)), .inl (jm_iload 3), .inl jm_aald, .inl (jm_iload 4), .inl jm_iald, .inl (jm_ifle 39), .inl (jm_iload 2), .inl (jm_ic 1), .inl (jm_iload 3), .inl (jm_bin (fun a b => a <<< (b &&& 31))), .inl (jm_bin (fun a b => a ||| b)), .inl (jm_istore 2), .inl (jm_iinc 4 1), .inl (jm_goto 13), .inl (jm_iinc 3 1), .inl (jm_goto 4), .inl (jm_iload 2), .inr (.inl jm_iret)]
def met_226 : jm_M := (hdr_226.1, hdr_226.2, [0, 1, 2, 3, 4, 5, 6, 9, 12, 13, 16, 17, 18, 20, 22, 23, 26, 27, 28, 31, 32, 34, 35, 36, 37, 38, 41, 42, 45, 46, 47, 49, 50, 53, 54, 55, 56, 57, 58, 59, 62, 65, 68, 71, 72], cod_226)
abbrev cod_227 : List jm_I := [.inl (jm_ic 0), .inl (jm_istore 2), .inl (jm_ic 0), .inl (jm_istore 3), .inl (jm_iload 3), .inl (jm_aload 0), .inl (jm_gI 1 3), .inl (jm_icge 24), .inl (jm_aload 0), .inl (jm_iload 3), .inr (.inr (224, 2, 2)), .inl (jm_iload 1), .inl (jm_ic (-1)), .inl (jm_bin (fun a b => a ^^^ b)), .inl (jm_bin (fun a b => a &&& b)), .inl (jm_ifne 22), .inl (jm_iload 2), .inl (jm_ic 1), .inl (jm_iload 3), .inl (jm_bin (fun a b => a <<< (b &&& 31))), .inl (jm_bin (fun a b => a ||| b)), .inl (jm_istore 2), .inl (jm_iinc 3 1), .inl (jm_goto 4), .inl (jm_iload 2), .inr (.inl jm_iret)]
def met_227 : jm_M := (hdr_227.1, hdr_227.2, [0, 1, 2, 3, 4, 5, 6, 9, 12, 13, 14, 17, 18, 19, 20, 21, 24, 25, 26, 27, 28, 29, 30, 33, 36, 37], cod_227)
abbrev cod_228 : List jm_I := [.inl (jm_aload 0), .inl (jm_iload 1), .inl (jm_pI 2 0), .inl (jm_aload 0), .inl (jm_iload 2), .inl (jm_pI 2 1), .inl (jm_aload 0), .inl (jm_ic 0), .inl (jm_pI 2 2), .inl (jm_aload 0), .inl (jm_ic 0), .inl (jm_pI 2 3), .inl (jm_aload 0), .inl (jm_ic 1), .inl (jm_pI 2 4), .inr (.inl jm_vret)]
def met_228 : jm_M := (hdr_228.1, hdr_228.2, [0, 1, 2, 5, 6, 7, 10, 11, 12, 15, 16, 17, 20, 21, 22, 25], cod_228)
abbrev cod_229 : List jm_I := [.inl (jm_aload 0), .inl (jm_gI 2 2), .inl (jm_ifne 6), .inl (jm_aload 0), .inl (jm_gI 2 0), .inl (jm_goto 8), .inl (jm_aload 0), .inl (jm_gI 2 4), .inr (.inl jm_iret)]
def met_229 : jm_M := (hdr_229.1, hdr_229.2, [0, 1, 4, 7, 8, 11, 14, 15, 18], cod_229)
abbrev cod_230 : List jm_I := [.inl (jm_iload 1), .inl (jm_ifle 9), .inl (jm_aload 0), .inr (.inr (229, 1, 3)), .inl (jm_iload 1), .inl jm_irem, .inl (jm_ifne 9), .inl (jm_ic 1), .inl (jm_goto 10), .inl (jm_ic 0), .inr (.inl (jm_nret .boolean))]
def met_230 : jm_M := (hdr_230.1, hdr_230.2, [0, 1, 4, 5, 8, 9, 10, 13, 14, 17, 18], cod_230)
abbrev cod_231 : List jm_I := [.inl (jm_aload 0), .inl (jm_gI 2 4), .inl (jm_iload 1), .inr (.inr (83, 2, 0)), .inl (jm_istore 2), .inl (jm_iload 2), .inl (jm_ifle 14), .inl (jm_aload 0), .inl (jm_gI 2 4), .inl (jm_iload 2), .inl jm_idiv, .inl (jm_iload 1), .inl (jm_bin (fun a b => a * b)), .inl (jm_goto 16), .inl (jm_aload 0), .inl (jm_gI 2 4), .inr (.inl jm_iret)]
def met_231 : jm_M := (hdr_231.1, hdr_231.2, [0, 1, 4, 5, 8, 9, 10, 13, 14, 17, 18, 19, 20, 21, 24, 25, 28], cod_231)
abbrev cod_232 : List jm_I := [.inl (jm_aload 0), .inl (jm_iload 1), .inr (.inr (231, 2, 3)), .inl (jm_istore 2), .inl (jm_iload 1), .inl (jm_ifle 10), .inl (jm_iload 2), .inl (jm_iload 1), .inl jm_idiv, .inl (jm_goto 11), .inl (jm_ic 0), .inl (jm_istore 3), .inl (jm_ic 0), .inl (jm_istore 4), .inl (jm_iload 4), .inl (jm_aload 0), .inl (jm_gI 2 2), .inl (jm_icge 36), .inl (jm_iload 3), .inl (jm_aload 0), .inl (jm_gS 2 6 23 (fun i => i)), .inl (jm_iload 4), .inl jm_iald, .inl (jm_ifle 31), .inl (jm_iload 2), .inl (jm_aload 0), .inl (jm_gS 2 6 23 (fun i => i)), .inl (jm_iload 4), .inl jm_iald, .inl jm_idiv, .inl (jm_goto 32), .inl (jm_ic 0), .inl (jm_bin (fun a b => a + b)), .inl (jm_istore 3), .inl (jm_iinc 4 1), .inl (jm_goto 14), .inl (jm_iload 3), .inr (.inl jm_iret)]
def met_232 : jm_M := (hdr_232.1, hdr_232.2, [0, 1, 2, 5, 6, 7, 10, 11, 12, 13, 16, 17, 18, 19, 21, 23, 24, 27, 30, 31, 32, 35, 37, 38, 41, 42, 43, 46, 48, 49, 50, 53, 54, 55, 56, 59, 62, 63], cod_232)
abbrev cod_233 : List jm_I := [.inl (jm_aload 0), .inl (jm_gS 2 6 23 (fun i => i)), .inl (jm_iload 1), .inl jm_iald, .inl (jm_ifle 13), .inl (jm_aload 0), .inl (jm_gI 2 4), .inl (jm_aload 0), .inl (jm_gS 2 6 23 (fun i => i)), .inl (jm_iload 1), .inl jm_iald, .inl jm_idiv, .inl (jm_goto 14), .inl (jm_ic 0), .inr (.inl jm_iret)]
def met_233 : jm_M := (hdr_233.1, hdr_233.2, [0, 1, 4, 5, 6, 9, 10, 13, 14, 17, 18, 19, 20, 23, 24], cod_233)
abbrev cod_234 : List jm_I := [.inl (jm_aload 0), .inl (jm_gI 2 2), .inl (jm_ic 5), .inl jm_min, .inl (jm_istore 3), .inl (jm_aload 0), .inl (jm_aload 0), .inl (jm_iload 2), .inr (.inr (231, 2, 3)), .inl (jm_pI 2 4), .inl (jm_aload 0), .inl (jm_gS 2 5 22 (fun i => i)), .inl (jm_iload 3), .inl (jm_iload 1), .inl jm_iast, .inl (jm_aload 0), .inl (jm_gS 2 6 23 (fun i => i)), .inl (jm_iload 3), .inl (jm_iload 2), .inl jm_iast, .inl (jm_aload 0), .inl (jm_iload 3), .inl (jm_ic 1), .inl (jm_bin (fun a b => a + b)), .inl (jm_pI 2 2), .inl (jm_iload 3), .inr (.inl jm_iret)]
def met_234 : jm_M := (hdr_234.1, hdr_234.2, [0, 1, 4, 5, 8, 9, 10, 11, 12, 15, 18, 19, 22, 23, 24, 25, 26, 29, 30, 31, 32, 33, 34, 35, 36, 39, 40], cod_234)
abbrev cod_235 : List jm_I := [.inl (jm_aload 0), .inl (jm_ic 0), .inl (jm_pI 2 3), .inl (jm_ic 0), .inl (jm_istore 1), .inl (jm_iload 1), .inl (jm_aload 0), .inl (jm_gI 2 4), .inl (jm_icge 46), .inl (jm_ic 0), .inl (jm_istore 2), .inl (jm_iload 2), .inl (jm_aload 0), .inl (jm_gI 2 2), .inl (jm_icge 44), .inl (jm_aload 0), .inl (jm_iload 2), .inl (jm_iload 1), .inr (.inr (236, 3, 3)), .inl (jm_ifeq 42), .inl (jm_aload 0), .inl (jm_gI 2 3), .inl (jm_ic 24), .inl (jm_icge 42), .inl (jm_aload 0), .inl (jm_gS 2 9 26 (fun i => i)), .inl (jm_aload 0), .inl (jm_gI 2 3), .inl (jm_iload 2), .inl jm_iast, .inl (jm_aload 0), .inl (jm_gS 2 10 27 (fun i => i)), .inl (jm_aload 0), .inl (jm_gI 2 3), .inl (jm_iload 1), .inl jm_iast, .inl (jm_aload 0), .inl jm_dup, .inl (jm_gI 2 3), .inl (jm_ic 1), .inl (jm_bin (fun a b => a + b)), .inl (jm_pI 2 3), .inl (jm_iinc 2 1), .inl (jm_goto 11), .inl (jm_iinc 1 1), .inl (jm_goto 5), .inr (.inl jm_vret)]
def met_235 : jm_M := (hdr_235.1, hdr_235.2, [0, 1, 2, 5, 6, 7, 8, 9, 12, 15, 16, 17, 18, 19, 22, 25, 26, 27, 28, 31, 34, 35, 38, 40, 43, 44, 47, 48, 51, 52, 53, 54, 57, 58, 61, 62, 63, 64, 65, 68, 69, 70, 73, 76, 79, 82, 85], cod_235)
abbrev cod_236 : List jm_I := [.inl (jm_iload 2), .inl (jm_aload 0), .inl (jm_gS 2 5 22 (fun i => i)), .inl (jm_iload 1), .inl jm_iald, .inl (jm_iclt 25), .inl (jm_aload 0), .inl (jm_gS 2 6 23 (fun i => i)), .inl (jm_iload 1), .inl jm_iald, .inl (jm_ifle 25), .inl (jm_iload 2), .inl (jm_aload 0), .inl (jm_gS 2 5 22 (fun i => i)), .inl (jm_iload 1), .inl jm_iald, .inl (jm_bin (fun a b => a - b)), .inl (jm_aload 0), .inl (jm_gS 2 6 23 (fun i => i)), .inl (jm_iload 1), .inl jm_iald, .inl jm_irem, .inl (jm_ifne 25), .inl (jm_ic 1), .inl (jm_goto 26), .inl (jm_ic 0), .inr (.inl (jm_nret .boolean))]
def met_236 : jm_M := (hdr_236.1, hdr_236.2, [0, 1, 2, 5, 6, 7, 10, 11, 14, 15, 16, 19, 20, 21, 24, 25, 26, 27, 28, 31, 32, 33, 34, 37, 38, 41, 42], cod_236)
abbrev cod_237 : List jm_I := [.inl (jm_iload 2), .inl (jm_aload 0), .inl (jm_gS 2 6 23 (fun i => i)), .inl (jm_iload 1), .inl jm_iald, .inr (.inr (83, 2, 0)), .inl (jm_istore 3), .inl (jm_iload 3), .inl (jm_ifle 16), .inl (jm_aload 0), .inl (jm_gS 2 5 22 (fun i => i)), .inl (jm_iload 1), .inl jm_iald, .inl (jm_iload 3), .inl jm_irem, .inl (jm_goto 17), .inl (jm_ic 0), .inl (jm_istore 4), .inl (jm_ic 2), .inl (jm_iload 2), .inl (jm_bin (fun a b => a * b)), .inl (jm_iload 4), .inl (jm_ifne 25), .inl (jm_iload 3), .inl (jm_goto 26), .inl (jm_iload 4), .inl (jm_bin (fun a b => a - b)), .inr (.inl jm_iret)]
def met_237 : jm_M := (hdr_237.1, hdr_237.2, [0, 1, 2, 5, 6, 7, 10, 11, 12, 15, 16, 19, 20, 21, 22, 23, 26, 27, 29, 30, 31, 32, 34, 37, 38, 41, 43, 44], cod_237)
abbrev cod_238 : List jm_I := [.inl (jm_ic 0), .inl (jm_istore 1), .inl (jm_ic 0), .inl (jm_istore 2), .inl (jm_iload 2), .inl (jm_aload 0), .inl (jm_gI 3 0), .inl (jm_icge 18), .inl (jm_iload 1), .inl (jm_aload 0), .inl (jm_gS 3 1 28 (fun i => i)), .inl (jm_iload 2), .inl jm_aald, .inl (jm_gI 2 2), .inl (jm_bin (fun a b => a + b)), .inl (jm_istore 1), .inl (jm_iinc 2 1), .inl (jm_goto 4), .inl (jm_iload 1), .inr (.inl jm_iret)]
def met_238 : jm_M := (hdr_238.1, hdr_238.2, [0, 1, 2, 3, 4, 5, 6, 9, 12, 13, 14, 17, 18, 19, 22, 23, 24, 27, 30, 31], cod_238)
abbrev cod_239 : List jm_I := [.inl (jm_ic 0), .inl (jm_istore 1), .inl (jm_ic 0), .inl (jm_istore 2), .inl (jm_iload 2), .inl (jm_aload 0), .inl (jm_gI 3 0), .inl (jm_icge 18), .inl (jm_iload 1), .inl (jm_aload 0), .inl (jm_gS 3 1 28 (fun i => i)), .inl (jm_iload 2), .inl jm_aald, .inl (jm_gI 2 3), .inl (jm_bin (fun a b => a + b)), .inl (jm_istore 1), .inl (jm_iinc 2 1), .inl (jm_goto 4), .inl (jm_iload 1), .inr (.inl jm_iret)]
def met_239 : jm_M := (hdr_239.1, hdr_239.2, [0, 1, 2, 3, 4, 5, 6, 9, 12, 13, 14, 17, 18, 19, 22, 23, 24, 27, 30, 31], cod_239)
abbrev cod_240 : List jm_I := [.inl (jm_ic 24), .inl (jm_istore 2), .inl (jm_iload 2), .inl (jm_iflt 25), .inl (jm_aload 0), .inl (jm_gI 4 1), .inl (jm_ic 700), .inl (jm_icge 23), .inl (jm_aload 0), .inl (jm_gS 4 0 29 (fun i => i)), .inl (jm_aload 0), .inl (jm_gI 4 1), .inl (jm_iload 1), .inl (jm_iload 2), .inl (jm_bin (fun a b => (a.toUInt32 >>> (b.toUInt32 &&& Int32.toUInt32 31)).toInt32)), .inl jm_i2b, .inl jm_bast, .inl (jm_aload 0), .inl jm_dup, .inl (jm_gI 4 1), .inl (jm_ic 1), .inl (jm_bin (fun a b => a + b)), .inl (jm_pI 4 1), .inl (jm_iinc 2 (-8)), .inl (jm_goto 2), .inr (.inl jm_vret)]
def met_240 : jm_M := (hdr_240.1, hdr_240.2, [0, 2, 3, 4, 7, 8, 11, 14, 17, 18, 21, 22, 25, 26, 27, 28, 29, 30, 31, 32, 35, 36, 37, 40, 43, 46], cod_240)
abbrev cod_241 : List jm_I := [.inl (jm_aload 0), .inl (jm_iload 1), .inl (jm_aload 0), .inl (jm_gI 4 1), .inl jm_min, .inl (jm_pI 4 2), .inl (jm_aload 0), .inl (jm_ic 0), .inl (jm_pI 4 1), .inl (jm_aload 0), .inl (jm_ic 0), .inl (jm_pI 4 3), .inl (jm_aload 0), .inl (jm_gM 4 9 3), .inl (jm_ic 0), .inl (jm_pI 3 0), .inl (jm_aload 0), .inl (jm_ic 0), .inl (jm_pI 4 7), .inl (jm_ic 0), .inl (jm_istore 2), .inl (jm_iload 2), .inl (jm_aload 0), .inl (jm_gI 4 2), .inl (jm_icgt 70), .inl (jm_aload 0), .inr (.inr (248, 1, 5)), .inl (jm_aload 0), .inl (jm_ldcs 0), .inr (.inr (246, 2, 5)), .inl (jm_ifeq 34), .inl (jm_aload 0), .inr (.inr (243, 1, 5)), .inl (jm_goto 44), .inl (jm_aload 0), .inl (jm_ldcs 1), .inr (.inr (246, 2, 5)), .inl (jm_ifeq 41), .inl (jm_aload 0), .inr (.inr (244, 1, 5)), .inl (jm_goto 44), .inl (jm_aload 0), .inl (jm_ic 1), .inr (.inr (242, 2, 5)), .inl (jm_istore 3), .inl (jm_iload 3), .inl (jm_ifne 50), .inl (jm_aload 0), .inl (jm_gI 4 7), .inr (.inl jm_iret), .inl (jm_aload 0), .inr (.inr (248, 1, 5)), .inl (jm_aload 0), .inl (jm_gI 4 4), .inl (jm_ic 4), .inl (jm_icne 57), .inl (jm_goto 70), .inl (jm_aload 0), .inl (jm_gI 4 4), .inl (jm_ic 3), .inl (jm_iceq 68), .inl (jm_aload 0), .inl (jm_ic 1), .inr (.inr (242, 2, 5)), .inl jm_pop, .inl (jm_aload 0), .inl (jm_gI 4 7), .inr (.inl jm_iret), .inl (jm_iinc 2 1), .inl (jm_goto 21), .inl (jm_aload 0), .inl (jm_gM 4 9 3), .inl (jm_gI 3 0), .inl (jm_ifne 78), .inl (jm_aload 0), .inl (jm_ic 4), .inr (.inr (242, 2, 5)), .inl jm_pop, .inl (jm_ic 0), .inl (jm_istore 2), .inl (jm_iload 2), .inl (jm_aload 0), .inl (jm_gM 4 9 3), .inl (jm_gI 3 0), .inl (jm_icge 93), .inl (jm_aload 0), .inl (jm_gM 4 9 3), .inl (jm_gS 3 1 28 (fun i => i)), .inl (jm_iload 2), .inl jm_aald, .inr (.inr (235, 1, 3)), .inl (jm_iinc 2 1), .inl (jm_goto 80), .inl (jm_aload 0), .inl (jm_gI 4 7), .inr (.inl jm_iret)]
def met_241 : jm_M := (hdr_241.1, hdr_241.2, [0, 1, 2, 3, 6, 9, 12, 13, 14, 17, 18, 19, 22, 23, 26, 27, 30, 31, 32, 35, 36, 37, 38, 39, 42, 45, 46, 49, 50, 52, 55, 58, 59, 62, 65, 66, 68, 71, 74, 75, 78, 81, 82, 83, 86, 87, 88, 91, 92, 95, 96, 97, 100, 101, 104, 105, 108, 111, 112, 115, 116, 119, 120, 121, 124, 125, 126, 129, 130, 133, 136, 137, 140, 143, 146, 147, 148, 151, 152, 153, 154, 155, 156, 159, 162, 165, 166, 169, 172, 173, 174, 177, 180, 183, 184, 187], cod_241)
abbrev cod_242 : List jm_I := [.inl (jm_aload 0), .inl (jm_iload 1), .inl (jm_pI 4 7), .inl (jm_aload 0), .inl (jm_aload 0), .inl (jm_gI 4 5), .inl (jm_pI 4 8), .inl (jm_ic 0), .inr (.inl (jm_nret .boolean))]
def met_242 : jm_M := (hdr_242.1, hdr_242.2, [0, 1, 2, 5, 6, 7, 10, 13, 14], cod_242)
abbrev cod_243 : List jm_I := [.inl (jm_aload 0), .inl (jm_gM 4 9 3), .inl (jm_gI 3 0), .inl (jm_ic 3), .inl (jm_iclt 9), .inl (jm_aload 0), .inl (jm_ic 3), .inr (.inr (242, 2, 5)), .inr (.inl (jm_nret .boolean)), .inl (jm_aload 0), .inl (jm_ldcs 2), .inl (jm_ic 4), .inl (jm_ic 60), .inr (.inr (245, 4, 5)), .inl (jm_ifne 17), .inl (jm_ic 0), .inr (.inl (jm_nret .boolean)), .inl (jm_aload 0), .inl (jm_gI 4 6), .inl (jm_istore 1), .inl (jm_aload 0), .inl (jm_ldcs 3), .inl (jm_ic 0), .inl (jm_ic 59), .inl (jm_iload 1), .inl (jm_ic 1), .inl (jm_bin (fun a b => a - b)), .inl jm_min, .inr (.inr (245, 4, 5)), .inl (jm_ifne 32), .inl (jm_ic 0), .inr (.inl (jm_nret .boolean)), .inl (jm_aload 0), .inl (jm_gM 4 9 3), .inl (jm_gS 3 1 28 (fun i => i)), .inl (jm_aload 0), .inl (jm_gM 4 9 3), .inl (jm_gI 3 0), .inl jm_aald, .inl (jm_iload 1), .inl (jm_aload 0), .inl (jm_gI 4 6), .inr (.inr (228, 3, 3)), .inl (jm_aload 0), .inl (jm_gM 4 9 3), .inl jm_dup, .inl (jm_gI 3 0), .inl (jm_ic 1), .inl (jm_bin (fun a b => a + b)), .inl (jm_pI 3 0), .inl (jm_ic 1), .inr (.inl (jm_nret .boolean))]
def met_243 : jm_M := (hdr_243.1, hdr_243.2, [0, 1, 4, 7, 8, 11, 12, 13, 16, 17, 18, 20, 21, 23, 26, 29, 30, 31, 32, 35, 36, 37, 39, 40, 42, 43, 44, 45, 48, 51, 54, 55, 56, 57, 60, 63, 64, 67, 70, 71, 72, 73, 76, 79, 80, 83, 84, 87, 88, 89, 92, 93], cod_243)
abbrev cod_244 : List jm_I := [.inl (jm_aload 0), .inl (jm_gM 4 9 3), .inl (jm_gI 3 0), .inl (jm_ifne 8), .inl (jm_aload 0), .inl (jm_ic 4), .inr (.inr (242, 2, 5)), .inr (.inl (jm_nret .boolean)), .inl (jm_aload 0), .inl (jm_gM 4 9 3), .inl (jm_gS 3 1 28 (fun i => i)), .inl (jm_aload 0), .inl (jm_gM 4 9 3), .inl (jm_gI 3 0), .inl (jm_ic 1), .inl (jm_bin (fun a b => a - b)), .inl jm_aald, .inl (jm_astore 1), .inl (jm_aload 1), .inl (jm_gI 2 2), .inl (jm_ic 6), .inl (jm_iclt 26), .inl (jm_aload 0), .inl (jm_ic 3), .inr (.inr (242, 2, 5)), .inr (.inl (jm_nret .boolean)), .inl (jm_aload 0), .inl (jm_ldcs 4), .inl (jm_ic 0), .inl (jm_ic 59), .inr (.inr (245, 4, 5)), .inl (jm_ifne 34), .inl (jm_ic 0), .inr (.inl (jm_nret .boolean)), .inl (jm_aload 0), .inl (jm_gI 4 6), .inl (jm_istore 2), .inl (jm_aload 0), .inl (jm_ldcs 5), .inl (jm_iload 2), .inl (jm_ic 1), .inl (jm_bin (fun a b => a + b)), .inl (jm_ic 60), .inr (.inr (245, 4, 5)), .inl (jm_ifne 47), .inl (jm_ic 0), .inr (.inl (jm_nret .boolean)), .inl (jm_aload 0), .inl (jm_gI 4 6), .inl (jm_istore 3), .inl (jm_aload 1), .inl (jm_iload 3), .inr (.inr (231, 2, 3)), .inl (jm_ic 96), .inl (jm_icle 59), .inl (jm_aload 0), .inl (jm_ic 5), .inr (.inr (242, 2, 5)), .inr (.inl (jm_nret .boolean)), .inl (jm_aload 1), .inl (jm_iload 3), .inr (.inr (232, 2, 3)), .inl (jm_ic 24), .inl (jm_icle 68), .inl (jm_aload 0), .inl (jm_ic 6), .inr (.inr (242, 2, 5)), .inr (.inl (jm_nret .boolean)), .inl (jm_aload 1), .inl (jm_iload 2), .inl (jm_iload 3), .inr (.inr (234, 3, 3)), .inl (jm_istore 4), .inl (jm_aload 0), .inl (jm_ldcs 6), .inl (jm_ic 1), .inl (jm_ic 60), .inr (.inr (245, 4, 5)), .inl (jm_ifne 81), .inl (jm_ic 0), .inr (.inl (jm_nret .boolean)), .inl (jm_aload 1), .inl (jm_gS 2 7 24 (fun i => i)), .inl (jm_iload 4), .inl (jm_aload 0), .inl (jm_gI 4 6), .inl jm_iast, .inl (jm_aload 0), .inl (jm_ldcs 7), .inl (jm_ic 1), .inl (jm_iload 3), .inl (jm_iload 2), .inl (jm_bin (fun a b => a - b)), .inr (.inr (245, 4, 5)), .inl (jm_ifne 97), .inl (jm_ic 0), .inr (.inl (jm_nret .boolean)), .inl (jm_aload 1), .inl (jm_gS 2 8 25 (fun i => i)), .inl (jm_iload 4), .inl (jm_aload 0), .inl (jm_gI 4 6), .inl jm_iast, .inl (jm_ic 1), .inr (.inl (jm_nret .boolean))]
def met_244 : jm_M := (hdr_244.1, hdr_244.2, [0, 1, 4, 7, 10, 11, 12, 15, 16, 17, 20, 23, 24, 27, 30, 31, 32, 33, 34, 35, 38, 40, 43, 44, 45, 48, 49, 50, 52, 53, 55, 58, 61, 62, 63, 64, 67, 68, 69, 71, 72, 73, 74, 76, 79, 82, 83, 84, 85, 88, 89, 90, 91, 94, 96, 99, 100, 101, 104, 105, 106, 107, 110, 112, 115, 116, 118, 121, 122, 123, 124, 125, 128, 130, 131, 133, 134, 136, 139, 142, 143, 144, 145, 148, 150, 151, 154, 155, 156, 158, 159, 160, 161, 162, 165, 168, 169, 170, 171, 174, 176, 177, 180, 181, 182], cod_244)
abbrev cod_245 : List jm_I := [.inl (jm_aload 0), .inr (.inr (248, 1, 5)), .inl (jm_aload 0), .inl (jm_aload 1), .inr (.inr (246, 2, 5)), .inl (jm_ifne 10), .inl (jm_aload 0), .inl (jm_ic 1), .inr (.inr (242, 2, 5)), .inr (.inl (jm_nret .boolean)), .inl (jm_aload 0), .inr (.inr (248, 1, 5)), .inl (jm_aload 0), .inl (jm_gI 4 4), .inl (jm_ic 2), .inl (jm_iceq 20), .inl (jm_aload 0), .inl (jm_ic 1), .inr (.inr (242, 2, 5)), .inr (.inl (jm_nret .boolean)), .inl (jm_aload 0), .inl (jm_gI 4 6), .inl (jm_iload 2), .inl (jm_iclt 28), .inl (jm_aload 0), .inl (jm_gI 4 6), .inl (jm_iload 3), .inl (jm_icle 32), .inl (jm_aload 0), .inl (jm_ic 2), .inr (.inr (242, 2, 5)), .inl (jm_ifeq 34), .inl (jm_ic 1), .inl (jm_goto 35), .inl (jm_ic 0), .inr (.inl (jm_nret .boolean))]
def met_245 : jm_M := (hdr_245.1, hdr_245.2, [0, 1, 4, 5, 6, 9, 12, 13, 14, 17, 18, 19, 22, 23, 26, 27, 30, 31, 32, 35, 36, 37, 40, 41, 44, 45, 48, 49, 52, 53, 54, 57, 60, 61, 64, 65], cod_245)
abbrev cod_246 : List jm_I := [.inl (jm_aload 0), .inl (jm_gI 4 4), .inl (jm_ic 1), .inl (jm_icne 12), .inl (jm_aload 0), .inl (jm_gI 4 3), .inl (jm_aload 0), .inl (jm_gI 4 5), .inl (jm_bin (fun a b => a - b)), .inl (jm_aload 1), .inl jm_slen, .inl (jm_iceq 14), .inl (jm_ic 0), .inr (.inl (jm_nret .boolean)), .inl (jm_ic 0), .inl (jm_istore 2), .inl (jm_iload 2), .inl (jm_aload 1), .inl jm_slen, .inl (jm_icge 34), .inl (jm_aload 0), .inl (jm_aload 0), .inl (jm_gI 4 5), .inl (jm_iload 2), .inl (jm_bin (fun a b => a + b)), .inr (.inr (247, 2, 5)), .inl (jm_aload 1), .inl (jm_iload 2), .inl jm_schr, .inl (jm_iceq 32), .inl (jm_ic 0), .inr (.inl (jm_nret .boolean)), .inl (jm_iinc 2 1), .inl (jm_goto 16), .inl (jm_ic 1), .inr (.inl (jm_nret .boolean))]
def met_246 : jm_M := (hdr_246.1, hdr_246.2, [0, 1, 4, 5, 8, 9, 12, 13, 16, 17, 18, 21, 24, 25, 26, 27, 28, 29, 30, 33, 36, 37, 38, 41, 42, 43, 46, 47, 48, 51, 54, 55, 56, 59, 62, 63], cod_246)
abbrev cod_247 : List jm_I := [.inl (jm_iload 1), .inl (jm_iflt 13), .inl (jm_iload 1), .inl (jm_aload 0), .inl (jm_gI 4 2), .inl (jm_icge 13), .inl (jm_aload 0), .inl (jm_gS 4 0 29 (fun i => i)), .inl (jm_iload 1), .inl jm_bald, .inl (jm_ic 255), .inl (jm_bin (fun a b => a &&& b)), .inl (jm_goto 14), .inl (jm_ic 0), .inr (.inl jm_iret)]
def met_247 : jm_M := (hdr_247.1, hdr_247.2, [0, 1, 4, 5, 6, 9, 12, 13, 16, 17, 18, 21, 22, 25, 26], cod_247)
abbrev cod_248 : List jm_I := [.inl (jm_aload 0), .inl (jm_gI 4 3), .inl (jm_aload 0), .inl (jm_gI 4 2), .inl (jm_icge 18), .inl (jm_aload 0), .inl (jm_aload 0), .inl (jm_gI 4 3), .inr (.inr (247, 2, 5)), .inl (jm_ic 32), .inl (jm_icne 18), .inl (jm_aload 0), .inl jm_dup, .inl (jm_gI 4 3), .inl (jm_ic 1), .inl (jm_bin (fun a b => a + b)), .inl (jm_pI 4 3), .inl (jm_goto 0), .inl (jm_aload 0), .inl (jm_aload 0), .inl (jm_gI 4 3), .inl (jm_pI 4 5), .inl (jm_aload 0), .inl (jm_gI 4 3), .inl (jm_aload 0), .inl (jm_gI 4 2), .inl (jm_iclt 31), .inl (jm_aload 0), .inl (jm_ic 4), .inl (jm_pI 4 4), .inl (jm_goto 68), .inl (jm_aload 0), .inl (jm_aload 0), .inl (jm_gI 4 3), .inr (.inr (247, 2, 5)), .inl (jm_ic 59), .inl (jm_icne 47), .inl (jm_aload 0), .inl (jm_ic 3), .inl (jm_pI 4 4), .inl (jm_aload 0), .inl jm_dup, .inl (jm_gI 4 3), .inl (jm_ic 1), .inl (jm_bin (fun a b => a + b)), .inl (jm_pI 4 3), .inl (jm_goto 68), .inl (jm_aload 0), .inl (jm_aload 0), .inl (jm_gI 4 3), .inr (.inr (247, 2, 5)), .inr (.inr (251, 1, 0)), .inl (jm_ifeq 56), .inl (jm_aload 0), .inr (.inr (249, 1, 5)), .inl (jm_goto 68), .inl (jm_aload 0), .inl (jm_aload 0), .inl (jm_gI 4 3), .inr (.inr (247, 2, 5)), .inr (.inr (252, 1, 0)), .inl (jm_ifeq 65), .inl (jm_aload 0), .inr (.inr (250, 1, 5)), .inl (jm_goto 68), .inl (jm_aload 0), .inl (jm_ic 0), .inl (jm_pI 4 4), .inr (.inl jm_vret)]
def met_248 : jm_M := (hdr_248.1, hdr_248.2, [0, 1, 4, 5, 8, 11, 12, 13, 16, 19, 21, 24, 25, 26, 29, 30, 31, 34, 37, 38, 39, 42, 45, 46, 49, 50, 53, 56, 57, 58, 61, 64, 65, 66, 69, 72, 74, 77, 78, 79, 82, 83, 84, 87, 88, 89, 92, 95, 96, 97, 100, 103, 106, 109, 110, 113, 116, 117, 118, 121, 124, 127, 130, 131, 134, 137, 138, 139, 142], cod_248)
abbrev cod_249 : List jm_I := [.inl (jm_aload 0), .inl (jm_gI 4 3), .inl (jm_aload 0), .inl (jm_gI 4 2), .inl (jm_icge 18), .inl (jm_aload 0), .inl (jm_aload 0), .inl (jm_gI 4 3), .inr (.inr (247, 2, 5)), .inr (.inr (251, 1, 0)), .inl (jm_ifeq 18), .inl (jm_aload 0), .inl jm_dup, .inl (jm_gI 4 3), .inl (jm_ic 1), .inl (jm_bin (fun a b => a + b)), .inl (jm_pI 4 3), .inl (jm_goto 0), .inl (jm_aload 0), .inl (jm_aload 0), .inl (jm_gI 4 3), .inl (jm_aload 0), .inl (jm_gI 4 5), .inl (jm_bin (fun a b => a - b)), .inl (jm_ic 7), .inl (jm_icgt 28), .inl (jm_ic 1), .inl (jm_goto 29), .inl (jm_ic 0), .inl (jm_pI 4 4), .inr (.inl jm_vret)]
def met_249 : jm_M := (hdr_249.1, hdr_249.2, [0, 1, 4, 5, 8, 11, 12, 13, 16, 19, 22, 25, 26, 27, 30, 31, 32, 35, 38, 39, 40, 43, 44, 47, 48, 50, 53, 54, 57, 58, 61], cod_249)
abbrev cod_250 : List jm_I := [.inl (jm_aload 0), .inl (jm_ic 0), .inl (jm_pI 4 6), .inl (jm_aload 0), .inl (jm_gI 4 3), .inl (jm_aload 0), .inl (jm_gI 4 2), .inl (jm_icge 34), .inl (jm_aload 0), .inl (jm_aload 0), .inl (jm_gI 4 3), .inr (.inr (247, 2, 5)), .inr (.inr (252, 1, 0)), .inl (jm_ifeq 34), .inl (jm_aload 0), .inl (jm_aload 0), .inl (jm_gI 4 6), .inl (jm_ic 10), .inl (jm_bin (fun a b => a * b)), .inl (jm_aload 0), .inl (jm_aload 0), .inl (jm_gI 4 3), .inr (.inr (247, 2, 5)), .inl (jm_ic 48), .inl (jm_bin (fun a b => a - b)), .inl (jm_bin (fun a b => a + b)), .inl (jm_pI 4 6), .inl (jm_aload 0), .inl jm_dup, .inl (jm_gI 4 3), .inl (jm_ic 1), .inl (jm_bin (fun a b => a + b)), .inl (jm_pI 4 3), .inl (jm_goto 3), .inl (jm_aload 0), .inl (jm_aload 0), .inl (jm_gI 4 3), .inl (jm_aload 0), .inl (jm_gI 4 5), .inl (jm_bin (fun a b => a - b)), .inl (jm_ic 3), .inl (jm_icgt 44), .inl (jm_ic 2), .inl (jm_goto 45), .inl (jm_ic 0), .inl (jm_pI 4 4), .inr (.inl jm_vret)]
def met_250 : jm_M := (hdr_250.1, hdr_250.2, [0, 1, 2, 5, 6, 9, 10, 13, 16, 17, 18, 21, 24, 27, 30, 31, 32, 35, 37, 38, 39, 40, 43, 46, 48, 49, 50, 53, 54, 55, 58, 59, 60, 63, 66, 67, 68, 71, 72, 75, 76, 77, 80, 81, 84, 85, 88], cod_250)
abbrev cod_251 : List jm_I := [.inl (jm_iload 0), .inl (jm_ic 97), .inl (jm_iclt 8), .inl (jm_iload 0), .inl (jm_ic 122), .inl (jm_icgt 8), .inl (jm_ic 1), .inl (jm_goto 9), .inl (jm_ic 0), .inr (.inl (jm_nret .boolean))]
def met_251 : jm_M := (hdr_251.1, hdr_251.2, [0, 1, 3, 6, 7, 9, 12, 13, 16, 17], cod_251)
abbrev cod_252 : List jm_I := [.inl (jm_iload 0), .inl (jm_ic 48), .inl (jm_iclt 8), .inl (jm_iload 0), .inl (jm_ic 57), .inl (jm_icgt 8), .inl (jm_ic 1), .inl (jm_goto 9), .inl (jm_ic 0), .inr (.inl (jm_nret .boolean))]
def met_252 : jm_M := (hdr_252.1, hdr_252.2, [0, 1, 3, 6, 7, 9, 12, 13, 16, 17], cod_252)
abbrev cod_253 : List jm_I := [.inl (jm_ic 0), .inl (jm_istore 3), .inl (jm_iload 2), .inl (jm_istore 4), .inl (jm_aload 1), .inl (jm_gI 1 0), .inl (jm_istore 5), .inl (jm_ic 0), .inl (jm_istore 6), .inl (jm_iload 6), .inl (jm_aload 0), .inl jm_alen, .inl (jm_icge 46), .inl (jm_iload 6), .inl (jm_iload 5), .inl (jm_icne 40), .inl (jm_iload 3), .inl (jm_aload 1), .inl (jm_gS 1 11 19 (fun i => i)), .inl (jm_iload 4), .inl jm_iald, .inl (jm_bin (fun a b => a + b)), .inl (jm_istore 3), .inl (jm_iload 4), .inl (jm_ic 1), .inl (jm_bin (fun a b => a + b)), .inl (jm_aload 1), .inl (jm_gI 1 2), .inl (jm_icge 33), .inl (jm_iload 4), .inl (jm_ic 1), .inl (jm_bin (fun a b => a + b)), .inl (jm_goto 34), .inl (jm_ic 0), .inl (jm_istore 4), .inl (jm_iload 5), .inl (jm_aload 1), .inl (jm_gI 1 0), .inl (jm_bin (fun a b => a + b)), .inl (jm_istore 5), .inl (jm_aload 0), .inl (jm_iload 6), .inl (jm_iload 3), .inl jm_iast, .inl (jm_iinc 6 1), .inl (jm_goto 9), .inr (.inl jm_vret)]
def met_253 : jm_M := (hdr_253.1, hdr_253.2, [0, 1, 2, 3, 5, 6, 9, 11, 12, 14, 16, 17, 18, 21, 23, 25, 28, 29, 30, 33, 35, 36, 37, 38, 40, 41, 42, 43, 46, 49, 51, 52, 53, 56, 57, 59, 61, 62, 65, 66, 68, 69, 71, 72, 73, 76, 79], cod_253)
abbrev cod_254 : List jm_I := [.inl (jm_ic 0), .inl (jm_iload 1), .inl (jm_ic 400), .inl jm_min, .inl jm_max, .inl (jm_istore 2), .inl (jm_iload 2), .inl (jm_aload 0), .inl (jm_gI 5 2), .inl (jm_icgt 15), .inl (jm_aload 0), .inl (jm_gS 5 0 30 (fun i => i)), .inl (jm_iload 2), .inl jm_iald, .inr (.inl jm_iret), .inl (jm_ic 0), .inl (jm_aload 0), .inl (jm_gI 5 2), .inl jm_max, .inl (jm_istore 3), .inl (jm_aload 0), .inl (jm_gS 5 0 30 (fun i => i)), .inl (jm_iload 3), .inl jm_iald, .inl (jm_aload 0), .inl (jm_gS 5 1 31 (fun i => i)), .inl (jm_iload 2), .inl (jm_iload 3), .inl (jm_bin (fun a b => a - b)), .inl jm_iald, .inl (jm_bin (fun a b => a + b)), .inr (.inl jm_iret)]
def met_254 : jm_M := (hdr_254.1, hdr_254.2, [0, 1, 2, 5, 8, 11, 12, 13, 14, 17, 20, 21, 24, 25, 26, 27, 28, 29, 32, 35, 36, 37, 40, 41, 42, 43, 46, 47, 48, 49, 50, 51], cod_254)
abbrev cod_255 : List jm_I := [.inl (jm_aload 0), .inl (jm_aload 1), .inl (jm_ic 0), .inr (.inr (256, 3, 6)), .inr (.inl jm_iret)]
def met_255 : jm_M := (hdr_255.1, hdr_255.2, [0, 1, 2, 3, 6], cod_255)
abbrev cod_256 : List jm_I := [.inl (jm_ic 1000000), .inl (jm_istore 3), .inl (jm_ic 0), .inl (jm_istore 4), .inl (jm_ic 0), .inl (jm_istore 5), .inl (jm_iload 5), .inl (jm_aload 1), .inl (jm_gI 0 3), .inl (jm_icge 39), .inl (jm_iload 4), .inl (jm_aload 1), .inl (jm_gS 0 10 10 (fun i => i)), .inl (jm_iload 5), .inl jm_iald, .inl (jm_bin (fun a b => a + b)), .inl (jm_istore 4), .inl (jm_aload 1), .inl (jm_gS 0 11 11 (fun i => i)), .inl (jm_iload 5), .inl jm_iald, .inl (jm_iload 2), .inl (jm_iclt 37), .inl (jm_iload 3), .inl (jm_aload 0), .inl (jm_aload 1), .inl (jm_gS 0 11 11 (fun i => i)), .inl (jm_iload 5), .inl jm_iald, .inl (jm_aload 1), .inl (jm_gI 0 0), .inl (jm_bin (fun a b => a - b)), .inr (.inr (254, 2, 6)), .inl (jm_iload 4), .inl (jm_bin (fun a b => a - b)), .inl jm_min, .inl (jm_istore 3), .inl (jm_iinc 5 1), .inl (jm_goto 6), .inl (jm_iload 3), .inr (.inl jm_iret)]
def met_256 : jm_M := (hdr_256.1, hdr_256.2, [0, 2, 3, 4, 6, 7, 9, 11, 12, 15, 18, 20, 21, 24, 26, 27, 28, 30, 31, 34, 36, 37, 38, 41, 42, 43, 44, 47, 49, 50, 51, 54, 55, 58, 60, 61, 64, 65, 68, 71, 72], cod_256)
abbrev cod_257 : List jm_I := [.inl (jm_ic 0), .inl (jm_istore 3), .inl (jm_ic 0), .inl (jm_istore 4), .inl (jm_iload 4), .inl (jm_aload 1), .inl (jm_gI 0 3), .inl (jm_icge 23), .inl (jm_aload 1), .inl (jm_gS 0 11 11 (fun i => i)), .inl (jm_iload 4), .inl jm_iald, .inl (jm_iload 2), .inl (jm_icgt 21), .inl (jm_iload 3), .inl (jm_aload 1), .inl (jm_gS 0 10 10 (fun i => i)), .inl (jm_iload 4), .inl jm_iald, .inl (jm_bin (fun a b => a + b)), .inl (jm_istore 3), .inl (jm_iinc 4 1), .inl (jm_goto 4), .inl (jm_aload 0), .inl (jm_iload 2), .inl (jm_aload 1), .inl (jm_gI 0 0), .inl (jm_bin (fun a b => a - b)), .inr (.inr (254, 2, 6)), .inl (jm_iload 3), .inl (jm_bin (fun a b => a - b)), .inl (jm_aload 0), .inl (jm_aload 1), .inl (jm_iload 2), .inr (.inr (256, 3, 6)), .inl jm_min, .inr (.inl jm_iret)]
def met_257 : jm_M := (hdr_257.1, hdr_257.2, [0, 1, 2, 3, 5, 7, 8, 11, 14, 15, 18, 20, 21, 22, 25, 26, 27, 30, 32, 33, 34, 35, 38, 41, 42, 43, 44, 47, 48, 51, 52, 53, 54, 55, 56, 59, 62], cod_257)
abbrev cod_258 : List jm_I := [.inl (jm_aload 0), .inl (jm_gS 6 0 1 (fun i => i)), .inl (jm_aload 1), .inl (jm_iload 2), .inl (jm_aload 1), .inl (jm_gI 2 1), .inr (.inr (211, 4, 2)), .inl (jm_aload 0), .inl (jm_aload 0), .inl (jm_gS 6 0 1 (fun i => i)), .inl (jm_aload 1), .inr (.inr (215, 2, 2)), .inl (jm_pZ 6 1), .inl (jm_aload 0), .inl (jm_ic 0), .inl (jm_pI 6 2), .inl (jm_aload 0), .inl (jm_ic 0), .inl (jm_pI 6 3), .inl (jm_aload 0), .inl (jm_gI 6 1), .inl (jm_ifeq 30), .inl (jm_aload 0), .inr (.inr (259, 1, 7)), .inl (jm_aload 0), .inr (.inr (263, 1, 7)), .inl (jm_aload 0), .inl (jm_aload 0), .inr (.inr (266, 1, 7)), .inl (jm_pI 6 2), .inr (.inl jm_vret)]
def met_258 : jm_M := (hdr_258.1, hdr_258.2, [0, 1, 4, 5, 6, 7, 10, 13, 14, 15, 18, 19, 22, 25, 26, 27, 30, 31, 32, 35, 36, 39, 42, 43, 46, 47, 50, 51, 52, 55, 58], cod_258)
abbrev cod_259 : List jm_I := [.inl (jm_aload 0), .inl (jm_gS 6 0 1 (fun i => i)), .inr (.inr (218, 1, 2)), .inl (jm_ic 0), .inl (jm_istore 1), .inl (jm_iload 1), .inl (jm_aload 0), .inl (jm_gS 6 0 1 (fun i => i)), .inl (jm_gI 1 3), .inl (jm_icge 36), .inl (jm_aload 0), .inl (jm_gS 6 0 1 (fun i => i)), .inl (jm_gS 1 8 16 (fun i => i)), .inl (jm_iload 1), .inl jm_iald, .inl (jm_istore 2), .inl (jm_iload 2), .inl (jm_aload 0), .inl (jm_gS 6 0 1 (fun i => i)), .inl (jm_gS 1 9 17 (fun i => i)), .inl (jm_iload 1), .inl jm_iald, .inl (jm_icgt 34), .inl (jm_aload 0), .inl (jm_gS 6 0 1 (fun i => i)), .inl (jm_iload 1), .inl (jm_iload 2), .inl (jm_aload 0), .inl (jm_iload 1), .inl (jm_iload 2), .inr (.inr (260, 3, 7)), .inr (.inr (222, 4, 2)), .inl (jm_iinc 2 1), .inl (jm_goto 16), .inl (jm_iinc 1 1), .inl (jm_goto 5), .inr (.inl jm_vret)]
def met_259 : jm_M := (hdr_259.1, hdr_259.2, [0, 1, 4, 7, 8, 9, 10, 11, 14, 17, 20, 21, 24, 27, 28, 29, 30, 31, 32, 35, 38, 39, 40, 43, 44, 47, 48, 49, 50, 51, 52, 55, 58, 61, 64, 67, 70], cod_259)
abbrev cod_260 : List jm_I := [.inl (jm_aload 0), .inl (jm_gS 6 0 1 (fun i => i)), .inl (jm_gS 1 10 18 (fun i => i)), .inl (jm_iload 1), .inl jm_iald, .inl (jm_aload 0), .inl (jm_gS 6 0 1 (fun i => i)), .inl (jm_gS 1 11 19 (fun i => i)), .inl (jm_iload 2), .inl jm_iald, .inl jm_min, .inl (jm_istore 3), .inl (jm_aload 0), .inl (jm_gS 6 0 1 (fun i => i)), .inl (jm_gS 1 8 16 (fun i => i)), .inl (jm_iload 1), .inl jm_iald, .inl (jm_istore 4), .inl (jm_iload 4), .inl (jm_iload 2), .inl (jm_icgt 33), .inl (jm_iload 3), .inl (jm_ifle 33), .inl (jm_iload 3), .inl (jm_aload 0), .inl (jm_iload 1), .inl (jm_iload 4), .inl (jm_iload 2), .inr (.inr (261, 4, 7)), .inl jm_min, .inl (jm_istore 3), .inl (jm_iinc 4 1), .inl (jm_goto 18), .inl (jm_ic 0), .inl (jm_iload 3), .inl jm_max, .inr (.inl jm_iret)]
def met_260 : jm_M := (hdr_260.1, hdr_260.2, [0, 1, 4, 7, 8, 9, 10, 13, 16, 17, 18, 21, 22, 23, 26, 29, 30, 31, 33, 35, 36, 39, 40, 43, 44, 45, 46, 48, 49, 52, 55, 56, 59, 62, 63, 64, 67], cod_260)
abbrev cod_261 : List jm_I := [.inl (jm_ic 1000000), .inl (jm_istore 4), .inl (jm_ic 0), .inl (jm_istore 5), .inl (jm_iload 2), .inl (jm_istore 6), .inl (jm_iload 6), .inl (jm_aload 0), .inl (jm_gS 6 0 1 (fun i => i)), .inl (jm_gS 1 9 17 (fun i => i)), .inl (jm_iload 1), .inl jm_iald, .inl (jm_icge 36), .inl (jm_iload 5), .inl (jm_aload 0), .inl (jm_gS 6 0 1 (fun i => i)), .inl (jm_gS 1 11 19 (fun i => i)), .inl (jm_iload 6), .inl jm_iald, .inl (jm_aload 0), .inl (jm_iload 1), .inl (jm_iload 2), .inl (jm_iload 6), .inr (.inr (262, 4, 7)), .inl (jm_bin (fun a b => a - b)), .inl (jm_bin (fun a b => a + b)), .inl (jm_istore 5), .inl (jm_iload 6), .inl (jm_iload 3), .inl (jm_iclt 34), .inl (jm_iload 4), .inl (jm_iload 5), .inl jm_min, .inl (jm_istore 4), .inl (jm_iinc 6 1), .inl (jm_goto 6), .inl (jm_iload 4), .inr (.inl jm_iret)]
def met_261 : jm_M := (hdr_261.1, hdr_261.2, [0, 2, 4, 5, 7, 8, 10, 12, 13, 16, 19, 20, 21, 24, 26, 27, 30, 33, 35, 36, 37, 38, 39, 41, 44, 45, 46, 48, 50, 51, 54, 56, 58, 61, 63, 66, 69, 71], cod_261)
abbrev cod_262 : List jm_I := [.inl (jm_ic 0), .inl (jm_istore 4), .inl (jm_iload 1), .inl (jm_ic 1), .inl (jm_bin (fun a b => a + b)), .inl (jm_istore 5), .inl (jm_iload 5), .inl (jm_aload 0), .inl (jm_gS 6 0 1 (fun i => i)), .inl (jm_gI 1 3), .inl (jm_icge 35), .inl (jm_aload 0), .inl (jm_gS 6 0 1 (fun i => i)), .inl (jm_gS 1 8 16 (fun i => i)), .inl (jm_iload 5), .inl jm_iald, .inl (jm_iload 2), .inl (jm_iclt 33), .inl (jm_aload 0), .inl (jm_gS 6 0 1 (fun i => i)), .inl (jm_gS 1 9 17 (fun i => i)), .inl (jm_iload 5), .inl jm_iald, .inl (jm_iload 3), .inl (jm_icne 33), .inl (jm_iload 4), .inl (jm_aload 0), .inl (jm_gS 6 0 1 (fun i => i)), .inl (jm_gS 1 7 15 (fun i => i)), .inl (jm_iload 5), .inl jm_iald, .inl (jm_bin (fun a b => a + b)), .inl (jm_istore 4), .inl (jm_iinc 5 1), .inl (jm_goto 6), .inl (jm_iload 4), .inr (.inl jm_iret)]
def met_262 : jm_M := (hdr_262.1, hdr_262.2, [0, 1, 3, 4, 5, 6, 8, 10, 11, 14, 17, 20, 21, 24, 27, 29, 30, 31, 34, 35, 38, 41, 43, 44, 45, 48, 50, 51, 54, 57, 59, 60, 61, 63, 66, 69, 71], cod_262)
abbrev cod_263 : List jm_I := [.inl (jm_ic 0), .inl (jm_istore 1), .inl (jm_iload 1), .inl (jm_ic 576), .inl (jm_icge 17), .inl (jm_aload 0), .inr (.inr (264, 1, 7)), .inl (jm_ifne 9), .inr (.inl jm_vret), .inl (jm_aload 0), .inl jm_dup, .inl (jm_gI 6 3), .inl (jm_ic 1), .inl (jm_bin (fun a b => a + b)), .inl (jm_pI 6 3), .inl (jm_iinc 1 1), .inl (jm_goto 2), .inr (.inl jm_vret)]
def met_263 : jm_M := (hdr_263.1, hdr_263.2, [0, 1, 2, 3, 6, 9, 10, 13, 16, 17, 18, 19, 22, 23, 24, 27, 30, 33], cod_263)
abbrev cod_264 : List jm_I := [.inl (jm_ic 0), .inl (jm_istore 1), .inl (jm_iload 1), .inl (jm_aload 0), .inl (jm_gS 6 0 1 (fun i => i)), .inl (jm_gI 1 3), .inl (jm_icge 58), .inl (jm_aload 0), .inl (jm_gS 6 0 1 (fun i => i)), .inl (jm_gS 1 8 16 (fun i => i)), .inl (jm_iload 1), .inl jm_iald, .inl (jm_istore 2), .inl (jm_iload 2), .inl (jm_aload 0), .inl (jm_gS 6 0 1 (fun i => i)), .inl (jm_gS 1 9 17 (fun i => i)), .inl (jm_iload 1), .inl jm_iald, .inl (jm_icgt 56), .inl (jm_aload 0), .inl (jm_gS 6 0 1 (fun i => i)), .inl (jm_gS 1 12 20 (fun i => i)), .inl (jm_iload 1), .inl jm_aald, .inl (jm_iload 2), .inl jm_iald, .inl (jm_istore 3), .inl (jm_iload 3), .inl (jm_ifle 35), .inl (jm_aload 0), .inl (jm_iload 1), .inl (jm_iload 2), .inr (.inr (265, 3, 7)), .inl (jm_goto 36), .inl (jm_ic (-1)), .inl (jm_istore 4), .inl (jm_iload 4), .inl (jm_iflt 54), .inl (jm_aload 0), .inl (jm_gS 6 0 1 (fun i => i)), .inl (jm_iload 1), .inl (jm_iload 2), .inl (jm_iload 3), .inl jm_ineg, .inr (.inr (222, 4, 2)), .inl (jm_aload 0), .inl (jm_gS 6 0 1 (fun i => i)), .inl (jm_iload 1), .inl (jm_iload 4), .inl (jm_iload 3), .inr (.inr (222, 4, 2)), .inl (jm_ic 1), .inr (.inl (jm_nret .boolean)), .inl (jm_iinc 2 1), .inl (jm_goto 13), .inl (jm_iinc 1 1), .inl (jm_goto 2), .inl (jm_ic 0), .inr (.inl (jm_nret .boolean))]
def met_264 : jm_M := (hdr_264.1, hdr_264.2, [0, 1, 2, 3, 4, 7, 10, 13, 14, 17, 20, 21, 22, 23, 24, 25, 28, 31, 32, 33, 36, 37, 40, 43, 44, 45, 46, 47, 48, 49, 52, 53, 54, 55, 58, 61, 62, 64, 66, 69, 70, 73, 74, 75, 76, 77, 80, 81, 84, 85, 87, 88, 91, 92, 93, 96, 99, 102, 105, 106], cod_264)
abbrev cod_265 : List jm_I := [.inl (jm_aload 0), .inl (jm_gS 6 0 1 (fun i => i)), .inl (jm_gS 1 8 16 (fun i => i)), .inl (jm_iload 1), .inl jm_iald, .inl (jm_istore 3), .inl (jm_iload 3), .inl (jm_aload 0), .inl (jm_gS 6 0 1 (fun i => i)), .inl (jm_gS 1 9 17 (fun i => i)), .inl (jm_iload 1), .inl jm_iald, .inl (jm_icgt 41), .inl (jm_iload 3), .inl (jm_iload 2), .inl (jm_iceq 39), .inl (jm_aload 0), .inl (jm_gS 6 0 1 (fun i => i)), .inl (jm_gS 1 12 20 (fun i => i)), .inl (jm_iload 1), .inl jm_aald, .inl (jm_iload 3), .inl jm_iald, .inl (jm_ifle 39), .inl (jm_aload 0), .inl (jm_gS 6 0 1 (fun i => i)), .inl (jm_gS 1 11 19 (fun i => i)), .inl (jm_iload 3), .inl jm_iald, .inl (jm_aload 0), .inl (jm_gS 6 0 1 (fun i => i)), .inl (jm_gS 1 12 20 (fun i => i)), .inl (jm_iload 1), .inl jm_aald, .inl (jm_iload 2), .inl jm_iald, .inl (jm_iclt 39), .inl (jm_iload 3), .inr (.inl jm_iret), .inl (jm_iinc 3 1), .inl (jm_goto 6), .inl (jm_ic (-1)), .inr (.inl jm_iret)]
def met_265 : jm_M := (hdr_265.1, hdr_265.2, [0, 1, 4, 7, 8, 9, 10, 11, 12, 15, 18, 19, 20, 23, 24, 25, 28, 29, 32, 35, 36, 37, 38, 39, 42, 43, 46, 49, 50, 51, 52, 55, 58, 59, 60, 61, 62, 65, 66, 67, 70, 73, 74], cod_265)
abbrev cod_266 : List jm_I := [.inl (jm_ic 0), .inl (jm_istore 1), .inl (jm_ic 0), .inl (jm_istore 2), .inl (jm_iload 2), .inl (jm_aload 0), .inl (jm_gS 6 0 1 (fun i => i)), .inl (jm_gI 1 3), .inl (jm_icge 35), .inl (jm_aload 0), .inl (jm_gS 6 0 1 (fun i => i)), .inl (jm_gS 1 8 16 (fun i => i)), .inl (jm_iload 2), .inl jm_iald, .inl (jm_istore 3), .inl (jm_iload 3), .inl (jm_aload 0), .inl (jm_gS 6 0 1 (fun i => i)), .inl (jm_gS 1 9 17 (fun i => i)), .inl (jm_iload 2), .inl jm_iald, .inl (jm_icgt 33), .inl (jm_aload 0), .inl (jm_gS 6 0 1 (fun i => i)), .inl (jm_gS 1 12 20 (fun i => i)), .inl (jm_iload 2), .inl jm_aald, .inl (jm_iload 3), .inl jm_iald, .inl (jm_ifle 31), .inl (jm_iinc 1 1), .inl (jm_iinc 3 1), .inl (jm_goto 15), .inl (jm_iinc 2 1), .inl (jm_goto 4), .inl (jm_iload 1), .inr (.inl jm_iret)]
def met_266 : jm_M := (hdr_266.1, hdr_266.2, [0, 1, 2, 3, 4, 5, 6, 9, 12, 15, 16, 19, 22, 23, 24, 25, 26, 27, 30, 33, 34, 35, 38, 39, 42, 45, 46, 47, 48, 49, 52, 55, 58, 61, 64, 67, 68], cod_266)
abbrev cod_267 : List jm_I := [.inl (jm_iload 2), .inl (jm_aload 0), .inl (jm_gS 6 0 1 (fun i => i)), .inl (jm_gI 1 0), .inl (jm_bin (fun a b => a * b)), .inl (jm_istore 3), .inl (jm_ic 0), .inl (jm_istore 4), .inl (jm_iload 4), .inl (jm_aload 0), .inl (jm_gS 6 0 1 (fun i => i)), .inl (jm_gI 1 3), .inl (jm_icge 50), .inl (jm_aload 0), .inl (jm_gS 6 0 1 (fun i => i)), .inl (jm_gS 1 6 14 (fun i => i)), .inl (jm_iload 4), .inl jm_iald, .inl (jm_aload 0), .inl (jm_gS 6 0 1 (fun i => i)), .inl (jm_gS 1 6 14 (fun i => i)), .inl (jm_iload 1), .inl jm_iald, .inl (jm_iclt 38), .inl (jm_aload 0), .inl (jm_gS 6 0 1 (fun i => i)), .inl (jm_gS 1 6 14 (fun i => i)), .inl (jm_iload 4), .inl jm_iald, .inl (jm_aload 0), .inl (jm_gS 6 0 1 (fun i => i)), .inl (jm_gS 1 6 14 (fun i => i)), .inl (jm_iload 1), .inl jm_iald, .inl (jm_icne 48), .inl (jm_iload 4), .inl (jm_iload 1), .inl (jm_icge 48), .inl (jm_iload 3), .inl (jm_aload 0), .inl (jm_gS 6 0 1 (fun i => i)), .inl (jm_gS 1 12 20 (fun i => i)), .inl (jm_iload 4), .inl jm_aald, .inl (jm_iload 2), .inl jm_iald, .inl (jm_bin (fun a b => a + b)), .inl (jm_istore 3), .inl (jm_iinc 4 1), .inl (jm_goto 8), .inl (jm_iload 3), .inr (.inl jm_iret)]
def met_267 : jm_M := (hdr_267.1, hdr_267.2, [0, 1, 2, 5, 8, 9, 10, 11, 13, 15, 16, 19, 22, 25, 26, 29, 32, 34, 35, 36, 39, 42, 43, 44, 47, 48, 51, 54, 56, 57, 58, 61, 64, 65, 66, 69, 71, 72, 75, 76, 77, 80, 83, 85, 86, 87, 88, 89, 90, 93, 96, 97], cod_267)
abbrev cod_268 : List jm_I := [.inl (jm_aload 0), .inl (jm_gS 6 0 1 (fun i => i)), .inl (jm_gS 1 9 17 (fun i => i)), .inl (jm_iload 1), .inl jm_iald, .inl (jm_istore 2), .inl (jm_iload 2), .inl (jm_aload 0), .inl (jm_gS 6 0 1 (fun i => i)), .inl (jm_gS 1 8 16 (fun i => i)), .inl (jm_iload 1), .inl jm_iald, .inl (jm_iclt 25), .inl (jm_aload 0), .inl (jm_gS 6 0 1 (fun i => i)), .inl (jm_gS 1 12 20 (fun i => i)), .inl (jm_iload 1), .inl jm_aald, .inl (jm_iload 2), .inl jm_iald, .inl (jm_ifle 23), .inl (jm_iload 2), .inr (.inl jm_iret), .inl (jm_iinc 2 (-1)), .inl (jm_goto 6), .inl (jm_ic (-1)), .inr (.inl jm_iret)]
def met_268 : jm_M := (hdr_268.1, hdr_268.2, [0, 1, 4, 7, 8, 9, 10, 11, 12, 15, 18, 19, 20, 23, 24, 27, 30, 31, 32, 33, 34, 37, 38, 39, 42, 45, 46], cod_268)
abbrev cod_269 : List jm_I := [.inl (jm_aload 0), .inl (jm_iload 1), .inr (.inr (268, 2, 7)), .inl (jm_istore 2), .inl (jm_iload 2), .inl (jm_ifge 8), .inl (jm_ic (-2)), .inl (jm_goto 20), .inl (jm_aload 0), .inl (jm_iload 1), .inl (jm_iload 2), .inr (.inr (267, 3, 7)), .inl (jm_aload 0), .inl (jm_gS 6 0 1 (fun i => i)), .inl (jm_gS 1 12 20 (fun i => i)), .inl (jm_iload 1), .inl jm_aald, .inl (jm_iload 2), .inl jm_iald, .inl (jm_bin (fun a b => a + b)), .inr (.inl jm_iret)]
def met_269 : jm_M := (hdr_269.1, hdr_269.2, [0, 1, 2, 5, 6, 7, 10, 12, 15, 16, 17, 18, 21, 22, 25, 28, 29, 30, 31, 32, 33], cod_269)
abbrev cod_270 : List jm_I := [.inl (jm_ic 0), .inl (jm_istore 2), .inl (jm_ic 0), .inl (jm_istore 3), .inl (jm_iload 3), .inl (jm_aload 0), .inl (jm_gS 6 0 1 (fun i => i)), .inl (jm_gI 1 3), .inl (jm_icge 33), .inl (jm_aload 0), .inl (jm_gS 6 0 1 (fun i => i)), .inl (jm_gS 1 5 13 (fun i => i)), .inl (jm_iload 3), .inl jm_iald, .inl (jm_iload 1), .inl (jm_aload 0), .inl (jm_gS 6 0 1 (fun i => i)), .inl (jm_gI 1 0), .inl (jm_bin (fun a b => a * b)), .inl (jm_icge 31), .inl (jm_aload 0), .inl (jm_iload 3), .inr (.inr (268, 2, 7)), .inl (jm_iload 1), .inl (jm_iclt 31), .inl (jm_iload 2), .inl (jm_ic 1), .inl (jm_iload 3), .inl (jm_bin (fun a b => a <<< (b &&& 31))), .inl (jm_bin (fun a b => a ||| b)), .inl (jm_istore 2), .inl (jm_iinc 3 1), .inl (jm_goto 4), .inl (jm_iload 2), .inr (.inl jm_iret)]
def met_270 : jm_M := (hdr_270.1, hdr_270.2, [0, 1, 2, 3, 4, 5, 6, 9, 12, 15, 16, 19, 22, 23, 24, 25, 26, 29, 32, 33, 36, 37, 38, 41, 42, 45, 46, 47, 48, 49, 50, 51, 54, 57, 58], cod_270)
abbrev cod_271 : List jm_I := [.inl (jm_iload 1), .inl (jm_istore 2), .inl (jm_ic 0), .inl (jm_istore 3), .inl (jm_aload 0), .inl (jm_gI 6 1), .inl (jm_ifeq 28), .inl (jm_iload 3), .inl (jm_aload 0), .inl (jm_gS 6 0 1 (fun i => i)), .inl (jm_gI 1 2), .inl (jm_icge 28), .inl (jm_aload 0), .inl (jm_gS 6 0 1 (fun i => i)), .inl (jm_gS 1 11 19 (fun i => i)), .inl (jm_iload 3), .inl jm_iald, .inl (jm_aload 0), .inl (jm_gS 6 0 1 (fun i => i)), .inl (jm_gI 1 1), .inl (jm_icne 26), .inl (jm_iload 2), .inl (jm_ifne 25), .inl (jm_iload 3), .inr (.inl jm_iret), .inl (jm_iinc 2 (-1)), .inl (jm_iinc 3 1), .inl (jm_goto 4), .inl (jm_ic (-1)), .inr (.inl jm_iret)]
def met_271 : jm_M := (hdr_271.1, hdr_271.2, [0, 1, 2, 3, 4, 5, 8, 11, 12, 13, 16, 19, 22, 23, 26, 29, 30, 31, 32, 35, 38, 41, 42, 45, 46, 47, 50, 53, 56, 57], cod_271)
abbrev cod_272 : List jm_I := [.inl (jm_dc 4652007308841189376), .inl (jm_ic 1), .inl (jm_iload 0), .inl jm_max, .inl jm_i2d, .inl (jm_dbin FP.ddiv), .inr (.inl jm_dret)]
def met_272 : jm_M := (hdr_272.1, hdr_272.2, [0, 3, 4, 5, 8, 9, 10], cod_272)
abbrev cod_273 : List jm_I := [.inl (jm_dload 2), .inl (jm_dstore 4), .inl (jm_ic 0), .inl (jm_istore 6), .inl (jm_iload 6), .inl (jm_ic 64), .inl (jm_icge 19), .inl (jm_dload 4), .inl (jm_dload 4), .inl (jm_dbin FP.dadd), .inl (jm_dload 0), .inl (jm_dcmp .g), .inl (jm_ifgt 19), .inl (jm_dload 4), .inl (jm_dload 4), .inl (jm_dbin FP.dadd), .inl (jm_dstore 4), .inl (jm_iinc 6 1), .inl (jm_goto 4), .inl (jm_dload 0), .inl (jm_dstore 7), .inl (jm_ic 0), .inl (jm_istore 9), .inl (jm_iload 9), .inl (jm_iload 6), .inl (jm_icgt 40), .inl (jm_dload 7), .inl (jm_dload 4), .inl (jm_dcmp .l), .inl (jm_iflt 34), .inl (jm_dload 7), .inl (jm_dload 4), .inl (jm_dbin FP.dsub), .inl (jm_dstore 7), .inl (jm_dload 4), .inl (jm_dc 4611686018427387904), .inl (jm_dbin FP.ddiv), .inl (jm_dstore 4), .inl (jm_iinc 9 1), .inl (jm_goto 23), .inl (jm_dload 7), .inr (.inl jm_dret)]
def met_273 : jm_M := (hdr_273.1, hdr_273.2, [0, 1, 3, 4, 6, 8, 10, 13, 15, 17, 18, 19, 20, 23, 25, 27, 28, 30, 33, 36, 37, 39, 40, 42, 44, 46, 49, 51, 53, 54, 57, 59, 61, 62, 64, 66, 69, 70, 72, 75, 78, 80], cod_273)
abbrev cod_274 : List jm_I := [.inl (jm_dload 0), .inl (jm_dc FP.dconst0), .inl (jm_dcmp .l), .inl (jm_ifgt 6), .inl (jm_lc 0), .inr (.inl jm_lret), .inl (jm_dload 0), .inl (jm_dstore 4), .inl (jm_iload 3), .inl jm_i2l, .inl (jm_lstore 6), .inl (jm_ic 0), .inl (jm_istore 8), .inl (jm_iload 8), .inl (jm_ic 1100), .inl (jm_icge 30), .inl (jm_dload 4), .inl (jm_dc 4611686018427387904), .inl (jm_dcmp .l), .inl (jm_iflt 30), .inl (jm_dload 4), .inl (jm_dc 4611686018427387904), .inl (jm_dbin FP.ddiv), .inl (jm_dstore 4), .inl (jm_lload 6), .inl (jm_lc 1), .inl jm_ladd, .inl (jm_lstore 6), .inl (jm_iinc 8 1), .inl (jm_goto 13), .inl (jm_ic 0), .inl (jm_istore 8), .inl (jm_iload 8), .inl (jm_ic 1100), .inl (jm_icge 49), .inl (jm_dload 4), .inl (jm_dc FP.dconst1), .inl (jm_dcmp .g), .inl (jm_ifge 49), .inl (jm_dload 4), .inl (jm_dc 4611686018427387904), .inl (jm_dbin FP.dmul), .inl (jm_dstore 4), .inl (jm_lload 6), .inl (jm_lc 1), .inl jm_lsub, .inl (jm_lstore 6), .inl (jm_iinc 8 1), .inl (jm_goto 32), .inl (jm_dload 4), .inl (jm_dc FP.dconst1), .inl (jm_dbin FP.dsub), .inl (jm_lc 1), .inl (jm_iload 2), .inl jm_lshl, .inl jm_l2d, .inl (jm_dbin FP.dmul), .inl (jm_dstore 8), .inl (jm_lload 6), .inl (jm_iload 2), .inl jm_lshl, .inl (jm_dload 8), .inl jm_d2l, .inl jm_ladd, .inr (.inl jm_lret)]
def met_274 : jm_M := (hdr_274.1, hdr_274.2, [0, 1, 2, 3, 6, 7, 8, 9, 11, 12, 13, 15, 16, 18, 20, 23, 26, 28, 31, 32, 35, 37, 40, 41, 43, 45, 46, 47, 49, 52, 55, 56, 58, 60, 63, 66, 68, 69, 70, 73, 75, 78, 79, 81, 83, 84, 85, 87, 90, 93, 95, 96, 97, 98, 99, 100, 101, 102, 104, 106, 107, 108, 110, 111, 112], cod_274)
def jm_ms : List jm_M := [met_0, met_1, met_2, met_3, met_4, met_5, met_6, met_7, met_8, met_9, met_10, met_11, met_12, met_13, met_14, met_15, met_16, met_17, met_18, met_19, met_20, met_21, met_22, met_23, met_24, met_25, met_26, met_27, met_28, met_29, met_30, met_31, met_32, met_33, met_34, met_35, met_36, met_37, met_38, met_39, met_40, met_41, met_42, met_43, met_44, met_45, met_46, met_47, met_48, met_49, met_50, met_51, met_52, met_53, met_54, met_55, met_56, met_57, met_58, met_59, met_60, met_61, met_62, met_63, met_64, met_65, met_66, met_67, met_68, met_69, met_70, met_71, met_72, met_73, met_74, met_75, met_76, met_77, met_78, met_79, met_80, met_81, met_82, met_83, met_84, met_85, met_86, met_87, met_88, met_89, met_90, met_91, met_92, met_93, met_94, met_95, met_96, met_97, met_98, met_99, met_100, met_101, met_102, met_103, met_104, met_105, met_106, met_107, met_108, met_109, met_110, met_111, met_112, met_113, met_114, met_115, met_116, met_117, met_118, met_119, met_120, met_121, met_122, met_123, met_124, met_125, met_126, met_127, met_128, met_129, met_130, met_131, met_132, met_133, met_134, met_135, met_136, met_137, met_138, met_139, met_140, met_141, met_142, met_143, met_144, met_145, met_146, met_147, met_148, met_149, met_150, met_151, met_152, met_153, met_154, met_155, met_156, met_157, met_158, met_159, met_160, met_161, met_162, met_163, met_164, met_165, met_166, met_167, met_168, met_169, met_170, met_171, met_172, met_173, met_174, met_175, met_176, met_177, met_178, met_179, met_180, met_181, met_182, met_183, met_184, met_185, met_186, met_187, met_188, met_189, met_190, met_191, met_192, met_193, met_194, met_195, met_196, met_197, met_198, met_199, met_200, met_201, met_202, met_203, met_204, met_205, met_206, met_207, met_208, met_209, met_210, met_211, met_212, met_213, met_214, met_215, met_216, met_217, met_218, met_219, met_220, met_221, met_222, met_223, met_224, met_225, met_226, met_227, met_228, met_229, met_230, met_231, met_232, met_233, met_234, met_235, met_236, met_237, met_238, met_239, met_240, met_241, met_242, met_243, met_244, met_245, met_246, met_247, met_248, met_249, met_250, met_251, met_252, met_253, met_254, met_255, met_256, met_257, met_258, met_259, met_260, met_261, met_262, met_263, met_264, met_265, met_266, met_267, met_268, met_269, met_270, met_271, met_272, met_273, met_274]
set_option maxRecDepth 100000 in
theorem hz_0 : jm_ms[0]? = some met_0 := rfl
set_option maxRecDepth 100000 in
theorem hz_1 : jm_ms[1]? = some met_1 := rfl
set_option maxRecDepth 100000 in
theorem hz_2 : jm_ms[2]? = some met_2 := rfl
set_option maxRecDepth 100000 in
theorem hz_3 : jm_ms[3]? = some met_3 := rfl
set_option maxRecDepth 100000 in
theorem hz_4 : jm_ms[4]? = some met_4 := rfl
set_option maxRecDepth 100000 in
theorem hz_5 : jm_ms[5]? = some met_5 := rfl
set_option maxRecDepth 100000 in
theorem hz_6 : jm_ms[6]? = some met_6 := rfl
set_option maxRecDepth 100000 in
theorem hz_7 : jm_ms[7]? = some met_7 := rfl
set_option maxRecDepth 100000 in
theorem hz_8 : jm_ms[8]? = some met_8 := rfl
set_option maxRecDepth 100000 in
theorem hz_9 : jm_ms[9]? = some met_9 := rfl
set_option maxRecDepth 100000 in
theorem hz_10 : jm_ms[10]? = some met_10 := rfl
set_option maxRecDepth 100000 in
theorem hz_11 : jm_ms[11]? = some met_11 := rfl
set_option maxRecDepth 100000 in
theorem hz_12 : jm_ms[12]? = some met_12 := rfl
set_option maxRecDepth 100000 in
theorem hz_13 : jm_ms[13]? = some met_13 := rfl
set_option maxRecDepth 100000 in
theorem hz_14 : jm_ms[14]? = some met_14 := rfl
set_option maxRecDepth 100000 in
theorem hz_15 : jm_ms[15]? = some met_15 := rfl
set_option maxRecDepth 100000 in
theorem hz_16 : jm_ms[16]? = some met_16 := rfl
set_option maxRecDepth 100000 in
theorem hz_17 : jm_ms[17]? = some met_17 := rfl
set_option maxRecDepth 100000 in
theorem hz_18 : jm_ms[18]? = some met_18 := rfl
set_option maxRecDepth 100000 in
theorem hz_19 : jm_ms[19]? = some met_19 := rfl
set_option maxRecDepth 100000 in
theorem hz_20 : jm_ms[20]? = some met_20 := rfl
set_option maxRecDepth 100000 in
theorem hz_21 : jm_ms[21]? = some met_21 := rfl
set_option maxRecDepth 100000 in
theorem hz_22 : jm_ms[22]? = some met_22 := rfl
set_option maxRecDepth 100000 in
theorem hz_23 : jm_ms[23]? = some met_23 := rfl
set_option maxRecDepth 100000 in
theorem hz_24 : jm_ms[24]? = some met_24 := rfl
set_option maxRecDepth 100000 in
theorem hz_25 : jm_ms[25]? = some met_25 := rfl
set_option maxRecDepth 100000 in
theorem hz_26 : jm_ms[26]? = some met_26 := rfl
set_option maxRecDepth 100000 in
theorem hz_27 : jm_ms[27]? = some met_27 := rfl
set_option maxRecDepth 100000 in
theorem hz_28 : jm_ms[28]? = some met_28 := rfl
set_option maxRecDepth 100000 in
theorem hz_29 : jm_ms[29]? = some met_29 := rfl
set_option maxRecDepth 100000 in
theorem hz_30 : jm_ms[30]? = some met_30 := rfl
set_option maxRecDepth 100000 in
theorem hz_31 : jm_ms[31]? = some met_31 := rfl
set_option maxRecDepth 100000 in
theorem hz_32 : jm_ms[32]? = some met_32 := rfl
set_option maxRecDepth 100000 in
theorem hz_33 : jm_ms[33]? = some met_33 := rfl
set_option maxRecDepth 100000 in
theorem hz_34 : jm_ms[34]? = some met_34 := rfl
set_option maxRecDepth 100000 in
theorem hz_35 : jm_ms[35]? = some met_35 := rfl
set_option maxRecDepth 100000 in
theorem hz_36 : jm_ms[36]? = some met_36 := rfl
set_option maxRecDepth 100000 in
theorem hz_37 : jm_ms[37]? = some met_37 := rfl
set_option maxRecDepth 100000 in
theorem hz_38 : jm_ms[38]? = some met_38 := rfl
set_option maxRecDepth 100000 in
theorem hz_39 : jm_ms[39]? = some met_39 := rfl
set_option maxRecDepth 100000 in
theorem hz_40 : jm_ms[40]? = some met_40 := rfl
set_option maxRecDepth 100000 in
theorem hz_41 : jm_ms[41]? = some met_41 := rfl
set_option maxRecDepth 100000 in
theorem hz_42 : jm_ms[42]? = some met_42 := rfl
set_option maxRecDepth 100000 in
theorem hz_43 : jm_ms[43]? = some met_43 := rfl
set_option maxRecDepth 100000 in
theorem hz_44 : jm_ms[44]? = some met_44 := rfl
set_option maxRecDepth 100000 in
theorem hz_45 : jm_ms[45]? = some met_45 := rfl
set_option maxRecDepth 100000 in
theorem hz_46 : jm_ms[46]? = some met_46 := rfl
set_option maxRecDepth 100000 in
theorem hz_47 : jm_ms[47]? = some met_47 := rfl
set_option maxRecDepth 100000 in
theorem hz_48 : jm_ms[48]? = some met_48 := rfl
set_option maxRecDepth 100000 in
theorem hz_49 : jm_ms[49]? = some met_49 := rfl
set_option maxRecDepth 100000 in
theorem hz_50 : jm_ms[50]? = some met_50 := rfl
set_option maxRecDepth 100000 in
theorem hz_51 : jm_ms[51]? = some met_51 := rfl
set_option maxRecDepth 100000 in
theorem hz_52 : jm_ms[52]? = some met_52 := rfl
set_option maxRecDepth 100000 in
theorem hz_53 : jm_ms[53]? = some met_53 := rfl
set_option maxRecDepth 100000 in
theorem hz_54 : jm_ms[54]? = some met_54 := rfl
set_option maxRecDepth 100000 in
theorem hz_55 : jm_ms[55]? = some met_55 := rfl
set_option maxRecDepth 100000 in
theorem hz_56 : jm_ms[56]? = some met_56 := rfl
set_option maxRecDepth 100000 in
theorem hz_57 : jm_ms[57]? = some met_57 := rfl
set_option maxRecDepth 100000 in
theorem hz_58 : jm_ms[58]? = some met_58 := rfl
set_option maxRecDepth 100000 in
theorem hz_59 : jm_ms[59]? = some met_59 := rfl
set_option maxRecDepth 100000 in
theorem hz_60 : jm_ms[60]? = some met_60 := rfl
set_option maxRecDepth 100000 in
theorem hz_61 : jm_ms[61]? = some met_61 := rfl
set_option maxRecDepth 100000 in
theorem hz_62 : jm_ms[62]? = some met_62 := rfl
set_option maxRecDepth 100000 in
theorem hz_63 : jm_ms[63]? = some met_63 := rfl
set_option maxRecDepth 100000 in
theorem hz_64 : jm_ms[64]? = some met_64 := rfl
set_option maxRecDepth 100000 in
theorem hz_65 : jm_ms[65]? = some met_65 := rfl
set_option maxRecDepth 100000 in
theorem hz_66 : jm_ms[66]? = some met_66 := rfl
set_option maxRecDepth 100000 in
theorem hz_67 : jm_ms[67]? = some met_67 := rfl
set_option maxRecDepth 100000 in
theorem hz_68 : jm_ms[68]? = some met_68 := rfl
set_option maxRecDepth 100000 in
theorem hz_69 : jm_ms[69]? = some met_69 := rfl
set_option maxRecDepth 100000 in
theorem hz_70 : jm_ms[70]? = some met_70 := rfl
set_option maxRecDepth 100000 in
theorem hz_71 : jm_ms[71]? = some met_71 := rfl
set_option maxRecDepth 100000 in
theorem hz_72 : jm_ms[72]? = some met_72 := rfl
set_option maxRecDepth 100000 in
theorem hz_73 : jm_ms[73]? = some met_73 := rfl
set_option maxRecDepth 100000 in
theorem hz_74 : jm_ms[74]? = some met_74 := rfl
set_option maxRecDepth 100000 in
theorem hz_75 : jm_ms[75]? = some met_75 := rfl
set_option maxRecDepth 100000 in
theorem hz_76 : jm_ms[76]? = some met_76 := rfl
set_option maxRecDepth 100000 in
theorem hz_77 : jm_ms[77]? = some met_77 := rfl
set_option maxRecDepth 100000 in
theorem hz_78 : jm_ms[78]? = some met_78 := rfl
set_option maxRecDepth 100000 in
theorem hz_79 : jm_ms[79]? = some met_79 := rfl
set_option maxRecDepth 100000 in
theorem hz_80 : jm_ms[80]? = some met_80 := rfl
set_option maxRecDepth 100000 in
theorem hz_81 : jm_ms[81]? = some met_81 := rfl
set_option maxRecDepth 100000 in
theorem hz_82 : jm_ms[82]? = some met_82 := rfl
set_option maxRecDepth 100000 in
theorem hz_83 : jm_ms[83]? = some met_83 := rfl
set_option maxRecDepth 100000 in
theorem hz_84 : jm_ms[84]? = some met_84 := rfl
set_option maxRecDepth 100000 in
theorem hz_85 : jm_ms[85]? = some met_85 := rfl
set_option maxRecDepth 100000 in
theorem hz_86 : jm_ms[86]? = some met_86 := rfl
set_option maxRecDepth 100000 in
theorem hz_87 : jm_ms[87]? = some met_87 := rfl
set_option maxRecDepth 100000 in
theorem hz_88 : jm_ms[88]? = some met_88 := rfl
set_option maxRecDepth 100000 in
theorem hz_89 : jm_ms[89]? = some met_89 := rfl
set_option maxRecDepth 100000 in
theorem hz_90 : jm_ms[90]? = some met_90 := rfl
set_option maxRecDepth 100000 in
theorem hz_91 : jm_ms[91]? = some met_91 := rfl
set_option maxRecDepth 100000 in
theorem hz_92 : jm_ms[92]? = some met_92 := rfl
set_option maxRecDepth 100000 in
theorem hz_93 : jm_ms[93]? = some met_93 := rfl
set_option maxRecDepth 100000 in
theorem hz_94 : jm_ms[94]? = some met_94 := rfl
set_option maxRecDepth 100000 in
theorem hz_95 : jm_ms[95]? = some met_95 := rfl
set_option maxRecDepth 100000 in
theorem hz_96 : jm_ms[96]? = some met_96 := rfl
set_option maxRecDepth 100000 in
theorem hz_97 : jm_ms[97]? = some met_97 := rfl
set_option maxRecDepth 100000 in
theorem hz_98 : jm_ms[98]? = some met_98 := rfl
set_option maxRecDepth 100000 in
theorem hz_99 : jm_ms[99]? = some met_99 := rfl
set_option maxRecDepth 100000 in
theorem hz_100 : jm_ms[100]? = some met_100 := rfl
set_option maxRecDepth 100000 in
theorem hz_101 : jm_ms[101]? = some met_101 := rfl
set_option maxRecDepth 100000 in
theorem hz_102 : jm_ms[102]? = some met_102 := rfl
set_option maxRecDepth 100000 in
theorem hz_103 : jm_ms[103]? = some met_103 := rfl
set_option maxRecDepth 100000 in
theorem hz_104 : jm_ms[104]? = some met_104 := rfl
set_option maxRecDepth 100000 in
theorem hz_105 : jm_ms[105]? = some met_105 := rfl
set_option maxRecDepth 100000 in
theorem hz_106 : jm_ms[106]? = some met_106 := rfl
set_option maxRecDepth 100000 in
theorem hz_107 : jm_ms[107]? = some met_107 := rfl
set_option maxRecDepth 100000 in
theorem hz_108 : jm_ms[108]? = some met_108 := rfl
set_option maxRecDepth 100000 in
theorem hz_109 : jm_ms[109]? = some met_109 := rfl
set_option maxRecDepth 100000 in
theorem hz_110 : jm_ms[110]? = some met_110 := rfl
set_option maxRecDepth 100000 in
theorem hz_111 : jm_ms[111]? = some met_111 := rfl
set_option maxRecDepth 100000 in
theorem hz_112 : jm_ms[112]? = some met_112 := rfl
set_option maxRecDepth 100000 in
theorem hz_113 : jm_ms[113]? = some met_113 := rfl
set_option maxRecDepth 100000 in
theorem hz_114 : jm_ms[114]? = some met_114 := rfl
set_option maxRecDepth 100000 in
theorem hz_115 : jm_ms[115]? = some met_115 := rfl
set_option maxRecDepth 100000 in
theorem hz_116 : jm_ms[116]? = some met_116 := rfl
set_option maxRecDepth 100000 in
theorem hz_117 : jm_ms[117]? = some met_117 := rfl
set_option maxRecDepth 100000 in
theorem hz_118 : jm_ms[118]? = some met_118 := rfl
set_option maxRecDepth 100000 in
theorem hz_119 : jm_ms[119]? = some met_119 := rfl
set_option maxRecDepth 100000 in
theorem hz_120 : jm_ms[120]? = some met_120 := rfl
set_option maxRecDepth 100000 in
theorem hz_121 : jm_ms[121]? = some met_121 := rfl
set_option maxRecDepth 100000 in
theorem hz_122 : jm_ms[122]? = some met_122 := rfl
set_option maxRecDepth 100000 in
theorem hz_123 : jm_ms[123]? = some met_123 := rfl
set_option maxRecDepth 100000 in
theorem hz_124 : jm_ms[124]? = some met_124 := rfl
set_option maxRecDepth 100000 in
theorem hz_125 : jm_ms[125]? = some met_125 := rfl
set_option maxRecDepth 100000 in
theorem hz_126 : jm_ms[126]? = some met_126 := rfl
set_option maxRecDepth 100000 in
theorem hz_127 : jm_ms[127]? = some met_127 := rfl
set_option maxRecDepth 100000 in
theorem hz_128 : jm_ms[128]? = some met_128 := rfl
set_option maxRecDepth 100000 in
theorem hz_129 : jm_ms[129]? = some met_129 := rfl
set_option maxRecDepth 100000 in
theorem hz_130 : jm_ms[130]? = some met_130 := rfl
set_option maxRecDepth 100000 in
theorem hz_131 : jm_ms[131]? = some met_131 := rfl
set_option maxRecDepth 100000 in
theorem hz_132 : jm_ms[132]? = some met_132 := rfl
set_option maxRecDepth 100000 in
theorem hz_133 : jm_ms[133]? = some met_133 := rfl
set_option maxRecDepth 100000 in
theorem hz_134 : jm_ms[134]? = some met_134 := rfl
set_option maxRecDepth 100000 in
theorem hz_135 : jm_ms[135]? = some met_135 := rfl
set_option maxRecDepth 100000 in
theorem hz_136 : jm_ms[136]? = some met_136 := rfl
set_option maxRecDepth 100000 in
theorem hz_137 : jm_ms[137]? = some met_137 := rfl
set_option maxRecDepth 100000 in
theorem hz_138 : jm_ms[138]? = some met_138 := rfl
set_option maxRecDepth 100000 in
theorem hz_139 : jm_ms[139]? = some met_139 := rfl
set_option maxRecDepth 100000 in
theorem hz_140 : jm_ms[140]? = some met_140 := rfl
set_option maxRecDepth 100000 in
theorem hz_141 : jm_ms[141]? = some met_141 := rfl
set_option maxRecDepth 100000 in
theorem hz_142 : jm_ms[142]? = some met_142 := rfl
set_option maxRecDepth 100000 in
theorem hz_143 : jm_ms[143]? = some met_143 := rfl
set_option maxRecDepth 100000 in
theorem hz_144 : jm_ms[144]? = some met_144 := rfl
set_option maxRecDepth 100000 in
theorem hz_145 : jm_ms[145]? = some met_145 := rfl
set_option maxRecDepth 100000 in
theorem hz_146 : jm_ms[146]? = some met_146 := rfl
set_option maxRecDepth 100000 in
theorem hz_147 : jm_ms[147]? = some met_147 := rfl
set_option maxRecDepth 100000 in
theorem hz_148 : jm_ms[148]? = some met_148 := rfl
set_option maxRecDepth 100000 in
theorem hz_149 : jm_ms[149]? = some met_149 := rfl
set_option maxRecDepth 100000 in
theorem hz_150 : jm_ms[150]? = some met_150 := rfl
set_option maxRecDepth 100000 in
theorem hz_151 : jm_ms[151]? = some met_151 := rfl
set_option maxRecDepth 100000 in
theorem hz_152 : jm_ms[152]? = some met_152 := rfl
set_option maxRecDepth 100000 in
theorem hz_153 : jm_ms[153]? = some met_153 := rfl
set_option maxRecDepth 100000 in
theorem hz_154 : jm_ms[154]? = some met_154 := rfl
set_option maxRecDepth 100000 in
theorem hz_155 : jm_ms[155]? = some met_155 := rfl
set_option maxRecDepth 100000 in
theorem hz_156 : jm_ms[156]? = some met_156 := rfl
set_option maxRecDepth 100000 in
theorem hz_157 : jm_ms[157]? = some met_157 := rfl
set_option maxRecDepth 100000 in
theorem hz_158 : jm_ms[158]? = some met_158 := rfl
set_option maxRecDepth 100000 in
theorem hz_159 : jm_ms[159]? = some met_159 := rfl
set_option maxRecDepth 100000 in
theorem hz_160 : jm_ms[160]? = some met_160 := rfl
set_option maxRecDepth 100000 in
theorem hz_161 : jm_ms[161]? = some met_161 := rfl
set_option maxRecDepth 100000 in
theorem hz_162 : jm_ms[162]? = some met_162 := rfl
set_option maxRecDepth 100000 in
theorem hz_163 : jm_ms[163]? = some met_163 := rfl
set_option maxRecDepth 100000 in
theorem hz_164 : jm_ms[164]? = some met_164 := rfl
set_option maxRecDepth 100000 in
theorem hz_165 : jm_ms[165]? = some met_165 := rfl
set_option maxRecDepth 100000 in
theorem hz_166 : jm_ms[166]? = some met_166 := rfl
set_option maxRecDepth 100000 in
theorem hz_167 : jm_ms[167]? = some met_167 := rfl
set_option maxRecDepth 100000 in
theorem hz_168 : jm_ms[168]? = some met_168 := rfl
set_option maxRecDepth 100000 in
theorem hz_169 : jm_ms[169]? = some met_169 := rfl
set_option maxRecDepth 100000 in
theorem hz_170 : jm_ms[170]? = some met_170 := rfl
set_option maxRecDepth 100000 in
theorem hz_171 : jm_ms[171]? = some met_171 := rfl
set_option maxRecDepth 100000 in
theorem hz_172 : jm_ms[172]? = some met_172 := rfl
set_option maxRecDepth 100000 in
theorem hz_173 : jm_ms[173]? = some met_173 := rfl
set_option maxRecDepth 100000 in
theorem hz_174 : jm_ms[174]? = some met_174 := rfl
set_option maxRecDepth 100000 in
theorem hz_175 : jm_ms[175]? = some met_175 := rfl
set_option maxRecDepth 100000 in
theorem hz_176 : jm_ms[176]? = some met_176 := rfl
set_option maxRecDepth 100000 in
theorem hz_177 : jm_ms[177]? = some met_177 := rfl
set_option maxRecDepth 100000 in
theorem hz_178 : jm_ms[178]? = some met_178 := rfl
set_option maxRecDepth 100000 in
theorem hz_179 : jm_ms[179]? = some met_179 := rfl
set_option maxRecDepth 100000 in
theorem hz_180 : jm_ms[180]? = some met_180 := rfl
set_option maxRecDepth 100000 in
theorem hz_181 : jm_ms[181]? = some met_181 := rfl
set_option maxRecDepth 100000 in
theorem hz_182 : jm_ms[182]? = some met_182 := rfl
set_option maxRecDepth 100000 in
theorem hz_183 : jm_ms[183]? = some met_183 := rfl
set_option maxRecDepth 100000 in
theorem hz_184 : jm_ms[184]? = some met_184 := rfl
set_option maxRecDepth 100000 in
theorem hz_185 : jm_ms[185]? = some met_185 := rfl
set_option maxRecDepth 100000 in
theorem hz_186 : jm_ms[186]? = some met_186 := rfl
set_option maxRecDepth 100000 in
theorem hz_187 : jm_ms[187]? = some met_187 := rfl
set_option maxRecDepth 100000 in
theorem hz_188 : jm_ms[188]? = some met_188 := rfl
set_option maxRecDepth 100000 in
theorem hz_189 : jm_ms[189]? = some met_189 := rfl
set_option maxRecDepth 100000 in
theorem hz_190 : jm_ms[190]? = some met_190 := rfl
set_option maxRecDepth 100000 in
theorem hz_191 : jm_ms[191]? = some met_191 := rfl
set_option maxRecDepth 100000 in
theorem hz_192 : jm_ms[192]? = some met_192 := rfl
set_option maxRecDepth 100000 in
theorem hz_193 : jm_ms[193]? = some met_193 := rfl
set_option maxRecDepth 100000 in
theorem hz_194 : jm_ms[194]? = some met_194 := rfl
set_option maxRecDepth 100000 in
theorem hz_195 : jm_ms[195]? = some met_195 := rfl
set_option maxRecDepth 100000 in
theorem hz_196 : jm_ms[196]? = some met_196 := rfl
set_option maxRecDepth 100000 in
theorem hz_197 : jm_ms[197]? = some met_197 := rfl
set_option maxRecDepth 100000 in
theorem hz_198 : jm_ms[198]? = some met_198 := rfl
set_option maxRecDepth 100000 in
theorem hz_199 : jm_ms[199]? = some met_199 := rfl
set_option maxRecDepth 100000 in
theorem hz_200 : jm_ms[200]? = some met_200 := rfl
set_option maxRecDepth 100000 in
theorem hz_201 : jm_ms[201]? = some met_201 := rfl
set_option maxRecDepth 100000 in
theorem hz_202 : jm_ms[202]? = some met_202 := rfl
set_option maxRecDepth 100000 in
theorem hz_203 : jm_ms[203]? = some met_203 := rfl
set_option maxRecDepth 100000 in
theorem hz_204 : jm_ms[204]? = some met_204 := rfl
set_option maxRecDepth 100000 in
theorem hz_205 : jm_ms[205]? = some met_205 := rfl
set_option maxRecDepth 100000 in
theorem hz_206 : jm_ms[206]? = some met_206 := rfl
set_option maxRecDepth 100000 in
theorem hz_207 : jm_ms[207]? = some met_207 := rfl
set_option maxRecDepth 100000 in
theorem hz_208 : jm_ms[208]? = some met_208 := rfl
set_option maxRecDepth 100000 in
theorem hz_209 : jm_ms[209]? = some met_209 := rfl
set_option maxRecDepth 100000 in
theorem hz_210 : jm_ms[210]? = some met_210 := rfl
set_option maxRecDepth 100000 in
theorem hz_211 : jm_ms[211]? = some met_211 := rfl
set_option maxRecDepth 100000 in
theorem hz_212 : jm_ms[212]? = some met_212 := rfl
set_option maxRecDepth 100000 in
theorem hz_213 : jm_ms[213]? = some met_213 := rfl
set_option maxRecDepth 100000 in
theorem hz_214 : jm_ms[214]? = some met_214 := rfl
set_option maxRecDepth 100000 in
theorem hz_215 : jm_ms[215]? = some met_215 := rfl
set_option maxRecDepth 100000 in
theorem hz_216 : jm_ms[216]? = some met_216 := rfl
set_option maxRecDepth 100000 in
theorem hz_217 : jm_ms[217]? = some met_217 := rfl
set_option maxRecDepth 100000 in
theorem hz_218 : jm_ms[218]? = some met_218 := rfl
set_option maxRecDepth 100000 in
theorem hz_219 : jm_ms[219]? = some met_219 := rfl
set_option maxRecDepth 100000 in
theorem hz_220 : jm_ms[220]? = some met_220 := rfl
set_option maxRecDepth 100000 in
theorem hz_221 : jm_ms[221]? = some met_221 := rfl
set_option maxRecDepth 100000 in
theorem hz_222 : jm_ms[222]? = some met_222 := rfl
set_option maxRecDepth 100000 in
theorem hz_223 : jm_ms[223]? = some met_223 := rfl
set_option maxRecDepth 100000 in
theorem hz_224 : jm_ms[224]? = some met_224 := rfl
set_option maxRecDepth 100000 in
theorem hz_225 : jm_ms[225]? = some met_225 := rfl
set_option maxRecDepth 100000 in
theorem hz_226 : jm_ms[226]? = some met_226 := rfl
set_option maxRecDepth 100000 in
theorem hz_227 : jm_ms[227]? = some met_227 := rfl
set_option maxRecDepth 100000 in
theorem hz_228 : jm_ms[228]? = some met_228 := rfl
set_option maxRecDepth 100000 in
theorem hz_229 : jm_ms[229]? = some met_229 := rfl
set_option maxRecDepth 100000 in
theorem hz_230 : jm_ms[230]? = some met_230 := rfl
set_option maxRecDepth 100000 in
theorem hz_231 : jm_ms[231]? = some met_231 := rfl
set_option maxRecDepth 100000 in
theorem hz_232 : jm_ms[232]? = some met_232 := rfl
set_option maxRecDepth 100000 in
theorem hz_233 : jm_ms[233]? = some met_233 := rfl
set_option maxRecDepth 100000 in
theorem hz_234 : jm_ms[234]? = some met_234 := rfl
set_option maxRecDepth 100000 in
theorem hz_235 : jm_ms[235]? = some met_235 := rfl
set_option maxRecDepth 100000 in
theorem hz_236 : jm_ms[236]? = some met_236 := rfl
set_option maxRecDepth 100000 in
theorem hz_237 : jm_ms[237]? = some met_237 := rfl
set_option maxRecDepth 100000 in
theorem hz_238 : jm_ms[238]? = some met_238 := rfl
set_option maxRecDepth 100000 in
theorem hz_239 : jm_ms[239]? = some met_239 := rfl
set_option maxRecDepth 100000 in
theorem hz_240 : jm_ms[240]? = some met_240 := rfl
set_option maxRecDepth 100000 in
theorem hz_241 : jm_ms[241]? = some met_241 := rfl
set_option maxRecDepth 100000 in
theorem hz_242 : jm_ms[242]? = some met_242 := rfl
set_option maxRecDepth 100000 in
theorem hz_243 : jm_ms[243]? = some met_243 := rfl
set_option maxRecDepth 100000 in
theorem hz_244 : jm_ms[244]? = some met_244 := rfl
set_option maxRecDepth 100000 in
theorem hz_245 : jm_ms[245]? = some met_245 := rfl
set_option maxRecDepth 100000 in
theorem hz_246 : jm_ms[246]? = some met_246 := rfl
set_option maxRecDepth 100000 in
theorem hz_247 : jm_ms[247]? = some met_247 := rfl
set_option maxRecDepth 100000 in
theorem hz_248 : jm_ms[248]? = some met_248 := rfl
set_option maxRecDepth 100000 in
theorem hz_249 : jm_ms[249]? = some met_249 := rfl
set_option maxRecDepth 100000 in
theorem hz_250 : jm_ms[250]? = some met_250 := rfl
set_option maxRecDepth 100000 in
theorem hz_251 : jm_ms[251]? = some met_251 := rfl
set_option maxRecDepth 100000 in
theorem hz_252 : jm_ms[252]? = some met_252 := rfl
set_option maxRecDepth 100000 in
theorem hz_253 : jm_ms[253]? = some met_253 := rfl
set_option maxRecDepth 100000 in
theorem hz_254 : jm_ms[254]? = some met_254 := rfl
set_option maxRecDepth 100000 in
theorem hz_255 : jm_ms[255]? = some met_255 := rfl
set_option maxRecDepth 100000 in
theorem hz_256 : jm_ms[256]? = some met_256 := rfl
set_option maxRecDepth 100000 in
theorem hz_257 : jm_ms[257]? = some met_257 := rfl
set_option maxRecDepth 100000 in
theorem hz_258 : jm_ms[258]? = some met_258 := rfl
set_option maxRecDepth 100000 in
theorem hz_259 : jm_ms[259]? = some met_259 := rfl
set_option maxRecDepth 100000 in
theorem hz_260 : jm_ms[260]? = some met_260 := rfl
set_option maxRecDepth 100000 in
theorem hz_261 : jm_ms[261]? = some met_261 := rfl
set_option maxRecDepth 100000 in
theorem hz_262 : jm_ms[262]? = some met_262 := rfl
set_option maxRecDepth 100000 in
theorem hz_263 : jm_ms[263]? = some met_263 := rfl
set_option maxRecDepth 100000 in
theorem hz_264 : jm_ms[264]? = some met_264 := rfl
set_option maxRecDepth 100000 in
theorem hz_265 : jm_ms[265]? = some met_265 := rfl
set_option maxRecDepth 100000 in
theorem hz_266 : jm_ms[266]? = some met_266 := rfl
set_option maxRecDepth 100000 in
theorem hz_267 : jm_ms[267]? = some met_267 := rfl
set_option maxRecDepth 100000 in
theorem hz_268 : jm_ms[268]? = some met_268 := rfl
set_option maxRecDepth 100000 in
theorem hz_269 : jm_ms[269]? = some met_269 := rfl
set_option maxRecDepth 100000 in
theorem hz_270 : jm_ms[270]? = some met_270 := rfl
set_option maxRecDepth 100000 in
theorem hz_271 : jm_ms[271]? = some met_271 := rfl
set_option maxRecDepth 100000 in
theorem hz_272 : jm_ms[272]? = some met_272 := rfl
set_option maxRecDepth 100000 in
theorem hz_273 : jm_ms[273]? = some met_273 := rfl
set_option maxRecDepth 100000 in
theorem hz_274 : jm_ms[274]? = some met_274 := rfl
def jm_All (P : Nat → jm_I → Prop) : Nat → List jm_I → Prop
  | _, [] => True
  | k, i :: r => P k i ∧ jm_All P (k + 1) r
theorem jm_all_nil {P : Nat → jm_I → Prop} {k : Nat} : jm_All P k [] := trivial
theorem jm_all_cons {P : Nat → jm_I → Prop} {k : Nat} {i : jm_I} {r : List jm_I} (h : P k i) (hr : jm_All P (k + 1) r) : jm_All P k (i :: r) := ⟨h, hr⟩
theorem jm_all_get {P : Nat → jm_I → Prop} : ∀ {l : List jm_I} {b : Nat}, jm_All P b l → ∀ (k : Nat) (i : jm_I), l[k]? = some i → P (b + k) i
  | [], _, _, k, i, h => by simp at h
  | j :: r, b, hA, 0, i, h => by cases h; exact hA.1
  | j :: r, b, hA, k + 1, i, h => by
    have := jm_all_get (b := b + 1) hA.2 k i h
    rw [show b + 1 + k = b + (k + 1) by omega] at this
    exact this
theorem jm_call_of {ms : List jm_M} {M M0 : jm_M} {k z n rk : Nat} (hz : ms[z]? = some M0) (h : jm_SC (M0.1, M0.2.1) M k n rk) : jm_Snd ms M k (.inr (.inr (z, n, rk))) := fun M' hM => by
  cases hz.symm.trans hM
  exact h
