/-! THE TABLES' FACTS: what a program checks (laid by wip/whole/zwf.py) -/
theorem zck243_0 : zchkL 243 0 zc243_0 = true := by decide +kernel
theorem zck243_1 : zchkL 243 60 zc243_1 = true := by decide +kernel
theorem zck243_2 : zchkL 243 120 zc243_2 = true := by decide +kernel
theorem zck243_3 : zchkL 243 180 zc243_3 = true := by decide +kernel
theorem zck243_4 : zchkL 243 240 zc243_4 = true := by decide +kernel
theorem zck243_5 : zchkL 243 300 zc243_5 = true := by decide +kernel
theorem zck243_6 : zchkL 243 360 zc243_6 = true := by decide +kernel
theorem zck243_7 : zchkL 243 420 zc243_7 = true := by decide +kernel
theorem zck243_8 : zchkL 243 480 zc243_8 = true := by decide +kernel
theorem zck243_9 : zchkL 243 540 zc243_9 = true := by decide +kernel
theorem zck243_10 : zchkL 243 600 zc243_10 = true := by decide +kernel
theorem zck243_11 : zchkL 243 660 zc243_11 = true := by decide +kernel
theorem zck243_12 : zchkL 243 720 zc243_12 = true := by decide +kernel
theorem zck243_13 : zchkL 243 780 zc243_13 = true := by decide +kernel
theorem zck243_14 : zchkL 243 840 zc243_14 = true := by decide +kernel
theorem zck243_15 : zchkL 243 900 zc243_15 = true := by decide +kernel
theorem zck243_16 : zchkL 243 960 zc243_16 = true := by decide +kernel
theorem zck243_17 : zchkL 243 1020 zc243_17 = true := by decide +kernel
theorem zck243 : zchkL 243 0 zc243 = true := zchkL_app zck243_0 (zchkL_app zck243_1 (zchkL_app zck243_2 (zchkL_app zck243_3 (zchkL_app zck243_4 (zchkL_app zck243_5 (zchkL_app zck243_6 (zchkL_app zck243_7 (zchkL_app zck243_8 (zchkL_app zck243_9 (zchkL_app zck243_10 (zchkL_app zck243_11 (zchkL_app zck243_12 (zchkL_app zck243_13 (zchkL_app zck243_14 (zchkL_app zck243_15 (zchkL_app zck243_16 (zck243_17)))))))))))))))))
