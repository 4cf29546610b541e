set_option maxRecDepth 100000 in
theorem okL_0 : (((codeOf 273).drop 0).take 60).all (okAt (clOf 273) (decide ((yOf 273).name = "<init>")) (retOf 273) (ccOf 273)) = true := by decide +kernel
set_option maxRecDepth 100000 in
theorem okL_1 : (((codeOf 273).drop 60).take 60).all (okAt (clOf 273) (decide ((yOf 273).name = "<init>")) (retOf 273) (ccOf 273)) = true := by decide +kernel
set_option maxRecDepth 100000 in
theorem okL_2 : (((codeOf 273).drop 120).take 60).all (okAt (clOf 273) (decide ((yOf 273).name = "<init>")) (retOf 273) (ccOf 273)) = true := by decide +kernel
set_option maxRecDepth 100000 in
theorem okL_3 : (((codeOf 273).drop 180).take 60).all (okAt (clOf 273) (decide ((yOf 273).name = "<init>")) (retOf 273) (ccOf 273)) = true := by decide +kernel
set_option maxRecDepth 100000 in
theorem okL_4 : (((codeOf 273).drop 240).take 60).all (okAt (clOf 273) (decide ((yOf 273).name = "<init>")) (retOf 273) (ccOf 273)) = true := by decide +kernel
set_option maxRecDepth 100000 in
theorem okL_5 : (((codeOf 273).drop 300).take 60).all (okAt (clOf 273) (decide ((yOf 273).name = "<init>")) (retOf 273) (ccOf 273)) = true := by decide +kernel
set_option maxRecDepth 100000 in
theorem okL_6 : (((codeOf 273).drop 360).take 60).all (okAt (clOf 273) (decide ((yOf 273).name = "<init>")) (retOf 273) (ccOf 273)) = true := by decide +kernel
set_option maxRecDepth 100000 in
theorem okL_7 : (((codeOf 273).drop 420).take 60).all (okAt (clOf 273) (decide ((yOf 273).name = "<init>")) (retOf 273) (ccOf 273)) = true := by decide +kernel
set_option maxRecDepth 100000 in
theorem okL_8 : (((codeOf 273).drop 480).take 60).all (okAt (clOf 273) (decide ((yOf 273).name = "<init>")) (retOf 273) (ccOf 273)) = true := by decide +kernel
set_option maxRecDepth 100000 in
theorem okL_9 : (((codeOf 273).drop 540).take 60).all (okAt (clOf 273) (decide ((yOf 273).name = "<init>")) (retOf 273) (ccOf 273)) = true := by decide +kernel
set_option maxRecDepth 100000 in
theorem okL_10 : (((codeOf 273).drop 600).take 60).all (okAt (clOf 273) (decide ((yOf 273).name = "<init>")) (retOf 273) (ccOf 273)) = true := by decide +kernel
set_option maxRecDepth 100000 in
theorem okL_11 : (((codeOf 273).drop 660).take 60).all (okAt (clOf 273) (decide ((yOf 273).name = "<init>")) (retOf 273) (ccOf 273)) = true := by decide +kernel
set_option maxRecDepth 100000 in
theorem okL_12 : (((codeOf 273).drop 720).take 60).all (okAt (clOf 273) (decide ((yOf 273).name = "<init>")) (retOf 273) (ccOf 273)) = true := by decide +kernel
set_option maxRecDepth 100000 in
theorem okL_13 : (((codeOf 273).drop 780).take 60).all (okAt (clOf 273) (decide ((yOf 273).name = "<init>")) (retOf 273) (ccOf 273)) = true := by decide +kernel
set_option maxRecDepth 100000 in
theorem okL_14 : (((codeOf 273).drop 840).take 60).all (okAt (clOf 273) (decide ((yOf 273).name = "<init>")) (retOf 273) (ccOf 273)) = true := by decide +kernel
set_option maxRecDepth 100000 in
theorem okL_15 : (((codeOf 273).drop 900).take 60).all (okAt (clOf 273) (decide ((yOf 273).name = "<init>")) (retOf 273) (ccOf 273)) = true := by decide +kernel
set_option maxRecDepth 100000 in
theorem okL_16 : (((codeOf 273).drop 960).take 60).all (okAt (clOf 273) (decide ((yOf 273).name = "<init>")) (retOf 273) (ccOf 273)) = true := by decide +kernel
set_option maxRecDepth 100000 in
theorem okL_17 : (((codeOf 273).drop 1020).take 60).all (okAt (clOf 273) (decide ((yOf 273).name = "<init>")) (retOf 273) (ccOf 273)) = true := by decide +kernel
set_option maxRecDepth 100000 in
theorem okL_18 : (((codeOf 273).drop 1080).take 60).all (okAt (clOf 273) (decide ((yOf 273).name = "<init>")) (retOf 273) (ccOf 273)) = true := by decide +kernel
set_option maxRecDepth 100000 in
theorem okL_19 : (((codeOf 273).drop 1140).take 60).all (okAt (clOf 273) (decide ((yOf 273).name = "<init>")) (retOf 273) (ccOf 273)) = true := by decide +kernel
set_option maxRecDepth 100000 in
theorem okL_20 : (((codeOf 273).drop 1200).take 60).all (okAt (clOf 273) (decide ((yOf 273).name = "<init>")) (retOf 273) (ccOf 273)) = true := by decide +kernel
set_option maxRecDepth 100000 in
theorem okL_21 : (((codeOf 273).drop 1260).take 60).all (okAt (clOf 273) (decide ((yOf 273).name = "<init>")) (retOf 273) (ccOf 273)) = true := by decide +kernel
set_option maxRecDepth 100000 in
theorem okL_22 : (((codeOf 273).drop 1320).take 60).all (okAt (clOf 273) (decide ((yOf 273).name = "<init>")) (retOf 273) (ccOf 273)) = true := by decide +kernel
set_option maxRecDepth 100000 in
theorem okL_23 : (((codeOf 273).drop 1380).take 60).all (okAt (clOf 273) (decide ((yOf 273).name = "<init>")) (retOf 273) (ccOf 273)) = true := by decide +kernel
