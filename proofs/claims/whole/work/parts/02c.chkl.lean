/-! the law's own rows -/
set_option maxRecDepth 1000000 in
theorem jokl_0 : (((jcode 271).drop 0).take 60).all (fun q => jdk 271 q && jlnk 271 q) = true := by decide +kernel
set_option maxRecDepth 1000000 in
theorem jokl_60 : (((jcode 271).drop 60).take 60).all (fun q => jdk 271 q && jlnk 271 q) = true := by decide +kernel
set_option maxRecDepth 1000000 in
theorem jokl_120 : (((jcode 271).drop 120).take 60).all (fun q => jdk 271 q && jlnk 271 q) = true := by decide +kernel
set_option maxRecDepth 1000000 in
theorem jokl_180 : (((jcode 271).drop 180).take 60).all (fun q => jdk 271 q && jlnk 271 q) = true := by decide +kernel
set_option maxRecDepth 1000000 in
theorem jokl_240 : (((jcode 271).drop 240).take 60).all (fun q => jdk 271 q && jlnk 271 q) = true := by decide +kernel
set_option maxRecDepth 1000000 in
theorem jokl_300 : (((jcode 271).drop 300).take 60).all (fun q => jdk 271 q && jlnk 271 q) = true := by decide +kernel
set_option maxRecDepth 1000000 in
theorem jokl_360 : (((jcode 271).drop 360).take 60).all (fun q => jdk 271 q && jlnk 271 q) = true := by decide +kernel
set_option maxRecDepth 1000000 in
theorem jokl_420 : (((jcode 271).drop 420).take 60).all (fun q => jdk 271 q && jlnk 271 q) = true := by decide +kernel
set_option maxRecDepth 1000000 in
theorem jokl_480 : (((jcode 271).drop 480).take 60).all (fun q => jdk 271 q && jlnk 271 q) = true := by decide +kernel
set_option maxRecDepth 1000000 in
theorem jokl_540 : (((jcode 271).drop 540).take 60).all (fun q => jdk 271 q && jlnk 271 q) = true := by decide +kernel
set_option maxRecDepth 1000000 in
theorem jokl_600 : (((jcode 271).drop 600).take 60).all (fun q => jdk 271 q && jlnk 271 q) = true := by decide +kernel
set_option maxRecDepth 1000000 in
theorem jokl_660 : (((jcode 271).drop 660).take 60).all (fun q => jdk 271 q && jlnk 271 q) = true := by decide +kernel
set_option maxRecDepth 1000000 in
theorem jokl_720 : (((jcode 271).drop 720).take 60).all (fun q => jdk 271 q && jlnk 271 q) = true := by decide +kernel
set_option maxRecDepth 1000000 in
theorem jokl_780 : (((jcode 271).drop 780).take 60).all (fun q => jdk 271 q && jlnk 271 q) = true := by decide +kernel
set_option maxRecDepth 1000000 in
theorem jokl_840 : (((jcode 271).drop 840).take 60).all (fun q => jdk 271 q && jlnk 271 q) = true := by decide +kernel
set_option maxRecDepth 1000000 in
theorem jokl_900 : (((jcode 271).drop 900).take 60).all (fun q => jdk 271 q && jlnk 271 q) = true := by decide +kernel
set_option maxRecDepth 1000000 in
theorem jokl_960 : (((jcode 271).drop 960).take 60).all (fun q => jdk 271 q && jlnk 271 q) = true := by decide +kernel
set_option maxRecDepth 1000000 in
theorem jokl_1020 : (((jcode 271).drop 1020).take 60).all (fun q => jdk 271 q && jlnk 271 q) = true := by decide +kernel
set_option maxRecDepth 1000000 in
theorem jokl_1080 : (((jcode 271).drop 1080).take 60).all (fun q => jdk 271 q && jlnk 271 q) = true := by decide +kernel
set_option maxRecDepth 1000000 in
theorem jokl_1140 : (((jcode 271).drop 1140).take 60).all (fun q => jdk 271 q && jlnk 271 q) = true := by decide +kernel
