set_option maxRecDepth 100000 in
theorem wsL_k0 : GoodIn lw_tbl ((wsL_law.drop 0).take 10) := goodIn_p _ [389] (by decide +kernel) (by decide +kernel)
set_option maxRecDepth 100000 in
theorem wsL_k1 : GoodIn lw_tbl ((wsL_law.drop 10).take 10) := goodIn_p _ [38, 41] (by decide +kernel) (by decide +kernel)
set_option maxRecDepth 100000 in
theorem wsL_k2 : GoodIn lw_tbl ((wsL_law.drop 20).take 10) := goodIn_p _ [46] (by decide +kernel) (by decide +kernel)
set_option maxRecDepth 100000 in
theorem wsL_k3 : GoodIn lw_tbl ((wsL_law.drop 30).take 10) := goodIn_p _ [49, 52, 55] (by decide +kernel) (by decide +kernel)
set_option maxRecDepth 100000 in
theorem wsL_k4 : GoodIn lw_tbl ((wsL_law.drop 40).take 10) := goodIn_p _ [82] (by decide +kernel) (by decide +kernel)
set_option maxRecDepth 100000 in
theorem wsL_k5 : GoodIn lw_tbl ((wsL_law.drop 50).take 10) := goodIn_p _ [88] (by decide +kernel) (by decide +kernel)
set_option maxRecDepth 100000 in
theorem wsL_k6 : GoodIn lw_tbl ((wsL_law.drop 60).take 10) := goodIn_p _ [149] (by decide +kernel) (by decide +kernel)
set_option maxRecDepth 100000 in
theorem wsL_k7 : GoodIn lw_tbl ((wsL_law.drop 70).take 10) := goodIn_p _ [153, 156, 394] (by decide +kernel) (by decide +kernel)
set_option maxRecDepth 100000 in
theorem wsL_k8 : GoodIn lw_tbl ((wsL_law.drop 80).take 10) := goodIn_p _ [] (by decide +kernel) (by decide +kernel)
set_option maxRecDepth 100000 in
theorem wsL_k9 : GoodIn lw_tbl ((wsL_law.drop 90).take 10) := goodIn_p _ [] (by decide +kernel) (by decide +kernel)
set_option maxRecDepth 100000 in
theorem wsL_k10 : GoodIn lw_tbl ((wsL_law.drop 100).take 10) := goodIn_p _ [398, 402] (by decide +kernel) (by decide +kernel)
set_option maxRecDepth 100000 in
theorem wsL_k11 : GoodIn lw_tbl ((wsL_law.drop 110).take 10) := goodIn_p _ [173, 177] (by decide +kernel) (by decide +kernel)
set_option maxRecDepth 100000 in
theorem wsL_k12 : GoodIn lw_tbl ((wsL_law.drop 120).take 10) := goodIn_p _ [181, 185] (by decide +kernel) (by decide +kernel)
set_option maxRecDepth 100000 in
theorem wsL_k13 : GoodIn lw_tbl ((wsL_law.drop 130).take 10) := goodIn_p _ [189, 475] (by decide +kernel) (by decide +kernel)
set_option maxRecDepth 100000 in
theorem wsL_k14 : GoodIn lw_tbl ((wsL_law.drop 140).take 10) := goodIn_p _ [479, 482, 486] (by decide +kernel) (by decide +kernel)
set_option maxRecDepth 100000 in
theorem wsL_k15 : GoodIn lw_tbl ((wsL_law.drop 150).take 10) := goodIn_p _ [489, 194, 198] (by decide +kernel) (by decide +kernel)
set_option maxRecDepth 100000 in
theorem wsL_k16 : GoodIn lw_tbl ((wsL_law.drop 160).take 10) := goodIn_p _ [202, 493] (by decide +kernel) (by decide +kernel)
set_option maxRecDepth 100000 in
theorem wsL_k17 : GoodIn lw_tbl ((wsL_law.drop 170).take 10) := goodIn_p _ [206, 211] (by decide +kernel) (by decide +kernel)
set_option maxRecDepth 100000 in
theorem wsL_k18 : GoodIn lw_tbl ((wsL_law.drop 180).take 10) := goodIn_p _ [] (by decide +kernel) (by decide +kernel)
set_option maxRecDepth 100000 in
theorem wsL_k19 : GoodIn lw_tbl ((wsL_law.drop 190).take 10) := goodIn_p _ [497, 216, 220] (by decide +kernel) (by decide +kernel)
set_option maxRecDepth 100000 in
theorem wsL_k20 : GoodIn lw_tbl ((wsL_law.drop 200).take 10) := goodIn_p _ [224, 228] (by decide +kernel) (by decide +kernel)
set_option maxRecDepth 100000 in
theorem wsL_k21 : GoodIn lw_tbl ((wsL_law.drop 210).take 10) := goodIn_p _ [501, 505, 232] (by decide +kernel) (by decide +kernel)
set_option maxRecDepth 100000 in
theorem wsL_k22 : GoodIn lw_tbl ((wsL_law.drop 220).take 10) := goodIn_p _ [509, 236] (by decide +kernel) (by decide +kernel)
set_option maxRecDepth 100000 in
theorem wsL_k23 : GoodIn lw_tbl ((wsL_law.drop 230).take 10) := goodIn_p _ [240, 244, 248] (by decide +kernel) (by decide +kernel)
set_option maxRecDepth 100000 in
theorem wsL_k24 : GoodIn lw_tbl ((wsL_law.drop 240).take 10) := goodIn_p _ [251, 254, 257, 261] (by decide +kernel) (by decide +kernel)
set_option maxRecDepth 100000 in
theorem wsL_k25 : GoodIn lw_tbl ((wsL_law.drop 250).take 10) := goodIn_p _ [] (by decide +kernel) (by decide +kernel)
