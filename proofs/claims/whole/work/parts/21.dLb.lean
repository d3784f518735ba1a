set_option maxRecDepth 100000 in
theorem wsL_k26 : GoodIn lw_tbl ((wsL_law.drop 260).take 10) := goodIn_p _ [268, 276] (by decide +kernel) (by decide +kernel)
set_option maxRecDepth 100000 in
theorem wsL_k27 : GoodIn lw_tbl ((wsL_law.drop 270).take 10) := goodIn_p _ [280, 284, 288] (by decide +kernel) (by decide +kernel)
set_option maxRecDepth 100000 in
theorem wsL_k28 : GoodIn lw_tbl ((wsL_law.drop 280).take 10) := goodIn_p _ [292, 296] (by decide +kernel) (by decide +kernel)
set_option maxRecDepth 100000 in
theorem wsL_k29 : GoodIn lw_tbl ((wsL_law.drop 290).take 10) := goodIn_p _ [300, 304] (by decide +kernel) (by decide +kernel)
set_option maxRecDepth 100000 in
theorem wsL_k30 : GoodIn lw_tbl ((wsL_law.drop 300).take 10) := goodIn_p _ [308, 311, 315] (by decide +kernel) (by decide +kernel)
set_option maxRecDepth 100000 in
theorem wsL_k31 : GoodIn lw_tbl ((wsL_law.drop 310).take 10) := goodIn_p _ [322] (by decide +kernel) (by decide +kernel)
set_option maxRecDepth 100000 in
theorem wsL_k32 : GoodIn lw_tbl ((wsL_law.drop 320).take 10) := goodIn_p _ [326, 330, 334] (by decide +kernel) (by decide +kernel)
set_option maxRecDepth 100000 in
theorem wsL_k33 : GoodIn lw_tbl ((wsL_law.drop 330).take 10) := goodIn_p _ [340, 343] (by decide +kernel) (by decide +kernel)
set_option maxRecDepth 100000 in
theorem wsL_k34 : GoodIn lw_tbl ((wsL_law.drop 340).take 10) := goodIn_p _ [544, 548, 552] (by decide +kernel) (by decide +kernel)
set_option maxRecDepth 100000 in
theorem wsL_k35 : GoodIn lw_tbl ((wsL_law.drop 350).take 10) := goodIn_p _ [556, 560, 533] (by decide +kernel) (by decide +kernel)
set_option maxRecDepth 100000 in
theorem wsL_k36 : GoodIn lw_tbl ((wsL_law.drop 360).take 10) := goodIn_p _ [536, 521] (by decide +kernel) (by decide +kernel)
set_option maxRecDepth 100000 in
theorem wsL_k37 : GoodIn lw_tbl ((wsL_law.drop 370).take 10) := goodIn_p _ [540, 565, 569] (by decide +kernel) (by decide +kernel)
set_option maxRecDepth 100000 in
theorem wsL_k38 : GoodIn lw_tbl ((wsL_law.drop 380).take 10) := goodIn_p _ [573, 577] (by decide +kernel) (by decide +kernel)
set_option maxRecDepth 100000 in
theorem wsL_k39 : GoodIn lw_tbl ((wsL_law.drop 390).take 10) := goodIn_p _ [517, 525, 530] (by decide +kernel) (by decide +kernel)
set_option maxRecDepth 100000 in
theorem wsL_k40 : GoodIn lw_tbl ((wsL_law.drop 400).take 10) := goodIn_p _ [347, 582] (by decide +kernel) (by decide +kernel)
set_option maxRecDepth 100000 in
theorem wsL_k41 : GoodIn lw_tbl ((wsL_law.drop 410).take 10) := goodIn_p _ [352, 513] (by decide +kernel) (by decide +kernel)
set_option maxRecDepth 100000 in
theorem wsL_k42 : GoodIn lw_tbl ((wsL_law.drop 420).take 10) := goodIn_p _ [356, 587, 360] (by decide +kernel) (by decide +kernel)
set_option maxRecDepth 100000 in
theorem wsL_k43 : GoodIn lw_tbl ((wsL_law.drop 430).take 10) := goodIn_p _ [591, 364] (by decide +kernel) (by decide +kernel)
set_option maxRecDepth 100000 in
theorem wsL_k44 : GoodIn lw_tbl ((wsL_law.drop 440).take 10) := goodIn_p _ [595, 368, 372] (by decide +kernel) (by decide +kernel)
set_option maxRecDepth 100000 in
theorem wsL_k45 : GoodIn lw_tbl ((wsL_law.drop 450).take 10) := goodIn_p _ [599, 377] (by decide +kernel) (by decide +kernel)
set_option maxRecDepth 100000 in
theorem wsL_k46 : GoodIn lw_tbl ((wsL_law.drop 460).take 10) := goodIn_p _ [382, 603] (by decide +kernel) (by decide +kernel)
set_option maxRecDepth 100000 in
theorem wsL_k47 : GoodIn lw_tbl ((wsL_law.drop 470).take 10) := goodIn_p _ [386, 607] (by decide +kernel) (by decide +kernel)
set_option maxRecDepth 100000 in
theorem wsL_k48 : GoodIn lw_tbl ((wsL_law.drop 480).take 10) := goodIn_p _ [] (by decide +kernel) (by decide +kernel)
set_option maxRecDepth 100000 in
theorem wsL_k49 : GoodIn lw_tbl ((wsL_law.drop 490).take 10) := goodIn_p _ [] (by decide +kernel) (by decide +kernel)
set_option maxRecDepth 100000 in
theorem wsL_k50 : GoodIn lw_tbl ((wsL_law.drop 500).take 10) := goodIn_p _ [] (by decide +kernel) (by decide +kernel)
set_option maxRecDepth 100000 in
theorem wsL_k51 : GoodIn lw_tbl ((wsL_law.drop 510).take 10) := goodIn_p _ [] (by decide +kernel) (by decide +kernel)
set_option maxRecDepth 100000 in
theorem wsL_k52 : GoodIn lw_tbl (wsL_law.drop 520) := goodIn_p _ [] (by decide +kernel) (by decide +kernel)
theorem wsL_g : GoodIn lw_tbl wsL_law := (goodIn_spl (a := 0) (b := 10) wsL_k0 (goodIn_spl (a := 10) (b := 10) wsL_k1 (goodIn_spl (a := 20) (b := 10) wsL_k2 (goodIn_spl (a := 30) (b := 10) wsL_k3 (goodIn_spl (a := 40) (b := 10) wsL_k4 (goodIn_spl (a := 50) (b := 10) wsL_k5 (goodIn_spl (a := 60) (b := 10) wsL_k6 (goodIn_spl (a := 70) (b := 10) wsL_k7 (goodIn_spl (a := 80) (b := 10) wsL_k8 (goodIn_spl (a := 90) (b := 10) wsL_k9 (goodIn_spl (a := 100) (b := 10) wsL_k10 (goodIn_spl (a := 110) (b := 10) wsL_k11 (goodIn_spl (a := 120) (b := 10) wsL_k12 (goodIn_spl (a := 130) (b := 10) wsL_k13 (goodIn_spl (a := 140) (b := 10) wsL_k14 (goodIn_spl (a := 150) (b := 10) wsL_k15 (goodIn_spl (a := 160) (b := 10) wsL_k16 (goodIn_spl (a := 170) (b := 10) wsL_k17 (goodIn_spl (a := 180) (b := 10) wsL_k18 (goodIn_spl (a := 190) (b := 10) wsL_k19 (goodIn_spl (a := 200) (b := 10) wsL_k20 (goodIn_spl (a := 210) (b := 10) wsL_k21 (goodIn_spl (a := 220) (b := 10) wsL_k22 (goodIn_spl (a := 230) (b := 10) wsL_k23 (goodIn_spl (a := 240) (b := 10) wsL_k24 (goodIn_spl (a := 250) (b := 10) wsL_k25 (goodIn_spl (a := 260) (b := 10) wsL_k26 (goodIn_spl (a := 270) (b := 10) wsL_k27 (goodIn_spl (a := 280) (b := 10) wsL_k28 (goodIn_spl (a := 290) (b := 10) wsL_k29 (goodIn_spl (a := 300) (b := 10) wsL_k30 (goodIn_spl (a := 310) (b := 10) wsL_k31 (goodIn_spl (a := 320) (b := 10) wsL_k32 (goodIn_spl (a := 330) (b := 10) wsL_k33 (goodIn_spl (a := 340) (b := 10) wsL_k34 (goodIn_spl (a := 350) (b := 10) wsL_k35 (goodIn_spl (a := 360) (b := 10) wsL_k36 (goodIn_spl (a := 370) (b := 10) wsL_k37 (goodIn_spl (a := 380) (b := 10) wsL_k38 (goodIn_spl (a := 390) (b := 10) wsL_k39 (goodIn_spl (a := 400) (b := 10) wsL_k40 (goodIn_spl (a := 410) (b := 10) wsL_k41 (goodIn_spl (a := 420) (b := 10) wsL_k42 (goodIn_spl (a := 430) (b := 10) wsL_k43 (goodIn_spl (a := 440) (b := 10) wsL_k44 (goodIn_spl (a := 450) (b := 10) wsL_k45 (goodIn_spl (a := 460) (b := 10) wsL_k46 (goodIn_spl (a := 470) (b := 10) wsL_k47 (goodIn_spl (a := 480) (b := 10) wsL_k48 (goodIn_spl (a := 490) (b := 10) wsL_k49 (goodIn_spl (a := 500) (b := 10) wsL_k50 (goodIn_spl (a := 510) (b := 10) wsL_k51 wsL_k52))))))))))))))))))))))))))))))))))))))))))))))))))))
theorem wsL_law_in : ∀ w ∈ wsL_law, w ∈ lw_tbl := fun w h => (wsL_g w h).1
