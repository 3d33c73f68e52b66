abbrev yL_law : MethodName := x
theorem w_153 : Cond.classLink RL 7 RX11 ∈ rhTs := rhTs_in 153 (by decide +kernel) (by decide +kernel)
theorem w_154 : Cond.instantiable RX11 17 ∈ rhTs := rhTs_in 154 (by decide +kernel) (by decide +kernel)
theorem w_155 : Cond.methodLink RL 9 yX11_init ∈ rhTs := rhTs_in 155 (by decide +kernel) (by decide +kernel)
theorem w_156 : Cond.instanceMethod yX11_init ∈ rhTs := rhTs_in 156 (by decide +kernel) (by decide +kernel)
theorem w_157 : Cond.code yX11_init cX11_init 2 none ∈ rhTs := rhTs_in 157 (by decide +kernel) (by decide +kernel)
theorem w_632 : Cond.methodLink RL 13 yX11_feed ∈ rhTs := rhTs_in 632 (by decide +kernel) (by decide +kernel)
theorem w_633 : Cond.instanceMethod yX11_feed ∈ rhTs := rhTs_in 633 (by decide +kernel) (by decide +kernel)
theorem w_634 : Cond.selects yX11_feed.cls yX11_feed yX11_feed ∈ rhTs := rhTs_in 634 (by decide +kernel) (by decide +kernel)
theorem w_635 : Cond.code yX11_feed cX11_feed 6 (some .int) ∈ rhTs := rhTs_in 635 (by decide +kernel) (by decide +kernel)
theorem w_640 : Cond.methodLink RL 18 yX11_end ∈ rhTs := rhTs_in 640 (by decide +kernel) (by decide +kernel)
theorem w_641 : Cond.instanceMethod yX11_end ∈ rhTs := rhTs_in 641 (by decide +kernel) (by decide +kernel)
theorem w_642 : Cond.selects yX11_end.cls yX11_end yX11_end ∈ rhTs := rhTs_in 642 (by decide +kernel) (by decide +kernel)
theorem w_643 : Cond.code yX11_end cX11_end 2 (some .int) ∈ rhTs := rhTs_in 643 (by decide +kernel) (by decide +kernel)
theorem w_644 : Cond.methodLink RL 23 yX11_town ∈ rhTs := rhTs_in 644 (by decide +kernel) (by decide +kernel)
theorem w_645 : Cond.instanceMethod yX11_town ∈ rhTs := rhTs_in 645 (by decide +kernel) (by decide +kernel)
theorem w_646 : Cond.selects yX11_town.cls yX11_town yX11_town ∈ rhTs := rhTs_in 646 (by decide +kernel) (by decide +kernel)
theorem w_647 : Cond.code yX11_town cX11_town 3 (some .int) ∈ rhTs := rhTs_in 647 (by decide +kernel) (by decide +kernel)
theorem w_817 : Cond.methodLink RL 28 yX11_fault ∈ rhTs := rhTs_in 817 (by decide +kernel) (by decide +kernel)
theorem w_818 : Cond.instanceMethod yX11_fault ∈ rhTs := rhTs_in 818 (by decide +kernel) (by decide +kernel)
theorem w_819 : Cond.selects yX11_fault.cls yX11_fault yX11_fault ∈ rhTs := rhTs_in 819 (by decide +kernel) (by decide +kernel)
theorem w_820 : Cond.code yX11_fault cX11_fault 2 (some .int) ∈ rhTs := rhTs_in 820 (by decide +kernel) (by decide +kernel)
theorem w_821 : Cond.methodLink RL 32 yX11_on ∈ rhTs := rhTs_in 821 (by decide +kernel) (by decide +kernel)
theorem w_822 : Cond.instanceMethod yX11_on ∈ rhTs := rhTs_in 822 (by decide +kernel) (by decide +kernel)
theorem w_823 : Cond.selects yX11_on.cls yX11_on yX11_on ∈ rhTs := rhTs_in 823 (by decide +kernel) (by decide +kernel)
theorem w_824 : Cond.code yX11_on cX11_on 3 (some .int) ∈ rhTs := rhTs_in 824 (by decide +kernel) (by decide +kernel)
theorem w_837 : Cond.methodLink RL 37 yX11_where ∈ rhTs := rhTs_in 837 (by decide +kernel) (by decide +kernel)
theorem w_838 : Cond.instanceMethod yX11_where ∈ rhTs := rhTs_in 838 (by decide +kernel) (by decide +kernel)
theorem w_839 : Cond.selects yX11_where.cls yX11_where yX11_where ∈ rhTs := rhTs_in 839 (by decide +kernel) (by decide +kernel)
theorem w_840 : Cond.code yX11_where cX11_where 3 (some .int) ∈ rhTs := rhTs_in 840 (by decide +kernel) (by decide +kernel)
theorem w_856 : Cond.methodLink RL 41 yX11_room ∈ rhTs := rhTs_in 856 (by decide +kernel) (by decide +kernel)
theorem w_857 : Cond.instanceMethod yX11_room ∈ rhTs := rhTs_in 857 (by decide +kernel) (by decide +kernel)
theorem w_858 : Cond.selects yX11_room.cls yX11_room yX11_room ∈ rhTs := rhTs_in 858 (by decide +kernel) (by decide +kernel)
theorem w_859 : Cond.code yX11_room cX11_room 2 (some .int) ∈ rhTs := rhTs_in 859 (by decide +kernel) (by decide +kernel)
theorem w_861 : Cond.methodLink RL 45 yX11_asked ∈ rhTs := rhTs_in 861 (by decide +kernel) (by decide +kernel)
theorem w_862 : Cond.instanceMethod yX11_asked ∈ rhTs := rhTs_in 862 (by decide +kernel) (by decide +kernel)
theorem w_863 : Cond.selects yX11_asked.cls yX11_asked yX11_asked ∈ rhTs := rhTs_in 863 (by decide +kernel) (by decide +kernel)
theorem w_864 : Cond.code yX11_asked cX11_asked 4 (some .int) ∈ rhTs := rhTs_in 864 (by decide +kernel) (by decide +kernel)
theorem w_897 : Cond.methodLink RL 50 yX11_lawful ∈ rhTs := rhTs_in 897 (by decide +kernel) (by decide +kernel)
theorem w_898 : Cond.instanceMethod yX11_lawful ∈ rhTs := rhTs_in 898 (by decide +kernel) (by decide +kernel)
theorem w_899 : Cond.selects yX11_lawful.cls yX11_lawful yX11_lawful ∈ rhTs := rhTs_in 899 (by decide +kernel) (by decide +kernel)
theorem w_900 : Cond.code yX11_lawful cX11_lawful 4 (some .int) ∈ rhTs := rhTs_in 900 (by decide +kernel) (by decide +kernel)
theorem w_909 : Cond.methodLink RL 54 yX11_pull ∈ rhTs := rhTs_in 909 (by decide +kernel) (by decide +kernel)
theorem w_910 : Cond.instanceMethod yX11_pull ∈ rhTs := rhTs_in 910 (by decide +kernel) (by decide +kernel)
theorem w_911 : Cond.selects yX11_pull.cls yX11_pull yX11_pull ∈ rhTs := rhTs_in 911 (by decide +kernel) (by decide +kernel)
theorem w_912 : Cond.code yX11_pull cX11_pull 5 (some .int) ∈ rhTs := rhTs_in 912 (by decide +kernel) (by decide +kernel)
theorem w_932 : Cond.methodLink RL 58 yX11_undo ∈ rhTs := rhTs_in 932 (by decide +kernel) (by decide +kernel)
theorem w_933 : Cond.instanceMethod yX11_undo ∈ rhTs := rhTs_in 933 (by decide +kernel) (by decide +kernel)
theorem w_934 : Cond.selects yX11_undo.cls yX11_undo yX11_undo ∈ rhTs := rhTs_in 934 (by decide +kernel) (by decide +kernel)
theorem w_935 : Cond.code yX11_undo cX11_undo 4 (some .int) ∈ rhTs := rhTs_in 935 (by decide +kernel) (by decide +kernel)
theorem w_950 : Cond.methodLink RL 62 yX11_worth ∈ rhTs := rhTs_in 950 (by decide +kernel) (by decide +kernel)
theorem w_951 : Cond.instanceMethod yX11_worth ∈ rhTs := rhTs_in 951 (by decide +kernel) (by decide +kernel)
theorem w_952 : Cond.selects yX11_worth.cls yX11_worth yX11_worth ∈ rhTs := rhTs_in 952 (by decide +kernel) (by decide +kernel)
theorem w_953 : Cond.code yX11_worth cX11_worth 1 (some .int) ∈ rhTs := rhTs_in 953 (by decide +kernel) (by decide +kernel)
theorem w_959 : Cond.methodLink RL 66 yX11_tell ∈ rhTs := rhTs_in 959 (by decide +kernel) (by decide +kernel)
theorem w_960 : Cond.instanceMethod yX11_tell ∈ rhTs := rhTs_in 960 (by decide +kernel) (by decide +kernel)
theorem w_961 : Cond.selects yX11_tell.cls yX11_tell yX11_tell ∈ rhTs := rhTs_in 961 (by decide +kernel) (by decide +kernel)
theorem w_962 : Cond.code yX11_tell cX11_tell 4 (some .int) ∈ rhTs := rhTs_in 962 (by decide +kernel) (by decide +kernel)
theorem w_963 : Cond.methodLink RL 70 yX11_hush ∈ rhTs := rhTs_in 963 (by decide +kernel) (by decide +kernel)
theorem w_964 : Cond.instanceMethod yX11_hush ∈ rhTs := rhTs_in 964 (by decide +kernel) (by decide +kernel)
theorem w_965 : Cond.selects yX11_hush.cls yX11_hush yX11_hush ∈ rhTs := rhTs_in 965 (by decide +kernel) (by decide +kernel)
theorem w_966 : Cond.code yX11_hush cX11_hush 2 (some .int) ∈ rhTs := rhTs_in 966 (by decide +kernel) (by decide +kernel)
theorem w_967 : Cond.methodLink RL 74 yX11_judge ∈ rhTs := rhTs_in 967 (by decide +kernel) (by decide +kernel)
theorem w_968 : Cond.instanceMethod yX11_judge ∈ rhTs := rhTs_in 968 (by decide +kernel) (by decide +kernel)
theorem w_969 : Cond.selects yX11_judge.cls yX11_judge yX11_judge ∈ rhTs := rhTs_in 969 (by decide +kernel) (by decide +kernel)
theorem w_970 : Cond.code yX11_judge cX11_judge 8 (some .int) ∈ rhTs := rhTs_in 970 (by decide +kernel) (by decide +kernel)
theorem w_971 : Cond.methodLink RL 78 yX11_goal ∈ rhTs := rhTs_in 971 (by decide +kernel) (by decide +kernel)
theorem w_972 : Cond.instanceMethod yX11_goal ∈ rhTs := rhTs_in 972 (by decide +kernel) (by decide +kernel)
theorem w_973 : Cond.selects yX11_goal.cls yX11_goal yX11_goal ∈ rhTs := rhTs_in 973 (by decide +kernel) (by decide +kernel)
theorem w_974 : Cond.code yX11_goal cX11_goal 2 (some .int) ∈ rhTs := rhTs_in 974 (by decide +kernel) (by decide +kernel)
theorem w_980 : Cond.methodLink RL 82 yX11_open ∈ rhTs := rhTs_in 980 (by decide +kernel) (by decide +kernel)
theorem w_981 : Cond.instanceMethod yX11_open ∈ rhTs := rhTs_in 981 (by decide +kernel) (by decide +kernel)
theorem w_982 : Cond.selects yX11_open.cls yX11_open yX11_open ∈ rhTs := rhTs_in 982 (by decide +kernel) (by decide +kernel)
theorem w_983 : Cond.code yX11_open cX11_open 2 (some .int) ∈ rhTs := rhTs_in 983 (by decide +kernel) (by decide +kernel)
theorem w_984 : Cond.methodLink RL 86 yX11_fewest ∈ rhTs := rhTs_in 984 (by decide +kernel) (by decide +kernel)
theorem w_985 : Cond.instanceMethod yX11_fewest ∈ rhTs := rhTs_in 985 (by decide +kernel) (by decide +kernel)
theorem w_986 : Cond.selects yX11_fewest.cls yX11_fewest yX11_fewest ∈ rhTs := rhTs_in 986 (by decide +kernel) (by decide +kernel)
theorem w_987 : Cond.code yX11_fewest cX11_fewest 1 (some .int) ∈ rhTs := rhTs_in 987 (by decide +kernel) (by decide +kernel)
theorem w_1261 : Cond.methodLink RL 90 yX11_least ∈ rhTs := rhTs_in 1261 (by decide +kernel) (by decide +kernel)
theorem w_1262 : Cond.instanceMethod yX11_least ∈ rhTs := rhTs_in 1262 (by decide +kernel) (by decide +kernel)
theorem w_1263 : Cond.selects yX11_least.cls yX11_least yX11_least ∈ rhTs := rhTs_in 1263 (by decide +kernel) (by decide +kernel)
theorem w_1264 : Cond.code yX11_least cX11_least 2 (some .int) ∈ rhTs := rhTs_in 1264 (by decide +kernel) (by decide +kernel)
theorem w_1307 : Cond.methodLink RL 94 yX11_richest ∈ rhTs := rhTs_in 1307 (by decide +kernel) (by decide +kernel)
theorem w_1308 : Cond.instanceMethod yX11_richest ∈ rhTs := rhTs_in 1308 (by decide +kernel) (by decide +kernel)
theorem w_1309 : Cond.selects yX11_richest.cls yX11_richest yX11_richest ∈ rhTs := rhTs_in 1309 (by decide +kernel) (by decide +kernel)
theorem w_1310 : Cond.code yX11_richest cX11_richest 2 (some .int) ∈ rhTs := rhTs_in 1310 (by decide +kernel) (by decide +kernel)
theorem w_1315 : Cond.methodLink RL 98 yX11_free ∈ rhTs := rhTs_in 1315 (by decide +kernel) (by decide +kernel)
theorem w_1316 : Cond.instanceMethod yX11_free ∈ rhTs := rhTs_in 1316 (by decide +kernel) (by decide +kernel)
theorem w_1317 : Cond.selects yX11_free.cls yX11_free yX11_free ∈ rhTs := rhTs_in 1317 (by decide +kernel) (by decide +kernel)
theorem w_1318 : Cond.code yX11_free cX11_free 2 (some .int) ∈ rhTs := rhTs_in 1318 (by decide +kernel) (by decide +kernel)
theorem w_1323 : Cond.methodLink RL 102 yX11_spare ∈ rhTs := rhTs_in 1323 (by decide +kernel) (by decide +kernel)
theorem w_1324 : Cond.instanceMethod yX11_spare ∈ rhTs := rhTs_in 1324 (by decide +kernel) (by decide +kernel)
theorem w_1325 : Cond.selects yX11_spare.cls yX11_spare yX11_spare ∈ rhTs := rhTs_in 1325 (by decide +kernel) (by decide +kernel)
theorem w_1326 : Cond.code yX11_spare cX11_spare 7 (some .int) ∈ rhTs := rhTs_in 1326 (by decide +kernel) (by decide +kernel)
theorem w_1331 : Cond.methodLink RL 106 yX11_lies ∈ rhTs := rhTs_in 1331 (by decide +kernel) (by decide +kernel)
theorem w_1332 : Cond.instanceMethod yX11_lies ∈ rhTs := rhTs_in 1332 (by decide +kernel) (by decide +kernel)
theorem w_1333 : Cond.selects yX11_lies.cls yX11_lies yX11_lies ∈ rhTs := rhTs_in 1333 (by decide +kernel) (by decide +kernel)
theorem w_1334 : Cond.code yX11_lies cX11_lies 2 (some .int) ∈ rhTs := rhTs_in 1334 (by decide +kernel) (by decide +kernel)
theorem w_1335 : Cond.methodLink RL 110 yX11_sight ∈ rhTs := rhTs_in 1335 (by decide +kernel) (by decide +kernel)
theorem w_1336 : Cond.instanceMethod yX11_sight ∈ rhTs := rhTs_in 1336 (by decide +kernel) (by decide +kernel)
theorem w_1337 : Cond.selects yX11_sight.cls yX11_sight yX11_sight ∈ rhTs := rhTs_in 1337 (by decide +kernel) (by decide +kernel)
theorem w_1338 : Cond.code yX11_sight cX11_sight 5 (some .int) ∈ rhTs := rhTs_in 1338 (by decide +kernel) (by decide +kernel)
theorem w_1343 : Cond.methodLink RL 115 yX11_untell ∈ rhTs := rhTs_in 1343 (by decide +kernel) (by decide +kernel)
theorem w_1344 : Cond.instanceMethod yX11_untell ∈ rhTs := rhTs_in 1344 (by decide +kernel) (by decide +kernel)
theorem w_1345 : Cond.selects yX11_untell.cls yX11_untell yX11_untell ∈ rhTs := rhTs_in 1345 (by decide +kernel) (by decide +kernel)
theorem w_1346 : Cond.code yX11_untell cX11_untell 2 (some .boolean) ∈ rhTs := rhTs_in 1346 (by decide +kernel) (by decide +kernel)
theorem w_1351 : Cond.methodLink RL 120 yX11_later ∈ rhTs := rhTs_in 1351 (by decide +kernel) (by decide +kernel)
theorem w_1352 : Cond.instanceMethod yX11_later ∈ rhTs := rhTs_in 1352 (by decide +kernel) (by decide +kernel)
theorem w_1353 : Cond.selects yX11_later.cls yX11_later yX11_later ∈ rhTs := rhTs_in 1353 (by decide +kernel) (by decide +kernel)
theorem w_1354 : Cond.code yX11_later cX11_later 2 (some .int) ∈ rhTs := rhTs_in 1354 (by decide +kernel) (by decide +kernel)
theorem w_1356 : Cond.methodLink RL 124 yX11_fits ∈ rhTs := rhTs_in 1356 (by decide +kernel) (by decide +kernel)
theorem w_1357 : Cond.instanceMethod yX11_fits ∈ rhTs := rhTs_in 1357 (by decide +kernel) (by decide +kernel)
theorem w_1358 : Cond.selects yX11_fits.cls yX11_fits yX11_fits ∈ rhTs := rhTs_in 1358 (by decide +kernel) (by decide +kernel)
theorem w_1359 : Cond.code yX11_fits cX11_fits 3 (some .int) ∈ rhTs := rhTs_in 1359 (by decide +kernel) (by decide +kernel)
theorem w_1389 : Cond.methodLink RL 128 yX11_can ∈ rhTs := rhTs_in 1389 (by decide +kernel) (by decide +kernel)
theorem w_1390 : Cond.instanceMethod yX11_can ∈ rhTs := rhTs_in 1390 (by decide +kernel) (by decide +kernel)
theorem w_1391 : Cond.selects yX11_can.cls yX11_can yX11_can ∈ rhTs := rhTs_in 1391 (by decide +kernel) (by decide +kernel)
theorem w_1392 : Cond.code yX11_can cX11_can 4 (some .int) ∈ rhTs := rhTs_in 1392 (by decide +kernel) (by decide +kernel)
theorem w_1397 : Cond.methodLink RL 132 yX11_image ∈ rhTs := rhTs_in 1397 (by decide +kernel) (by decide +kernel)
theorem w_1398 : Cond.instanceMethod yX11_image ∈ rhTs := rhTs_in 1398 (by decide +kernel) (by decide +kernel)
theorem w_1399 : Cond.selects yX11_image.cls yX11_image yX11_image ∈ rhTs := rhTs_in 1399 (by decide +kernel) (by decide +kernel)
theorem w_1400 : Cond.code yX11_image cX11_image 2 (some .int) ∈ rhTs := rhTs_in 1400 (by decide +kernel) (by decide +kernel)
theorem w_1409 : Cond.methodLink RL 136 yX11_back ∈ rhTs := rhTs_in 1409 (by decide +kernel) (by decide +kernel)
theorem w_1410 : Cond.instanceMethod yX11_back ∈ rhTs := rhTs_in 1410 (by decide +kernel) (by decide +kernel)
theorem w_1411 : Cond.selects yX11_back.cls yX11_back yX11_back ∈ rhTs := rhTs_in 1411 (by decide +kernel) (by decide +kernel)
theorem w_1412 : Cond.code yX11_back cX11_back 2 (some .int) ∈ rhTs := rhTs_in 1412 (by decide +kernel) (by decide +kernel)
theorem w_1413 : Cond.methodLink RL 140 yX11_about ∈ rhTs := rhTs_in 1413 (by decide +kernel) (by decide +kernel)
theorem w_1414 : Cond.instanceMethod yX11_about ∈ rhTs := rhTs_in 1414 (by decide +kernel) (by decide +kernel)
theorem w_1415 : Cond.selects yX11_about.cls yX11_about yX11_about ∈ rhTs := rhTs_in 1415 (by decide +kernel) (by decide +kernel)
theorem w_1416 : Cond.code yX11_about cX11_about 2 (some .int) ∈ rhTs := rhTs_in 1416 (by decide +kernel) (by decide +kernel)
theorem w_1417 : Cond.classLink RL 10 RX12 ∈ rhTs := rhTs_in 1417 (by decide +kernel) (by decide +kernel)
theorem w_1418 : Cond.instantiable RX12 90 ∈ rhTs := rhTs_in 1418 (by decide +kernel) (by decide +kernel)
theorem w_1419 : Cond.methodLink RL 12 yX12_init ∈ rhTs := rhTs_in 1419 (by decide +kernel) (by decide +kernel)
theorem w_1420 : Cond.instanceMethod yX12_init ∈ rhTs := rhTs_in 1420 (by decide +kernel) (by decide +kernel)
theorem w_1421 : Cond.code yX12_init cX12_init 2 none ∈ rhTs := rhTs_in 1421 (by decide +kernel) (by decide +kernel)
theorem w_1720 : Cond.methodLink RL 27 yX12_town ∈ rhTs := rhTs_in 1720 (by decide +kernel) (by decide +kernel)
theorem w_1721 : Cond.instanceMethod yX12_town ∈ rhTs := rhTs_in 1721 (by decide +kernel) (by decide +kernel)
theorem w_1722 : Cond.selects yX12_town.cls yX12_town yX12_town ∈ rhTs := rhTs_in 1722 (by decide +kernel) (by decide +kernel)
theorem w_1723 : Cond.code yX12_town cX12_town 2 (some .int) ∈ rhTs := rhTs_in 1723 (by decide +kernel) (by decide +kernel)
theorem w_1870 : Cond.methodLink RL 31 yX12_fault ∈ rhTs := rhTs_in 1870 (by decide +kernel) (by decide +kernel)
theorem w_1871 : Cond.instanceMethod yX12_fault ∈ rhTs := rhTs_in 1871 (by decide +kernel) (by decide +kernel)
theorem w_1872 : Cond.selects yX12_fault.cls yX12_fault yX12_fault ∈ rhTs := rhTs_in 1872 (by decide +kernel) (by decide +kernel)
theorem w_1873 : Cond.code yX12_fault cX12_fault 2 (some .int) ∈ rhTs := rhTs_in 1873 (by decide +kernel) (by decide +kernel)
theorem w_1874 : Cond.methodLink RL 36 yX12_on ∈ rhTs := rhTs_in 1874 (by decide +kernel) (by decide +kernel)
theorem w_1875 : Cond.instanceMethod yX12_on ∈ rhTs := rhTs_in 1875 (by decide +kernel) (by decide +kernel)
theorem w_1876 : Cond.selects yX12_on.cls yX12_on yX12_on ∈ rhTs := rhTs_in 1876 (by decide +kernel) (by decide +kernel)
theorem w_1877 : Cond.code yX12_on cX12_on 3 (some .int) ∈ rhTs := rhTs_in 1877 (by decide +kernel) (by decide +kernel)
theorem w_1885 : Cond.methodLink RL 40 yX12_where ∈ rhTs := rhTs_in 1885 (by decide +kernel) (by decide +kernel)
theorem w_1886 : Cond.instanceMethod yX12_where ∈ rhTs := rhTs_in 1886 (by decide +kernel) (by decide +kernel)
theorem w_1887 : Cond.selects yX12_where.cls yX12_where yX12_where ∈ rhTs := rhTs_in 1887 (by decide +kernel) (by decide +kernel)
theorem w_1888 : Cond.code yX12_where cX12_where 5 (some .int) ∈ rhTs := rhTs_in 1888 (by decide +kernel) (by decide +kernel)
theorem w_1901 : Cond.methodLink RL 44 yX12_room ∈ rhTs := rhTs_in 1901 (by decide +kernel) (by decide +kernel)
theorem w_1902 : Cond.instanceMethod yX12_room ∈ rhTs := rhTs_in 1902 (by decide +kernel) (by decide +kernel)
theorem w_1903 : Cond.selects yX12_room.cls yX12_room yX12_room ∈ rhTs := rhTs_in 1903 (by decide +kernel) (by decide +kernel)
theorem w_1904 : Cond.code yX12_room cX12_room 2 (some .int) ∈ rhTs := rhTs_in 1904 (by decide +kernel) (by decide +kernel)
theorem w_1909 : Cond.methodLink RL 49 yX12_asked ∈ rhTs := rhTs_in 1909 (by decide +kernel) (by decide +kernel)
theorem w_1910 : Cond.instanceMethod yX12_asked ∈ rhTs := rhTs_in 1910 (by decide +kernel) (by decide +kernel)
theorem w_1911 : Cond.selects yX12_asked.cls yX12_asked yX12_asked ∈ rhTs := rhTs_in 1911 (by decide +kernel) (by decide +kernel)
theorem w_1912 : Cond.code yX12_asked cX12_asked 4 (some .int) ∈ rhTs := rhTs_in 1912 (by decide +kernel) (by decide +kernel)
theorem w_1933 : Cond.methodLink RL 53 yX12_lawful ∈ rhTs := rhTs_in 1933 (by decide +kernel) (by decide +kernel)
theorem w_1934 : Cond.instanceMethod yX12_lawful ∈ rhTs := rhTs_in 1934 (by decide +kernel) (by decide +kernel)
theorem w_1935 : Cond.selects yX12_lawful.cls yX12_lawful yX12_lawful ∈ rhTs := rhTs_in 1935 (by decide +kernel) (by decide +kernel)
theorem w_1936 : Cond.code yX12_lawful cX12_lawful 4 (some .int) ∈ rhTs := rhTs_in 1936 (by decide +kernel) (by decide +kernel)
theorem w_1941 : Cond.methodLink RL 57 yX12_pull ∈ rhTs := rhTs_in 1941 (by decide +kernel) (by decide +kernel)
theorem w_1942 : Cond.instanceMethod yX12_pull ∈ rhTs := rhTs_in 1942 (by decide +kernel) (by decide +kernel)
theorem w_1943 : Cond.selects yX12_pull.cls yX12_pull yX12_pull ∈ rhTs := rhTs_in 1943 (by decide +kernel) (by decide +kernel)
theorem w_1944 : Cond.code yX12_pull cX12_pull 4 (some .int) ∈ rhTs := rhTs_in 1944 (by decide +kernel) (by decide +kernel)
theorem w_1949 : Cond.methodLink RL 61 yX12_undo ∈ rhTs := rhTs_in 1949 (by decide +kernel) (by decide +kernel)
theorem w_1950 : Cond.instanceMethod yX12_undo ∈ rhTs := rhTs_in 1950 (by decide +kernel) (by decide +kernel)
theorem w_1951 : Cond.selects yX12_undo.cls yX12_undo yX12_undo ∈ rhTs := rhTs_in 1951 (by decide +kernel) (by decide +kernel)
theorem w_1952 : Cond.code yX12_undo cX12_undo 4 (some .int) ∈ rhTs := rhTs_in 1952 (by decide +kernel) (by decide +kernel)
theorem w_1953 : Cond.methodLink RL 65 yX12_worth ∈ rhTs := rhTs_in 1953 (by decide +kernel) (by decide +kernel)
theorem w_1954 : Cond.instanceMethod yX12_worth ∈ rhTs := rhTs_in 1954 (by decide +kernel) (by decide +kernel)
theorem w_1955 : Cond.selects yX12_worth.cls yX12_worth yX12_worth ∈ rhTs := rhTs_in 1955 (by decide +kernel) (by decide +kernel)
theorem w_1956 : Cond.code yX12_worth cX12_worth 1 (some .int) ∈ rhTs := rhTs_in 1956 (by decide +kernel) (by decide +kernel)
theorem w_1961 : Cond.methodLink RL 69 yX12_tell ∈ rhTs := rhTs_in 1961 (by decide +kernel) (by decide +kernel)
theorem w_1962 : Cond.instanceMethod yX12_tell ∈ rhTs := rhTs_in 1962 (by decide +kernel) (by decide +kernel)
theorem w_1963 : Cond.selects yX12_tell.cls yX12_tell yX12_tell ∈ rhTs := rhTs_in 1963 (by decide +kernel) (by decide +kernel)
theorem w_1964 : Cond.code yX12_tell cX12_tell 4 (some .int) ∈ rhTs := rhTs_in 1964 (by decide +kernel) (by decide +kernel)
theorem w_1965 : Cond.methodLink RL 73 yX12_hush ∈ rhTs := rhTs_in 1965 (by decide +kernel) (by decide +kernel)
theorem w_1966 : Cond.instanceMethod yX12_hush ∈ rhTs := rhTs_in 1966 (by decide +kernel) (by decide +kernel)
theorem w_1967 : Cond.selects yX12_hush.cls yX12_hush yX12_hush ∈ rhTs := rhTs_in 1967 (by decide +kernel) (by decide +kernel)
theorem w_1968 : Cond.code yX12_hush cX12_hush 2 (some .int) ∈ rhTs := rhTs_in 1968 (by decide +kernel) (by decide +kernel)
theorem w_1969 : Cond.methodLink RL 77 yX12_judge ∈ rhTs := rhTs_in 1969 (by decide +kernel) (by decide +kernel)
theorem w_1970 : Cond.instanceMethod yX12_judge ∈ rhTs := rhTs_in 1970 (by decide +kernel) (by decide +kernel)
theorem w_1971 : Cond.selects yX12_judge.cls yX12_judge yX12_judge ∈ rhTs := rhTs_in 1971 (by decide +kernel) (by decide +kernel)
theorem w_1972 : Cond.code yX12_judge cX12_judge 7 (some .int) ∈ rhTs := rhTs_in 1972 (by decide +kernel) (by decide +kernel)
theorem w_1973 : Cond.methodLink RL 81 yX12_goal ∈ rhTs := rhTs_in 1973 (by decide +kernel) (by decide +kernel)
theorem w_1974 : Cond.instanceMethod yX12_goal ∈ rhTs := rhTs_in 1974 (by decide +kernel) (by decide +kernel)
theorem w_1975 : Cond.selects yX12_goal.cls yX12_goal yX12_goal ∈ rhTs := rhTs_in 1975 (by decide +kernel) (by decide +kernel)
theorem w_1976 : Cond.code yX12_goal cX12_goal 3 (some .int) ∈ rhTs := rhTs_in 1976 (by decide +kernel) (by decide +kernel)
theorem w_1977 : Cond.methodLink RL 85 yX12_open ∈ rhTs := rhTs_in 1977 (by decide +kernel) (by decide +kernel)
theorem w_1978 : Cond.instanceMethod yX12_open ∈ rhTs := rhTs_in 1978 (by decide +kernel) (by decide +kernel)
theorem w_1979 : Cond.selects yX12_open.cls yX12_open yX12_open ∈ rhTs := rhTs_in 1979 (by decide +kernel) (by decide +kernel)
theorem w_1980 : Cond.code yX12_open cX12_open 2 (some .int) ∈ rhTs := rhTs_in 1980 (by decide +kernel) (by decide +kernel)
theorem w_1981 : Cond.methodLink RL 89 yX12_fewest ∈ rhTs := rhTs_in 1981 (by decide +kernel) (by decide +kernel)
theorem w_1982 : Cond.instanceMethod yX12_fewest ∈ rhTs := rhTs_in 1982 (by decide +kernel) (by decide +kernel)
theorem w_1983 : Cond.selects yX12_fewest.cls yX12_fewest yX12_fewest ∈ rhTs := rhTs_in 1983 (by decide +kernel) (by decide +kernel)
theorem w_1984 : Cond.code yX12_fewest cX12_fewest 2 (some .int) ∈ rhTs := rhTs_in 1984 (by decide +kernel) (by decide +kernel)
theorem w_2029 : Cond.methodLink RL 101 yX12_free ∈ rhTs := rhTs_in 2029 (by decide +kernel) (by decide +kernel)
theorem w_2030 : Cond.instanceMethod yX12_free ∈ rhTs := rhTs_in 2030 (by decide +kernel) (by decide +kernel)
theorem w_2031 : Cond.selects yX12_free.cls yX12_free yX12_free ∈ rhTs := rhTs_in 2031 (by decide +kernel) (by decide +kernel)
theorem w_2032 : Cond.code yX12_free cX12_free 3 (some .int) ∈ rhTs := rhTs_in 2032 (by decide +kernel) (by decide +kernel)
theorem w_2033 : Cond.methodLink RL 97 yX12_richest ∈ rhTs := rhTs_in 2033 (by decide +kernel) (by decide +kernel)
theorem w_2034 : Cond.instanceMethod yX12_richest ∈ rhTs := rhTs_in 2034 (by decide +kernel) (by decide +kernel)
theorem w_2035 : Cond.selects yX12_richest.cls yX12_richest yX12_richest ∈ rhTs := rhTs_in 2035 (by decide +kernel) (by decide +kernel)
theorem w_2036 : Cond.code yX12_richest cX12_richest 5 (some .int) ∈ rhTs := rhTs_in 2036 (by decide +kernel) (by decide +kernel)
theorem w_2037 : Cond.methodLink RL 105 yX12_spare ∈ rhTs := rhTs_in 2037 (by decide +kernel) (by decide +kernel)
theorem w_2038 : Cond.instanceMethod yX12_spare ∈ rhTs := rhTs_in 2038 (by decide +kernel) (by decide +kernel)
theorem w_2039 : Cond.selects yX12_spare.cls yX12_spare yX12_spare ∈ rhTs := rhTs_in 2039 (by decide +kernel) (by decide +kernel)
theorem w_2040 : Cond.code yX12_spare cX12_spare 7 (some .int) ∈ rhTs := rhTs_in 2040 (by decide +kernel) (by decide +kernel)
theorem w_2041 : Cond.methodLink RL 93 yX12_least ∈ rhTs := rhTs_in 2041 (by decide +kernel) (by decide +kernel)
theorem w_2042 : Cond.instanceMethod yX12_least ∈ rhTs := rhTs_in 2042 (by decide +kernel) (by decide +kernel)
theorem w_2043 : Cond.selects yX12_least.cls yX12_least yX12_least ∈ rhTs := rhTs_in 2043 (by decide +kernel) (by decide +kernel)
theorem w_2044 : Cond.code yX12_least cX12_least 4 (some .int) ∈ rhTs := rhTs_in 2044 (by decide +kernel) (by decide +kernel)
theorem w_2077 : Cond.methodLink RL 109 yX12_lies ∈ rhTs := rhTs_in 2077 (by decide +kernel) (by decide +kernel)
theorem w_2078 : Cond.instanceMethod yX12_lies ∈ rhTs := rhTs_in 2078 (by decide +kernel) (by decide +kernel)
theorem w_2079 : Cond.selects yX12_lies.cls yX12_lies yX12_lies ∈ rhTs := rhTs_in 2079 (by decide +kernel) (by decide +kernel)
theorem w_2080 : Cond.code yX12_lies cX12_lies 2 (some .int) ∈ rhTs := rhTs_in 2080 (by decide +kernel) (by decide +kernel)
theorem w_2081 : Cond.methodLink RL 114 yX12_sight ∈ rhTs := rhTs_in 2081 (by decide +kernel) (by decide +kernel)
theorem w_2082 : Cond.instanceMethod yX12_sight ∈ rhTs := rhTs_in 2082 (by decide +kernel) (by decide +kernel)
theorem w_2083 : Cond.selects yX12_sight.cls yX12_sight yX12_sight ∈ rhTs := rhTs_in 2083 (by decide +kernel) (by decide +kernel)
theorem w_2084 : Cond.code yX12_sight cX12_sight 5 (some .int) ∈ rhTs := rhTs_in 2084 (by decide +kernel) (by decide +kernel)
theorem w_2085 : Cond.methodLink RL 119 yX12_untell ∈ rhTs := rhTs_in 2085 (by decide +kernel) (by decide +kernel)
theorem w_2086 : Cond.instanceMethod yX12_untell ∈ rhTs := rhTs_in 2086 (by decide +kernel) (by decide +kernel)
theorem w_2087 : Cond.selects yX12_untell.cls yX12_untell yX12_untell ∈ rhTs := rhTs_in 2087 (by decide +kernel) (by decide +kernel)
theorem w_2088 : Cond.code yX12_untell cX12_untell 2 (some .boolean) ∈ rhTs := rhTs_in 2088 (by decide +kernel) (by decide +kernel)
theorem w_2089 : Cond.methodLink RL 123 yX12_later ∈ rhTs := rhTs_in 2089 (by decide +kernel) (by decide +kernel)
theorem w_2090 : Cond.instanceMethod yX12_later ∈ rhTs := rhTs_in 2090 (by decide +kernel) (by decide +kernel)
theorem w_2091 : Cond.selects yX12_later.cls yX12_later yX12_later ∈ rhTs := rhTs_in 2091 (by decide +kernel) (by decide +kernel)
theorem w_2092 : Cond.code yX12_later cX12_later 2 (some .int) ∈ rhTs := rhTs_in 2092 (by decide +kernel) (by decide +kernel)
theorem w_2094 : Cond.methodLink RL 127 yX12_fits ∈ rhTs := rhTs_in 2094 (by decide +kernel) (by decide +kernel)
theorem w_2095 : Cond.instanceMethod yX12_fits ∈ rhTs := rhTs_in 2095 (by decide +kernel) (by decide +kernel)
theorem w_2096 : Cond.selects yX12_fits.cls yX12_fits yX12_fits ∈ rhTs := rhTs_in 2096 (by decide +kernel) (by decide +kernel)
theorem w_2097 : Cond.code yX12_fits cX12_fits 3 (some .int) ∈ rhTs := rhTs_in 2097 (by decide +kernel) (by decide +kernel)
theorem w_2126 : Cond.methodLink RL 131 yX12_can ∈ rhTs := rhTs_in 2126 (by decide +kernel) (by decide +kernel)
theorem w_2127 : Cond.instanceMethod yX12_can ∈ rhTs := rhTs_in 2127 (by decide +kernel) (by decide +kernel)
theorem w_2128 : Cond.selects yX12_can.cls yX12_can yX12_can ∈ rhTs := rhTs_in 2128 (by decide +kernel) (by decide +kernel)
theorem w_2129 : Cond.code yX12_can cX12_can 4 (some .int) ∈ rhTs := rhTs_in 2129 (by decide +kernel) (by decide +kernel)
theorem w_2130 : Cond.methodLink RL 135 yX12_image ∈ rhTs := rhTs_in 2130 (by decide +kernel) (by decide +kernel)
theorem w_2131 : Cond.instanceMethod yX12_image ∈ rhTs := rhTs_in 2131 (by decide +kernel) (by decide +kernel)
theorem w_2132 : Cond.selects yX12_image.cls yX12_image yX12_image ∈ rhTs := rhTs_in 2132 (by decide +kernel) (by decide +kernel)
theorem w_2133 : Cond.code yX12_image cX12_image 3 (some .int) ∈ rhTs := rhTs_in 2133 (by decide +kernel) (by decide +kernel)
theorem w_2134 : Cond.methodLink RL 139 yX12_back ∈ rhTs := rhTs_in 2134 (by decide +kernel) (by decide +kernel)
theorem w_2135 : Cond.instanceMethod yX12_back ∈ rhTs := rhTs_in 2135 (by decide +kernel) (by decide +kernel)
theorem w_2136 : Cond.selects yX12_back.cls yX12_back yX12_back ∈ rhTs := rhTs_in 2136 (by decide +kernel) (by decide +kernel)
theorem w_2137 : Cond.code yX12_back cX12_back 3 (some .int) ∈ rhTs := rhTs_in 2137 (by decide +kernel) (by decide +kernel)
theorem w_2138 : Cond.methodLink RL 143 yX12_about ∈ rhTs := rhTs_in 2138 (by decide +kernel) (by decide +kernel)
theorem w_2139 : Cond.instanceMethod yX12_about ∈ rhTs := rhTs_in 2139 (by decide +kernel) (by decide +kernel)
theorem w_2140 : Cond.selects yX12_about.cls yX12_about yX12_about ∈ rhTs := rhTs_in 2140 (by decide +kernel) (by decide +kernel)
theorem w_2141 : Cond.code yX12_about cX12_about 2 (some .int) ∈ rhTs := rhTs_in 2141 (by decide +kernel) (by decide +kernel)
theorem w_2142 : Cond.methodLink RL 17 yX12_feed ∈ rhTs := rhTs_in 2142 (by decide +kernel) (by decide +kernel)
theorem w_2143 : Cond.instanceMethod yX12_feed ∈ rhTs := rhTs_in 2143 (by decide +kernel) (by decide +kernel)
theorem w_2144 : Cond.selects yX12_feed.cls yX12_feed yX12_feed ∈ rhTs := rhTs_in 2144 (by decide +kernel) (by decide +kernel)
theorem w_2145 : Cond.code yX12_feed cX12_feed 8 (some .int) ∈ rhTs := rhTs_in 2145 (by decide +kernel) (by decide +kernel)
theorem w_2146 : Cond.methodLink RL 22 yX12_end ∈ rhTs := rhTs_in 2146 (by decide +kernel) (by decide +kernel)
theorem w_2147 : Cond.instanceMethod yX12_end ∈ rhTs := rhTs_in 2147 (by decide +kernel) (by decide +kernel)
theorem w_2148 : Cond.selects yX12_end.cls yX12_end yX12_end ∈ rhTs := rhTs_in 2148 (by decide +kernel) (by decide +kernel)
theorem w_2149 : Cond.code yX12_end cX12_end 2 (some .int) ∈ rhTs := rhTs_in 2149 (by decide +kernel) (by decide +kernel)
theorem nw_L_7 : rhNw RL 7 11 := ⟨_, rfl, w_153, w_154, w_132⟩
theorem ml_L_9 : rhMl RL 9 yX11_init cX11_init 2 none 0 := ⟨w_155, w_132, w_157, by decide +kernel⟩
theorem mi_X11_init : Cond.instanceMethod yX11_init ∈ rhTs ∧ yX11_init.name = "<init>" := ⟨w_156, rfl⟩
theorem nw_L_10 : rhNw RL 10 12 := ⟨_, rfl, w_1417, w_1418, w_147⟩
theorem ml_L_12 : rhMl RL 12 yX12_init cX12_init 2 none 0 := ⟨w_1419, w_147, w_1421, by decide +kernel⟩
theorem mi_X12_init : Cond.instanceMethod yX12_init ∈ rhTs ∧ yX12_init.name = "<init>" := ⟨w_1420, rfl⟩
theorem ml_L_13 : rhMl RL 13 yX11_feed cX11_feed 6 (some .int) 5 := ⟨w_632, w_132, w_635, by decide +kernel⟩
theorem mv_X11_feed : Cond.instanceMethod yX11_feed ∈ rhTs ∧ Cond.selects yX11_feed.cls yX11_feed yX11_feed ∈ rhTs := ⟨w_633, w_634⟩
theorem ml_L_17 : rhMl RL 17 yX12_feed cX12_feed 8 (some .int) 5 := ⟨w_2142, w_147, w_2145, by decide +kernel⟩
theorem mv_X12_feed : Cond.instanceMethod yX12_feed ∈ rhTs ∧ Cond.selects yX12_feed.cls yX12_feed yX12_feed ∈ rhTs := ⟨w_2143, w_2144⟩
theorem ml_L_18 : rhMl RL 18 yX11_end cX11_end 2 (some .int) 1 := ⟨w_640, w_132, w_643, by decide +kernel⟩
theorem mv_X11_end : Cond.instanceMethod yX11_end ∈ rhTs ∧ Cond.selects yX11_end.cls yX11_end yX11_end ∈ rhTs := ⟨w_641, w_642⟩
theorem ml_L_22 : rhMl RL 22 yX12_end cX12_end 2 (some .int) 1 := ⟨w_2146, w_147, w_2149, by decide +kernel⟩
theorem mv_X12_end : Cond.instanceMethod yX12_end ∈ rhTs ∧ Cond.selects yX12_end.cls yX12_end yX12_end ∈ rhTs := ⟨w_2147, w_2148⟩
theorem ml_L_23 : rhMl RL 23 yX11_town cX11_town 3 (some .int) 0 := ⟨w_644, w_132, w_647, by decide +kernel⟩
theorem mv_X11_town : Cond.instanceMethod yX11_town ∈ rhTs ∧ Cond.selects yX11_town.cls yX11_town yX11_town ∈ rhTs := ⟨w_645, w_646⟩
theorem ml_L_27 : rhMl RL 27 yX12_town cX12_town 2 (some .int) 0 := ⟨w_1720, w_147, w_1723, by decide +kernel⟩
theorem mv_X12_town : Cond.instanceMethod yX12_town ∈ rhTs ∧ Cond.selects yX12_town.cls yX12_town yX12_town ∈ rhTs := ⟨w_1721, w_1722⟩
theorem ml_L_28 : rhMl RL 28 yX11_fault cX11_fault 2 (some .int) 1 := ⟨w_817, w_132, w_820, by decide +kernel⟩
theorem mv_X11_fault : Cond.instanceMethod yX11_fault ∈ rhTs ∧ Cond.selects yX11_fault.cls yX11_fault yX11_fault ∈ rhTs := ⟨w_818, w_819⟩
theorem ml_L_31 : rhMl RL 31 yX12_fault cX12_fault 2 (some .int) 1 := ⟨w_1870, w_147, w_1873, by decide +kernel⟩
theorem mv_X12_fault : Cond.instanceMethod yX12_fault ∈ rhTs ∧ Cond.selects yX12_fault.cls yX12_fault yX12_fault ∈ rhTs := ⟨w_1871, w_1872⟩
theorem ml_L_32 : rhMl RL 32 yX11_on cX11_on 3 (some .int) 2 := ⟨w_821, w_132, w_824, by decide +kernel⟩
theorem mv_X11_on : Cond.instanceMethod yX11_on ∈ rhTs ∧ Cond.selects yX11_on.cls yX11_on yX11_on ∈ rhTs := ⟨w_822, w_823⟩
theorem ml_L_36 : rhMl RL 36 yX12_on cX12_on 3 (some .int) 2 := ⟨w_1874, w_147, w_1877, by decide +kernel⟩
theorem mv_X12_on : Cond.instanceMethod yX12_on ∈ rhTs ∧ Cond.selects yX12_on.cls yX12_on yX12_on ∈ rhTs := ⟨w_1875, w_1876⟩
theorem ml_L_37 : rhMl RL 37 yX11_where cX11_where 3 (some .int) 2 := ⟨w_837, w_132, w_840, by decide +kernel⟩
theorem mv_X11_where : Cond.instanceMethod yX11_where ∈ rhTs ∧ Cond.selects yX11_where.cls yX11_where yX11_where ∈ rhTs := ⟨w_838, w_839⟩
theorem ml_L_40 : rhMl RL 40 yX12_where cX12_where 5 (some .int) 2 := ⟨w_1885, w_147, w_1888, by decide +kernel⟩
theorem mv_X12_where : Cond.instanceMethod yX12_where ∈ rhTs ∧ Cond.selects yX12_where.cls yX12_where yX12_where ∈ rhTs := ⟨w_1886, w_1887⟩
theorem ml_L_41 : rhMl RL 41 yX11_room cX11_room 2 (some .int) 1 := ⟨w_856, w_132, w_859, by decide +kernel⟩
theorem mv_X11_room : Cond.instanceMethod yX11_room ∈ rhTs ∧ Cond.selects yX11_room.cls yX11_room yX11_room ∈ rhTs := ⟨w_857, w_858⟩
theorem ml_L_44 : rhMl RL 44 yX12_room cX12_room 2 (some .int) 1 := ⟨w_1901, w_147, w_1904, by decide +kernel⟩
theorem mv_X12_room : Cond.instanceMethod yX12_room ∈ rhTs ∧ Cond.selects yX12_room.cls yX12_room yX12_room ∈ rhTs := ⟨w_1902, w_1903⟩
theorem ml_L_45 : rhMl RL 45 yX11_asked cX11_asked 4 (some .int) 3 := ⟨w_861, w_132, w_864, by decide +kernel⟩
theorem mv_X11_asked : Cond.instanceMethod yX11_asked ∈ rhTs ∧ Cond.selects yX11_asked.cls yX11_asked yX11_asked ∈ rhTs := ⟨w_862, w_863⟩
theorem ml_L_49 : rhMl RL 49 yX12_asked cX12_asked 4 (some .int) 3 := ⟨w_1909, w_147, w_1912, by decide +kernel⟩
theorem mv_X12_asked : Cond.instanceMethod yX12_asked ∈ rhTs ∧ Cond.selects yX12_asked.cls yX12_asked yX12_asked ∈ rhTs := ⟨w_1910, w_1911⟩
theorem ml_L_50 : rhMl RL 50 yX11_lawful cX11_lawful 4 (some .int) 3 := ⟨w_897, w_132, w_900, by decide +kernel⟩
theorem mv_X11_lawful : Cond.instanceMethod yX11_lawful ∈ rhTs ∧ Cond.selects yX11_lawful.cls yX11_lawful yX11_lawful ∈ rhTs := ⟨w_898, w_899⟩
theorem ml_L_53 : rhMl RL 53 yX12_lawful cX12_lawful 4 (some .int) 3 := ⟨w_1933, w_147, w_1936, by decide +kernel⟩
theorem mv_X12_lawful : Cond.instanceMethod yX12_lawful ∈ rhTs ∧ Cond.selects yX12_lawful.cls yX12_lawful yX12_lawful ∈ rhTs := ⟨w_1934, w_1935⟩
theorem ml_L_54 : rhMl RL 54 yX11_pull cX11_pull 5 (some .int) 3 := ⟨w_909, w_132, w_912, by decide +kernel⟩
theorem mv_X11_pull : Cond.instanceMethod yX11_pull ∈ rhTs ∧ Cond.selects yX11_pull.cls yX11_pull yX11_pull ∈ rhTs := ⟨w_910, w_911⟩
theorem ml_L_57 : rhMl RL 57 yX12_pull cX12_pull 4 (some .int) 3 := ⟨w_1941, w_147, w_1944, by decide +kernel⟩
theorem mv_X12_pull : Cond.instanceMethod yX12_pull ∈ rhTs ∧ Cond.selects yX12_pull.cls yX12_pull yX12_pull ∈ rhTs := ⟨w_1942, w_1943⟩
theorem ml_L_58 : rhMl RL 58 yX11_undo cX11_undo 4 (some .int) 1 := ⟨w_932, w_132, w_935, by decide +kernel⟩
theorem mv_X11_undo : Cond.instanceMethod yX11_undo ∈ rhTs ∧ Cond.selects yX11_undo.cls yX11_undo yX11_undo ∈ rhTs := ⟨w_933, w_934⟩
theorem ml_L_61 : rhMl RL 61 yX12_undo cX12_undo 4 (some .int) 1 := ⟨w_1949, w_147, w_1952, by decide +kernel⟩
theorem mv_X12_undo : Cond.instanceMethod yX12_undo ∈ rhTs ∧ Cond.selects yX12_undo.cls yX12_undo yX12_undo ∈ rhTs := ⟨w_1950, w_1951⟩
theorem ml_L_62 : rhMl RL 62 yX11_worth cX11_worth 1 (some .int) 0 := ⟨w_950, w_132, w_953, by decide +kernel⟩
theorem mv_X11_worth : Cond.instanceMethod yX11_worth ∈ rhTs ∧ Cond.selects yX11_worth.cls yX11_worth yX11_worth ∈ rhTs := ⟨w_951, w_952⟩
theorem ml_L_65 : rhMl RL 65 yX12_worth cX12_worth 1 (some .int) 0 := ⟨w_1953, w_147, w_1956, by decide +kernel⟩
theorem mv_X12_worth : Cond.instanceMethod yX12_worth ∈ rhTs ∧ Cond.selects yX12_worth.cls yX12_worth yX12_worth ∈ rhTs := ⟨w_1954, w_1955⟩
theorem ml_L_66 : rhMl RL 66 yX11_tell cX11_tell 4 (some .int) 3 := ⟨w_959, w_132, w_962, by decide +kernel⟩
theorem mv_X11_tell : Cond.instanceMethod yX11_tell ∈ rhTs ∧ Cond.selects yX11_tell.cls yX11_tell yX11_tell ∈ rhTs := ⟨w_960, w_961⟩
theorem ml_L_69 : rhMl RL 69 yX12_tell cX12_tell 4 (some .int) 3 := ⟨w_1961, w_147, w_1964, by decide +kernel⟩
theorem mv_X12_tell : Cond.instanceMethod yX12_tell ∈ rhTs ∧ Cond.selects yX12_tell.cls yX12_tell yX12_tell ∈ rhTs := ⟨w_1962, w_1963⟩
theorem ml_L_70 : rhMl RL 70 yX11_hush cX11_hush 2 (some .int) 0 := ⟨w_963, w_132, w_966, by decide +kernel⟩
theorem mv_X11_hush : Cond.instanceMethod yX11_hush ∈ rhTs ∧ Cond.selects yX11_hush.cls yX11_hush yX11_hush ∈ rhTs := ⟨w_964, w_965⟩
theorem ml_L_73 : rhMl RL 73 yX12_hush cX12_hush 2 (some .int) 0 := ⟨w_1965, w_147, w_1968, by decide +kernel⟩
theorem mv_X12_hush : Cond.instanceMethod yX12_hush ∈ rhTs ∧ Cond.selects yX12_hush.cls yX12_hush yX12_hush ∈ rhTs := ⟨w_1966, w_1967⟩
theorem ml_L_74 : rhMl RL 74 yX11_judge cX11_judge 8 (some .int) 1 := ⟨w_967, w_132, w_970, by decide +kernel⟩
theorem mv_X11_judge : Cond.instanceMethod yX11_judge ∈ rhTs ∧ Cond.selects yX11_judge.cls yX11_judge yX11_judge ∈ rhTs := ⟨w_968, w_969⟩
theorem ml_L_77 : rhMl RL 77 yX12_judge cX12_judge 7 (some .int) 1 := ⟨w_1969, w_147, w_1972, by decide +kernel⟩
theorem mv_X12_judge : Cond.instanceMethod yX12_judge ∈ rhTs ∧ Cond.selects yX12_judge.cls yX12_judge yX12_judge ∈ rhTs := ⟨w_1970, w_1971⟩
theorem ml_L_78 : rhMl RL 78 yX11_goal cX11_goal 2 (some .int) 1 := ⟨w_971, w_132, w_974, by decide +kernel⟩
theorem mv_X11_goal : Cond.instanceMethod yX11_goal ∈ rhTs ∧ Cond.selects yX11_goal.cls yX11_goal yX11_goal ∈ rhTs := ⟨w_972, w_973⟩
theorem ml_L_81 : rhMl RL 81 yX12_goal cX12_goal 3 (some .int) 1 := ⟨w_1973, w_147, w_1976, by decide +kernel⟩
theorem mv_X12_goal : Cond.instanceMethod yX12_goal ∈ rhTs ∧ Cond.selects yX12_goal.cls yX12_goal yX12_goal ∈ rhTs := ⟨w_1974, w_1975⟩
theorem ml_L_82 : rhMl RL 82 yX11_open cX11_open 2 (some .int) 0 := ⟨w_980, w_132, w_983, by decide +kernel⟩
theorem mv_X11_open : Cond.instanceMethod yX11_open ∈ rhTs ∧ Cond.selects yX11_open.cls yX11_open yX11_open ∈ rhTs := ⟨w_981, w_982⟩
theorem ml_L_85 : rhMl RL 85 yX12_open cX12_open 2 (some .int) 0 := ⟨w_1977, w_147, w_1980, by decide +kernel⟩
theorem mv_X12_open : Cond.instanceMethod yX12_open ∈ rhTs ∧ Cond.selects yX12_open.cls yX12_open yX12_open ∈ rhTs := ⟨w_1978, w_1979⟩
theorem ml_L_86 : rhMl RL 86 yX11_fewest cX11_fewest 1 (some .int) 0 := ⟨w_984, w_132, w_987, by decide +kernel⟩
theorem mv_X11_fewest : Cond.instanceMethod yX11_fewest ∈ rhTs ∧ Cond.selects yX11_fewest.cls yX11_fewest yX11_fewest ∈ rhTs := ⟨w_985, w_986⟩
theorem ml_L_89 : rhMl RL 89 yX12_fewest cX12_fewest 2 (some .int) 0 := ⟨w_1981, w_147, w_1984, by decide +kernel⟩
theorem mv_X12_fewest : Cond.instanceMethod yX12_fewest ∈ rhTs ∧ Cond.selects yX12_fewest.cls yX12_fewest yX12_fewest ∈ rhTs := ⟨w_1982, w_1983⟩
theorem ml_L_90 : rhMl RL 90 yX11_least cX11_least 2 (some .int) 0 := ⟨w_1261, w_132, w_1264, by decide +kernel⟩
theorem mv_X11_least : Cond.instanceMethod yX11_least ∈ rhTs ∧ Cond.selects yX11_least.cls yX11_least yX11_least ∈ rhTs := ⟨w_1262, w_1263⟩
theorem ml_L_93 : rhMl RL 93 yX12_least cX12_least 4 (some .int) 0 := ⟨w_2041, w_147, w_2044, by decide +kernel⟩
theorem mv_X12_least : Cond.instanceMethod yX12_least ∈ rhTs ∧ Cond.selects yX12_least.cls yX12_least yX12_least ∈ rhTs := ⟨w_2042, w_2043⟩
theorem ml_L_94 : rhMl RL 94 yX11_richest cX11_richest 2 (some .int) 1 := ⟨w_1307, w_132, w_1310, by decide +kernel⟩
theorem mv_X11_richest : Cond.instanceMethod yX11_richest ∈ rhTs ∧ Cond.selects yX11_richest.cls yX11_richest yX11_richest ∈ rhTs := ⟨w_1308, w_1309⟩
theorem ml_L_97 : rhMl RL 97 yX12_richest cX12_richest 5 (some .int) 1 := ⟨w_2033, w_147, w_2036, by decide +kernel⟩
theorem mv_X12_richest : Cond.instanceMethod yX12_richest ∈ rhTs ∧ Cond.selects yX12_richest.cls yX12_richest yX12_richest ∈ rhTs := ⟨w_2034, w_2035⟩
theorem ml_L_98 : rhMl RL 98 yX11_free cX11_free 2 (some .int) 1 := ⟨w_1315, w_132, w_1318, by decide +kernel⟩
theorem mv_X11_free : Cond.instanceMethod yX11_free ∈ rhTs ∧ Cond.selects yX11_free.cls yX11_free yX11_free ∈ rhTs := ⟨w_1316, w_1317⟩
theorem ml_L_101 : rhMl RL 101 yX12_free cX12_free 3 (some .int) 1 := ⟨w_2029, w_147, w_2032, by decide +kernel⟩
theorem mv_X12_free : Cond.instanceMethod yX12_free ∈ rhTs ∧ Cond.selects yX12_free.cls yX12_free yX12_free ∈ rhTs := ⟨w_2030, w_2031⟩
theorem ml_L_102 : rhMl RL 102 yX11_spare cX11_spare 7 (some .int) 2 := ⟨w_1323, w_132, w_1326, by decide +kernel⟩
theorem mv_X11_spare : Cond.instanceMethod yX11_spare ∈ rhTs ∧ Cond.selects yX11_spare.cls yX11_spare yX11_spare ∈ rhTs := ⟨w_1324, w_1325⟩
theorem ml_L_105 : rhMl RL 105 yX12_spare cX12_spare 7 (some .int) 2 := ⟨w_2037, w_147, w_2040, by decide +kernel⟩
theorem mv_X12_spare : Cond.instanceMethod yX12_spare ∈ rhTs ∧ Cond.selects yX12_spare.cls yX12_spare yX12_spare ∈ rhTs := ⟨w_2038, w_2039⟩
theorem ml_L_106 : rhMl RL 106 yX11_lies cX11_lies 2 (some .int) 1 := ⟨w_1331, w_132, w_1334, by decide +kernel⟩
theorem mv_X11_lies : Cond.instanceMethod yX11_lies ∈ rhTs ∧ Cond.selects yX11_lies.cls yX11_lies yX11_lies ∈ rhTs := ⟨w_1332, w_1333⟩
theorem ml_L_109 : rhMl RL 109 yX12_lies cX12_lies 2 (some .int) 1 := ⟨w_2077, w_147, w_2080, by decide +kernel⟩
theorem mv_X12_lies : Cond.instanceMethod yX12_lies ∈ rhTs ∧ Cond.selects yX12_lies.cls yX12_lies yX12_lies ∈ rhTs := ⟨w_2078, w_2079⟩
theorem ml_L_110 : rhMl RL 110 yX11_sight cX11_sight 5 (some .int) 4 := ⟨w_1335, w_132, w_1338, by decide +kernel⟩
theorem mv_X11_sight : Cond.instanceMethod yX11_sight ∈ rhTs ∧ Cond.selects yX11_sight.cls yX11_sight yX11_sight ∈ rhTs := ⟨w_1336, w_1337⟩
theorem ml_L_114 : rhMl RL 114 yX12_sight cX12_sight 5 (some .int) 4 := ⟨w_2081, w_147, w_2084, by decide +kernel⟩
theorem mv_X12_sight : Cond.instanceMethod yX12_sight ∈ rhTs ∧ Cond.selects yX12_sight.cls yX12_sight yX12_sight ∈ rhTs := ⟨w_2082, w_2083⟩
theorem ml_L_115 : rhMl RL 115 yX11_untell cX11_untell 2 (some .boolean) 1 := ⟨w_1343, w_132, w_1346, by decide +kernel⟩
theorem mv_X11_untell : Cond.instanceMethod yX11_untell ∈ rhTs ∧ Cond.selects yX11_untell.cls yX11_untell yX11_untell ∈ rhTs := ⟨w_1344, w_1345⟩
theorem ml_L_119 : rhMl RL 119 yX12_untell cX12_untell 2 (some .boolean) 1 := ⟨w_2085, w_147, w_2088, by decide +kernel⟩
theorem mv_X12_untell : Cond.instanceMethod yX12_untell ∈ rhTs ∧ Cond.selects yX12_untell.cls yX12_untell yX12_untell ∈ rhTs := ⟨w_2086, w_2087⟩
theorem ml_L_120 : rhMl RL 120 yX11_later cX11_later 2 (some .int) 1 := ⟨w_1351, w_132, w_1354, by decide +kernel⟩
theorem mv_X11_later : Cond.instanceMethod yX11_later ∈ rhTs ∧ Cond.selects yX11_later.cls yX11_later yX11_later ∈ rhTs := ⟨w_1352, w_1353⟩
theorem ml_L_123 : rhMl RL 123 yX12_later cX12_later 2 (some .int) 1 := ⟨w_2089, w_147, w_2092, by decide +kernel⟩
theorem mv_X12_later : Cond.instanceMethod yX12_later ∈ rhTs ∧ Cond.selects yX12_later.cls yX12_later yX12_later ∈ rhTs := ⟨w_2090, w_2091⟩
theorem ml_L_124 : rhMl RL 124 yX11_fits cX11_fits 3 (some .int) 2 := ⟨w_1356, w_132, w_1359, by decide +kernel⟩
theorem mv_X11_fits : Cond.instanceMethod yX11_fits ∈ rhTs ∧ Cond.selects yX11_fits.cls yX11_fits yX11_fits ∈ rhTs := ⟨w_1357, w_1358⟩
theorem ml_L_127 : rhMl RL 127 yX12_fits cX12_fits 3 (some .int) 2 := ⟨w_2094, w_147, w_2097, by decide +kernel⟩
theorem mv_X12_fits : Cond.instanceMethod yX12_fits ∈ rhTs ∧ Cond.selects yX12_fits.cls yX12_fits yX12_fits ∈ rhTs := ⟨w_2095, w_2096⟩
theorem ml_L_128 : rhMl RL 128 yX11_can cX11_can 4 (some .int) 3 := ⟨w_1389, w_132, w_1392, by decide +kernel⟩
theorem mv_X11_can : Cond.instanceMethod yX11_can ∈ rhTs ∧ Cond.selects yX11_can.cls yX11_can yX11_can ∈ rhTs := ⟨w_1390, w_1391⟩
theorem ml_L_131 : rhMl RL 131 yX12_can cX12_can 4 (some .int) 3 := ⟨w_2126, w_147, w_2129, by decide +kernel⟩
theorem mv_X12_can : Cond.instanceMethod yX12_can ∈ rhTs ∧ Cond.selects yX12_can.cls yX12_can yX12_can ∈ rhTs := ⟨w_2127, w_2128⟩
theorem ml_L_132 : rhMl RL 132 yX11_image cX11_image 2 (some .int) 1 := ⟨w_1397, w_132, w_1400, by decide +kernel⟩
theorem mv_X11_image : Cond.instanceMethod yX11_image ∈ rhTs ∧ Cond.selects yX11_image.cls yX11_image yX11_image ∈ rhTs := ⟨w_1398, w_1399⟩
theorem ml_L_135 : rhMl RL 135 yX12_image cX12_image 3 (some .int) 1 := ⟨w_2130, w_147, w_2133, by decide +kernel⟩
theorem mv_X12_image : Cond.instanceMethod yX12_image ∈ rhTs ∧ Cond.selects yX12_image.cls yX12_image yX12_image ∈ rhTs := ⟨w_2131, w_2132⟩
theorem ml_L_136 : rhMl RL 136 yX11_back cX11_back 2 (some .int) 1 := ⟨w_1409, w_132, w_1412, by decide +kernel⟩
theorem mv_X11_back : Cond.instanceMethod yX11_back ∈ rhTs ∧ Cond.selects yX11_back.cls yX11_back yX11_back ∈ rhTs := ⟨w_1410, w_1411⟩
theorem ml_L_139 : rhMl RL 139 yX12_back cX12_back 3 (some .int) 1 := ⟨w_2134, w_147, w_2137, by decide +kernel⟩
theorem mv_X12_back : Cond.instanceMethod yX12_back ∈ rhTs ∧ Cond.selects yX12_back.cls yX12_back yX12_back ∈ rhTs := ⟨w_2135, w_2136⟩
theorem ml_L_140 : rhMl RL 140 yX11_about cX11_about 2 (some .int) 1 := ⟨w_1413, w_132, w_1416, by decide +kernel⟩
theorem mv_X11_about : Cond.instanceMethod yX11_about ∈ rhTs ∧ Cond.selects yX11_about.cls yX11_about yX11_about ∈ rhTs := ⟨w_1414, w_1415⟩
theorem ml_L_143 : rhMl RL 143 yX12_about cX12_about 2 (some .int) 1 := ⟨w_2138, w_147, w_2141, by decide +kernel⟩
theorem mv_X12_about : Cond.instanceMethod yX12_about ∈ rhTs ∧ Cond.selects yX12_about.cls yX12_about yX12_about ∈ rhTs := ⟨w_2139, w_2140⟩
def f_L_law_1051 (Lx : Nat) (xs : Nat → Int32) (k18 : rhG → rhM → Nat → Nat → Int32 → Option (Int32 × rhG × rhM)) (Γ : rhG) (M : rhM) (v1 : Nat) (v2 : Nat) (v3 : Int32) : Option (Int32 × rhG × rhM) :=
  let x24 : Int32 := v3 + 6
  k18 Γ M v1 v2 x24
def f_L_law_852 (Lx : Nat) (xs : Nat → Int32) (k1051 : rhG → rhM → Nat → Nat → Int32 → Option (Int32 × rhG × rhM)) (Γ : rhG) (M : rhM) (v1 : Nat) (v2 : Nat) (v3 : Int32) (s0 : Int32) (s1 : Nat) (s2 : Int32) (s3 : Int32) (s4 : Int32) (s5 : Int32) : Option (Int32 × rhG × rhM) :=
  rhck (Γ.2.2.1 s1 = 13) <|
  (f_X12_sight Γ M s1 s2 s3 s4 s5).bind fun r198 =>
  if s0 = r198.1 then
    (k1051 Γ r198.2 v1 v2 v3)
  else
    some ((0, Γ, r198.2))
def f_L_law_820 (Lx : Nat) (xs : Nat → Int32) (k1051 : rhG → rhM → Nat → Nat → Int32 → Option (Int32 × rhG × rhM)) (Γ : rhG) (M : rhM) (v1 : Nat) (v2 : Nat) (v3 : Int32) (s0 : Nat) (s1 : Int32) (s2 : Int32) (s3 : Int32) (s4 : Int32) : Option (Int32 × rhG × rhM) :=
  rhck (Γ.2.2.1 s0 = 12) <|
  (f_X11_sight Γ M s0 s1 s2 s3 s4).bind fun r191 =>
  rhck (0 ≤ (v3 + 1).toInt ∧ (v3 + 1).toInt < (Lx : Nat)) <|
  rhck (0 ≤ (v3 + 2).toInt ∧ (v3 + 2).toInt < (Lx : Nat)) <|
  rhck (0 ≤ (v3 + 3).toInt ∧ (v3 + 3).toInt < (Lx : Nat)) <|
  rhck (0 ≤ (v3 + 4).toInt ∧ (v3 + 4).toInt < (Lx : Nat)) <|
  if (xs (v3 + 4).toNatClampNeg) = 0 then
    (f_L_law_852 Lx xs k1051 Γ r191.2 v1 v2 v3 r191.1 v2 (xs (v3 + 1).toNatClampNeg) (xs (v3 + 2).toNatClampNeg) (xs (v3 + 3).toNatClampNeg) 0)
  else
    f_L_law_852 Lx xs k1051 Γ r191.2 v1 v2 v3 r191.1 v2 (xs (v3 + 1).toNatClampNeg) (xs (v3 + 2).toNatClampNeg) (xs (v3 + 3).toNatClampNeg) 1
def f_L_law_18 (Lx : Nat) (xs : Nat → Int32) : Nat → rhG → rhM → Nat → Nat → Int32 → Option (Int32 × rhG × rhM)
  | 0, _, _, _, _, _ => none
  | n + 1, Γ, M, v1, v2, v3 =>
    if ((Int32.ofNat Lx) - 6) < v3 then
      (some ((1, Γ, M)))
    else
      rhck (0 ≤ v3.toInt ∧ v3.toInt < (Lx : Nat)) <|
      if ((xs v3.toNatClampNeg) &&& 31) = 0 then
        (rhck (0 ≤ (v3 + 1).toInt ∧ (v3 + 1).toInt < (Lx : Nat)) <|
        rhck (0 ≤ (v3 + 2).toInt ∧ (v3 + 2).toInt < (Lx : Nat)) <|
        rhck (0 ≤ (v3 + 3).toInt ∧ (v3 + 3).toInt < (Lx : Nat)) <|
        rhck (0 ≤ (v3 + 4).toInt ∧ (v3 + 4).toInt < (Lx : Nat)) <|
        rhck (0 ≤ (v3 + 5).toInt ∧ (v3 + 5).toInt < (Lx : Nat)) <|
        rhck (Γ.2.2.1 v1 = 12) <|
        (f_X11_feed Γ M v1 (xs (v3 + 1).toNatClampNeg) (xs (v3 + 2).toNatClampNeg) (xs (v3 + 3).toNatClampNeg) (xs (v3 + 4).toNatClampNeg) (xs (v3 + 5).toNatClampNeg)).bind fun r20 =>
        rhck (Γ.2.2.1 v2 = 13) <|
        (f_X12_feed Γ r20.2 v2 (xs (v3 + 1).toNatClampNeg) (xs (v3 + 2).toNatClampNeg) (xs (v3 + 3).toNatClampNeg) (xs (v3 + 4).toNatClampNeg) (xs (v3 + 5).toNatClampNeg)).bind fun r22 =>
        if r20.1 = r22.1 then
          (f_L_law_1051 Lx xs (f_L_law_18 Lx xs n) Γ r22.2 v1 v2 v3)
        else
          some ((0, Γ, r22.2)))
      else
      if ((xs v3.toNatClampNeg) &&& 31) = 1 then
        (rhck (0 ≤ (v3 + 1).toInt ∧ (v3 + 1).toInt < (Lx : Nat)) <|
        rhck (Γ.2.2.1 v1 = 12) <|
        (f_X11_end Γ M v1 (xs (v3 + 1).toNatClampNeg)).bind fun r28 =>
        rhck (Γ.2.2.1 v2 = 13) <|
        (f_X12_end Γ r28.2 v2 (xs (v3 + 1).toNatClampNeg)).bind fun r30 =>
        if r28.1 = r30.1 then
          (f_L_law_1051 Lx xs (f_L_law_18 Lx xs n) Γ r30.2 v1 v2 v3)
        else
          some ((0, Γ, r30.2)))
      else
      if ((xs v3.toNatClampNeg) &&& 31) = 2 then
        (rhck (Γ.2.2.1 v1 = 12) <|
        (f_X11_town Γ M v1).bind fun r34 =>
        rhck (Γ.2.2.1 v2 = 13) <|
        (f_X12_town Γ r34.2 v2).bind fun r36 =>
        if r34.1 = r36.1 then
          (f_L_law_1051 Lx xs (f_L_law_18 Lx xs n) Γ r36.2 v1 v2 v3)
        else
          some ((0, Γ, r36.2)))
      else
      if ((xs v3.toNatClampNeg) &&& 31) = 3 then
        (rhck (0 ≤ (v3 + 1).toInt ∧ (v3 + 1).toInt < (Lx : Nat)) <|
        rhck (Γ.2.2.1 v1 = 12) <|
        (f_X11_fault Γ M v1 (xs (v3 + 1).toNatClampNeg)).bind fun r41 =>
        rhck (Γ.2.2.1 v2 = 13) <|
        (f_X12_fault Γ M v2 (xs (v3 + 1).toNatClampNeg)).bind fun r43 =>
        if r41 = r43 then
          (f_L_law_1051 Lx xs (f_L_law_18 Lx xs n) Γ M v1 v2 v3)
        else
          some ((0, Γ, M)))
      else
      if ((xs v3.toNatClampNeg) &&& 31) = 4 then
        (rhck (0 ≤ (v3 + 1).toInt ∧ (v3 + 1).toInt < (Lx : Nat)) <|
        rhck (0 ≤ (v3 + 2).toInt ∧ (v3 + 2).toInt < (Lx : Nat)) <|
        rhck (Γ.2.2.1 v1 = 12) <|
        (f_X11_on Γ M v1 (xs (v3 + 1).toNatClampNeg) (xs (v3 + 2).toNatClampNeg)).bind fun r49 =>
        rhck (Γ.2.2.1 v2 = 13) <|
        (f_X12_on Γ M v2 (xs (v3 + 1).toNatClampNeg) (xs (v3 + 2).toNatClampNeg)).bind fun r51 =>
        if r49 = r51 then
          (f_L_law_1051 Lx xs (f_L_law_18 Lx xs n) Γ M v1 v2 v3)
        else
          some ((0, Γ, M)))
      else
      if ((xs v3.toNatClampNeg) &&& 31) = 5 then
        (rhck (0 ≤ (v3 + 1).toInt ∧ (v3 + 1).toInt < (Lx : Nat)) <|
        rhck (0 ≤ (v3 + 2).toInt ∧ (v3 + 2).toInt < (Lx : Nat)) <|
        rhck (Γ.2.2.1 v1 = 12) <|
        (f_X11_where Γ M v1 (xs (v3 + 1).toNatClampNeg) (xs (v3 + 2).toNatClampNeg)).bind fun r57 =>
        rhck (Γ.2.2.1 v2 = 13) <|
        (f_X12_where Γ M v2 (xs (v3 + 1).toNatClampNeg) (xs (v3 + 2).toNatClampNeg)).bind fun r59 =>
        if r57 = r59.1 then
          (f_L_law_1051 Lx xs (f_L_law_18 Lx xs n) Γ r59.2 v1 v2 v3)
        else
          some ((0, Γ, r59.2)))
      else
      if ((xs v3.toNatClampNeg) &&& 31) = 6 then
        (rhck (0 ≤ (v3 + 1).toInt ∧ (v3 + 1).toInt < (Lx : Nat)) <|
        rhck (Γ.2.2.1 v1 = 12) <|
        (f_X11_room Γ M v1 (xs (v3 + 1).toNatClampNeg)).bind fun r64 =>
        rhck (Γ.2.2.1 v2 = 13) <|
        (f_X12_room Γ M v2 (xs (v3 + 1).toNatClampNeg)).bind fun r66 =>
        if r64 = r66.1 then
          (f_L_law_1051 Lx xs (f_L_law_18 Lx xs n) Γ r66.2 v1 v2 v3)
        else
          some ((0, Γ, r66.2)))
      else
      if ((xs v3.toNatClampNeg) &&& 31) = 7 then
        (rhck (0 ≤ (v3 + 1).toInt ∧ (v3 + 1).toInt < (Lx : Nat)) <|
        rhck (0 ≤ (v3 + 2).toInt ∧ (v3 + 2).toInt < (Lx : Nat)) <|
        rhck (0 ≤ (v3 + 3).toInt ∧ (v3 + 3).toInt < (Lx : Nat)) <|
        rhck (Γ.2.2.1 v1 = 12) <|
        (f_X11_asked Γ M v1 (xs (v3 + 1).toNatClampNeg) (xs (v3 + 2).toNatClampNeg) (xs (v3 + 3).toNatClampNeg)).bind fun r73 =>
        rhck (Γ.2.2.1 v2 = 13) <|
        (f_X12_asked Γ r73.2 v2 (xs (v3 + 1).toNatClampNeg) (xs (v3 + 2).toNatClampNeg) (xs (v3 + 3).toNatClampNeg)).bind fun r75 =>
        if r73.1 = r75.1 then
          (f_L_law_1051 Lx xs (f_L_law_18 Lx xs n) Γ r75.2 v1 v2 v3)
        else
          some ((0, Γ, r75.2)))
      else
      if ((xs v3.toNatClampNeg) &&& 31) = 8 then
        (rhck (0 ≤ (v3 + 1).toInt ∧ (v3 + 1).toInt < (Lx : Nat)) <|
        rhck (0 ≤ (v3 + 2).toInt ∧ (v3 + 2).toInt < (Lx : Nat)) <|
        rhck (0 ≤ (v3 + 3).toInt ∧ (v3 + 3).toInt < (Lx : Nat)) <|
        rhck (Γ.2.2.1 v1 = 12) <|
        (f_X11_lawful Γ M v1 (xs (v3 + 1).toNatClampNeg) (xs (v3 + 2).toNatClampNeg) (xs (v3 + 3).toNatClampNeg)).bind fun r82 =>
        rhck (Γ.2.2.1 v2 = 13) <|
        (f_X12_lawful Γ r82.2 v2 (xs (v3 + 1).toNatClampNeg) (xs (v3 + 2).toNatClampNeg) (xs (v3 + 3).toNatClampNeg)).bind fun r84 =>
        if r82.1 = r84.1 then
          (f_L_law_1051 Lx xs (f_L_law_18 Lx xs n) Γ r84.2 v1 v2 v3)
        else
          some ((0, Γ, r84.2)))
      else
      if ((xs v3.toNatClampNeg) &&& 31) = 9 then
        (rhck (0 ≤ (v3 + 1).toInt ∧ (v3 + 1).toInt < (Lx : Nat)) <|
        rhck (0 ≤ (v3 + 2).toInt ∧ (v3 + 2).toInt < (Lx : Nat)) <|
        rhck (0 ≤ (v3 + 3).toInt ∧ (v3 + 3).toInt < (Lx : Nat)) <|
        rhck (Γ.2.2.1 v1 = 12) <|
        (f_X11_pull Γ M v1 (xs (v3 + 1).toNatClampNeg) (xs (v3 + 2).toNatClampNeg) (xs (v3 + 3).toNatClampNeg)).bind fun r91 =>
        rhck (Γ.2.2.1 v2 = 13) <|
        (f_X12_pull Γ r91.2 v2 (xs (v3 + 1).toNatClampNeg) (xs (v3 + 2).toNatClampNeg) (xs (v3 + 3).toNatClampNeg)).bind fun r93 =>
        if r91.1 = r93.1 then
          (f_L_law_1051 Lx xs (f_L_law_18 Lx xs n) Γ r93.2 v1 v2 v3)
        else
          some ((0, Γ, r93.2)))
      else
      if ((xs v3.toNatClampNeg) &&& 31) = 10 then
        (rhck (0 ≤ (v3 + 1).toInt ∧ (v3 + 1).toInt < (Lx : Nat)) <|
        rhck (Γ.2.2.1 v1 = 12) <|
        (f_X11_undo Γ M v1 (xs (v3 + 1).toNatClampNeg)).bind fun r98 =>
        rhck (Γ.2.2.1 v2 = 13) <|
        (f_X12_undo Γ r98.2 v2 (xs (v3 + 1).toNatClampNeg)).bind fun r100 =>
        if r98.1 = r100.1 then
          (f_L_law_1051 Lx xs (f_L_law_18 Lx xs n) Γ r100.2 v1 v2 v3)
        else
          some ((0, Γ, r100.2)))
      else
      if ((xs v3.toNatClampNeg) &&& 31) = 11 then
        (rhck (Γ.2.2.1 v1 = 12) <|
        (f_X11_worth Γ M v1).bind fun r104 =>
        rhck (Γ.2.2.1 v2 = 13) <|
        (f_X12_worth Γ M v2).bind fun r106 =>
        if r104 = r106.1 then
          (f_L_law_1051 Lx xs (f_L_law_18 Lx xs n) Γ r106.2 v1 v2 v3)
        else
          some ((0, Γ, r106.2)))
      else
      if ((xs v3.toNatClampNeg) &&& 31) = 12 then
        (rhck (0 ≤ (v3 + 1).toInt ∧ (v3 + 1).toInt < (Lx : Nat)) <|
        rhck (0 ≤ (v3 + 2).toInt ∧ (v3 + 2).toInt < (Lx : Nat)) <|
        rhck (0 ≤ (v3 + 3).toInt ∧ (v3 + 3).toInt < (Lx : Nat)) <|
        rhck (Γ.2.2.1 v1 = 12) <|
        (f_X11_tell Γ M v1 (xs (v3 + 1).toNatClampNeg) (xs (v3 + 2).toNatClampNeg) (xs (v3 + 3).toNatClampNeg)).bind fun r113 =>
        rhck (Γ.2.2.1 v2 = 13) <|
        (f_X12_tell Γ r113.2 v2 (xs (v3 + 1).toNatClampNeg) (xs (v3 + 2).toNatClampNeg) (xs (v3 + 3).toNatClampNeg)).bind fun r115 =>
        if r113.1 = r115.1 then
          (f_L_law_1051 Lx xs (f_L_law_18 Lx xs n) Γ r115.2 v1 v2 v3)
        else
          some ((0, Γ, r115.2)))
      else
      if ((xs v3.toNatClampNeg) &&& 31) = 13 then
        (rhck (Γ.2.2.1 v1 = 12) <|
        (f_X11_hush Γ M v1).bind fun r119 =>
        rhck (Γ.2.2.1 v2 = 13) <|
        (f_X12_hush Γ r119.2 v2).bind fun r121 =>
        if r119.1 = r121.1 then
          (f_L_law_1051 Lx xs (f_L_law_18 Lx xs n) Γ r121.2 v1 v2 v3)
        else
          some ((0, Γ, r121.2)))
      else
      if ((xs v3.toNatClampNeg) &&& 31) = 14 then
        (rhck (0 ≤ (v3 + 1).toInt ∧ (v3 + 1).toInt < (Lx : Nat)) <|
        rhck (Γ.2.2.1 v1 = 12) <|
        (f_X11_judge Γ M v1 (xs (v3 + 1).toNatClampNeg)).bind fun r126 =>
        rhck (Γ.2.2.1 v2 = 13) <|
        (f_X12_judge Γ r126.2 v2 (xs (v3 + 1).toNatClampNeg)).bind fun r128 =>
        if r126.1 = r128.1 then
          (f_L_law_1051 Lx xs (f_L_law_18 Lx xs n) Γ r128.2 v1 v2 v3)
        else
          some ((0, Γ, r128.2)))
      else
      if ((xs v3.toNatClampNeg) &&& 31) = 15 then
        (rhck (0 ≤ (v3 + 1).toInt ∧ (v3 + 1).toInt < (Lx : Nat)) <|
        rhck (Γ.2.2.1 v1 = 12) <|
        (f_X11_goal Γ M v1 (xs (v3 + 1).toNatClampNeg)).bind fun r133 =>
        rhck (Γ.2.2.1 v2 = 13) <|
        (f_X12_goal Γ r133.2 v2 (xs (v3 + 1).toNatClampNeg)).bind fun r135 =>
        if r133.1 = r135.1 then
          (f_L_law_1051 Lx xs (f_L_law_18 Lx xs n) Γ r135.2 v1 v2 v3)
        else
          some ((0, Γ, r135.2)))
      else
      if ((xs v3.toNatClampNeg) &&& 31) = 16 then
        (rhck (Γ.2.2.1 v1 = 12) <|
        (f_X11_open Γ M v1).bind fun r139 =>
        rhck (Γ.2.2.1 v2 = 13) <|
        (f_X12_open Γ r139.2 v2).bind fun r141 =>
        if r139.1 = r141.1 then
          (f_L_law_1051 Lx xs (f_L_law_18 Lx xs n) Γ r141.2 v1 v2 v3)
        else
          some ((0, Γ, r141.2)))
      else
      if ((xs v3.toNatClampNeg) &&& 31) = 17 then
        (rhck (Γ.2.2.1 v1 = 12) <|
        (f_X11_fewest Γ M v1).bind fun r145 =>
        rhck (r145.2.1.2.2.1 v2 = 13) <|
        (f_X12_fewest r145.2.1 r145.2.2 v2).bind fun r147 =>
        if r145.1 = r147.1 then
          (f_L_law_1051 Lx xs (f_L_law_18 Lx xs n) r145.2.1 r147.2 v1 v2 v3)
        else
          some ((0, r145.2.1, r147.2)))
      else
      if ((xs v3.toNatClampNeg) &&& 31) = 18 then
        (rhck (Γ.2.2.1 v1 = 12) <|
        (f_X11_least Γ M v1).bind fun r151 =>
        rhck (r151.2.1.2.2.1 v2 = 13) <|
        (f_X12_least r151.2.1 r151.2.2 v2).bind fun r153 =>
        if r151.1 = r153.1 then
          (f_L_law_1051 Lx xs (f_L_law_18 Lx xs n) r151.2.1 r153.2 v1 v2 v3)
        else
          some ((0, r151.2.1, r153.2)))
      else
      if ((xs v3.toNatClampNeg) &&& 31) = 19 then
        (rhck (0 ≤ (v3 + 1).toInt ∧ (v3 + 1).toInt < (Lx : Nat)) <|
        rhck (Γ.2.2.1 v1 = 12) <|
        (f_X11_richest Γ M v1 (xs (v3 + 1).toNatClampNeg)).bind fun r158 =>
        rhck (r158.2.1.2.2.1 v2 = 13) <|
        (f_X12_richest r158.2.1 r158.2.2 v2 (xs (v3 + 1).toNatClampNeg)).bind fun r160 =>
        if r158.1 = r160.1 then
          (f_L_law_1051 Lx xs (f_L_law_18 Lx xs n) r158.2.1 r160.2 v1 v2 v3)
        else
          some ((0, r158.2.1, r160.2)))
      else
      if ((xs v3.toNatClampNeg) &&& 31) = 20 then
        (rhck (0 ≤ (v3 + 1).toInt ∧ (v3 + 1).toInt < (Lx : Nat)) <|
        rhck (Γ.2.2.1 v1 = 12) <|
        (f_X11_free Γ M v1 (xs (v3 + 1).toNatClampNeg)).bind fun r165 =>
        rhck (r165.2.1.2.2.1 v2 = 13) <|
        (f_X12_free r165.2.1 r165.2.2 v2 (xs (v3 + 1).toNatClampNeg)).bind fun r167 =>
        if r165.1 = r167.1 then
          (f_L_law_1051 Lx xs (f_L_law_18 Lx xs n) r165.2.1 r167.2 v1 v2 v3)
        else
          some ((0, r165.2.1, r167.2)))
      else
      if ((xs v3.toNatClampNeg) &&& 31) = 21 then
        (rhck (0 ≤ (v3 + 1).toInt ∧ (v3 + 1).toInt < (Lx : Nat)) <|
        rhck (0 ≤ (v3 + 2).toInt ∧ (v3 + 2).toInt < (Lx : Nat)) <|
        rhck (Γ.2.2.1 v1 = 12) <|
        (f_X11_spare Γ M v1 (xs (v3 + 1).toNatClampNeg) (xs (v3 + 2).toNatClampNeg)).bind fun r173 =>
        rhck (r173.2.1.2.2.1 v2 = 13) <|
        (f_X12_spare r173.2.1 r173.2.2 v2 (xs (v3 + 1).toNatClampNeg) (xs (v3 + 2).toNatClampNeg)).bind fun r175 =>
        if r173.1 = r175.1 then
          (f_L_law_1051 Lx xs (f_L_law_18 Lx xs n) r173.2.1 r175.2 v1 v2 v3)
        else
          some ((0, r173.2.1, r175.2)))
      else
      if ((xs v3.toNatClampNeg) &&& 31) = 22 then
        (rhck (0 ≤ (v3 + 1).toInt ∧ (v3 + 1).toInt < (Lx : Nat)) <|
        rhck (Γ.2.2.1 v1 = 12) <|
        (f_X11_lies Γ M v1 (xs (v3 + 1).toNatClampNeg)).bind fun r180 =>
        rhck (Γ.2.2.1 v2 = 13) <|
        (f_X12_lies Γ M v2 (xs (v3 + 1).toNatClampNeg)).bind fun r182 =>
        if r180 = r182 then
          (f_L_law_1051 Lx xs (f_L_law_18 Lx xs n) Γ M v1 v2 v3)
        else
          some ((0, Γ, M)))
      else
      if ((xs v3.toNatClampNeg) &&& 31) = 23 then
        (rhck (0 ≤ (v3 + 1).toInt ∧ (v3 + 1).toInt < (Lx : Nat)) <|
        rhck (0 ≤ (v3 + 2).toInt ∧ (v3 + 2).toInt < (Lx : Nat)) <|
        rhck (0 ≤ (v3 + 3).toInt ∧ (v3 + 3).toInt < (Lx : Nat)) <|
        rhck (0 ≤ (v3 + 4).toInt ∧ (v3 + 4).toInt < (Lx : Nat)) <|
        if (xs (v3 + 4).toNatClampNeg) = 0 then
          (f_L_law_820 Lx xs (f_L_law_1051 Lx xs (f_L_law_18 Lx xs n)) Γ M v1 v2 v3 v1 (xs (v3 + 1).toNatClampNeg) (xs (v3 + 2).toNatClampNeg) (xs (v3 + 3).toNatClampNeg) 0)
        else
          f_L_law_820 Lx xs (f_L_law_1051 Lx xs (f_L_law_18 Lx xs n)) Γ M v1 v2 v3 v1 (xs (v3 + 1).toNatClampNeg) (xs (v3 + 2).toNatClampNeg) (xs (v3 + 3).toNatClampNeg) 1)
      else
      if ((xs v3.toNatClampNeg) &&& 31) = 24 then
        (rhck (0 ≤ (v3 + 1).toInt ∧ (v3 + 1).toInt < (Lx : Nat)) <|
        rhck (Γ.2.2.1 v1 = 12) <|
        (f_X11_untell Γ M v1 (xs (v3 + 1).toNatClampNeg)).bind fun r203 =>
        rhck (Γ.2.2.1 v2 = 13) <|
        (f_X12_untell Γ r203.2 v2 (xs (v3 + 1).toNatClampNeg)).bind fun r205 =>
        if r203.1 = r205.1 then
          (f_L_law_1051 Lx xs (f_L_law_18 Lx xs n) Γ r205.2 v1 v2 v3)
        else
          some ((0, Γ, r205.2)))
      else
      if ((xs v3.toNatClampNeg) &&& 31) = 25 then
        (rhck (0 ≤ (v3 + 1).toInt ∧ (v3 + 1).toInt < (Lx : Nat)) <|
        rhck (Γ.2.2.1 v1 = 12) <|
        (f_X11_later Γ M v1 (xs (v3 + 1).toNatClampNeg)).bind fun r210 =>
        rhck (Γ.2.2.1 v2 = 13) <|
        (f_X12_later Γ r210.2 v2 (xs (v3 + 1).toNatClampNeg)).bind fun r212 =>
        if r210.1 = r212.1 then
          (f_L_law_1051 Lx xs (f_L_law_18 Lx xs n) Γ r212.2 v1 v2 v3)
        else
          some ((0, Γ, r212.2)))
      else
      if ((xs v3.toNatClampNeg) &&& 31) = 26 then
        (rhck (0 ≤ (v3 + 1).toInt ∧ (v3 + 1).toInt < (Lx : Nat)) <|
        rhck (0 ≤ (v3 + 2).toInt ∧ (v3 + 2).toInt < (Lx : Nat)) <|
        rhck (Γ.2.2.1 v1 = 12) <|
        (f_X11_fits Γ M v1 (xs (v3 + 1).toNatClampNeg) (xs (v3 + 2).toNatClampNeg)).bind fun r218 =>
        rhck (Γ.2.2.1 v2 = 13) <|
        (f_X12_fits Γ r218.2 v2 (xs (v3 + 1).toNatClampNeg) (xs (v3 + 2).toNatClampNeg)).bind fun r220 =>
        if r218.1 = r220.1 then
          (f_L_law_1051 Lx xs (f_L_law_18 Lx xs n) Γ r220.2 v1 v2 v3)
        else
          some ((0, Γ, r220.2)))
      else
      if ((xs v3.toNatClampNeg) &&& 31) = 27 then
        (rhck (0 ≤ (v3 + 1).toInt ∧ (v3 + 1).toInt < (Lx : Nat)) <|
        rhck (0 ≤ (v3 + 2).toInt ∧ (v3 + 2).toInt < (Lx : Nat)) <|
        rhck (0 ≤ (v3 + 3).toInt ∧ (v3 + 3).toInt < (Lx : Nat)) <|
        rhck (Γ.2.2.1 v1 = 12) <|
        (f_X11_can Γ M v1 (xs (v3 + 1).toNatClampNeg) (xs (v3 + 2).toNatClampNeg) (xs (v3 + 3).toNatClampNeg)).bind fun r227 =>
        rhck (Γ.2.2.1 v2 = 13) <|
        (f_X12_can Γ r227.2 v2 (xs (v3 + 1).toNatClampNeg) (xs (v3 + 2).toNatClampNeg) (xs (v3 + 3).toNatClampNeg)).bind fun r229 =>
        if r227.1 = r229.1 then
          (f_L_law_1051 Lx xs (f_L_law_18 Lx xs n) Γ r229.2 v1 v2 v3)
        else
          some ((0, Γ, r229.2)))
      else
      if ((xs v3.toNatClampNeg) &&& 31) = 28 then
        (rhck (0 ≤ (v3 + 1).toInt ∧ (v3 + 1).toInt < (Lx : Nat)) <|
        rhck (Γ.2.2.1 v1 = 12) <|
        (f_X11_image Γ M v1 (xs (v3 + 1).toNatClampNeg)).bind fun r234 =>
        rhck (r234.2.1.2.2.1 v2 = 13) <|
        (f_X12_image r234.2.1 r234.2.2 v2 (xs (v3 + 1).toNatClampNeg)).bind fun r236 =>
        if r234.1 = r236.1 then
          (f_L_law_1051 Lx xs (f_L_law_18 Lx xs n) r234.2.1 r236.2 v1 v2 v3)
        else
          some ((0, r234.2.1, r236.2)))
      else
      if ((xs v3.toNatClampNeg) &&& 31) = 29 then
        (rhck (0 ≤ (v3 + 1).toInt ∧ (v3 + 1).toInt < (Lx : Nat)) <|
        rhck (Γ.2.2.1 v1 = 12) <|
        (f_X11_back Γ M v1 (xs (v3 + 1).toNatClampNeg)).bind fun r241 =>
        rhck (r241.2.1.2.2.1 v2 = 13) <|
        (f_X12_back r241.2.1 r241.2.2 v2 (xs (v3 + 1).toNatClampNeg)).bind fun r243 =>
        if r241.1 = r243.1 then
          (f_L_law_1051 Lx xs (f_L_law_18 Lx xs n) r241.2.1 r243.2 v1 v2 v3)
        else
          some ((0, r241.2.1, r243.2)))
      else
      if ((xs v3.toNatClampNeg) &&& 31) = 30 then
        (rhck (0 ≤ (v3 + 1).toInt ∧ (v3 + 1).toInt < (Lx : Nat)) <|
        rhck (Γ.2.2.1 v1 = 12) <|
        (f_X11_about Γ M v1 (xs (v3 + 1).toNatClampNeg)).bind fun r248 =>
        rhck (Γ.2.2.1 v2 = 13) <|
        (f_X12_about Γ M v2 (xs (v3 + 1).toNatClampNeg)).bind fun r250 =>
        if r248 = r250 then
          (f_L_law_1051 Lx xs (f_L_law_18 Lx xs n) Γ M v1 v2 v3)
        else
          some ((0, Γ, M)))
      else
      f_L_law_1051 Lx xs (f_L_law_18 Lx xs n) Γ M v1 v2 v3
def f_L_law (Lx : Nat) (xs : Nat → Int32) (Γ : rhG) (M : rhM) : Option (Int32 × rhG × rhM) :=
  let M2 := rhmn M (nu (Γ.1 + 1))
  let G1 := rhgn Γ 12 0 17
  rhck (G1.2.2.1 ((nu (Γ.1 + 1))) = 12) <|
  (f_X11_init G1 M2 ((nu (Γ.1 + 1)))).bind fun r4 =>
  let x5 := (nu (Γ.1 + 1))
  let M7 := rhmn r4.2 (nu (r4.1.1 + 1))
  let G6 := rhgn r4.1 13 0 90
  rhck (G6.2.2.1 ((nu (r4.1.1 + 1))) = 13) <|
  (f_X12_init G6 M7 ((nu (r4.1.1 + 1)))).bind fun r9 =>
  let x10 := (nu (r4.1.1 + 1))
  f_L_law_18 Lx xs rhFU r9.1 r9.2 x5 x10 0
set_option maxHeartbeats 4000000 in
set_option maxRecDepth 100000 in
theorem b_L_law_1051 {E : rhE} {Γ0 : rhG} {Lx : Nat} {xs : Nat → Int32} {k18 : rhG → rhM → Nat → Nat → Int32 → Option (Int32 × rhG × rhM)} (hE : E.2.2.2.2 = (Lx, xs)) (hk18 : ∀ (Γ : rhG) (M : rhM) (v1 : Nat) (v2 : Nat) (v3 : Int32), rhF E 72 4 yL_law cL_law (some .boolean) Γ0 rhe2I (k18 Γ M v1 v2 v3) 18 [(0, rhT 5), (1, rhR v1), (2, rhR v2), (3, rhI v3)] [] Γ M) : ∀ (Γ : rhG) (M : rhM) (v1 : Nat) (v2 : Nat) (v3 : Int32), rhF E 72 4 yL_law cL_law (some .boolean) Γ0 rhe2I (f_L_law_1051 Lx xs k18 Γ M v1 v2 v3) 1051 [(0, rhT 5), (1, rhR v1), (2, rhR v2), (3, rhI v3)] [] Γ M := by
  intro Γ M v1 v2 v3
  rw [f_L_law_1051]
  refine rhF.iinc (pc := 1051) (L' := [(3, rhI _), (0, rhT _), (1, rhR _), (2, rhR _)]) dL_law_1051 3 rfl rfl (by decide) rfl ?_
  refine rhF.goto (pc := 1054) 18 dL_law_1054 (by decide) ?_
  refine rhF.sub [1, 2, 3, 0] rfl ?_
  exact hk18 _ _ _ _ _
set_option maxHeartbeats 4000000 in
set_option maxRecDepth 100000 in
theorem b_L_law_852 {E : rhE} {Γ0 : rhG} {Lx : Nat} {xs : Nat → Int32} {k1051 : rhG → rhM → Nat → Nat → Int32 → Option (Int32 × rhG × rhM)} (hE : E.2.2.2.2 = (Lx, xs)) (hk1051 : ∀ (Γ : rhG) (M : rhM) (v1 : Nat) (v2 : Nat) (v3 : Int32), rhF E 72 4 yL_law cL_law (some .boolean) Γ0 rhe2I (k1051 Γ M v1 v2 v3) 1051 [(0, rhT 5), (1, rhR v1), (2, rhR v2), (3, rhI v3)] [] Γ M) : ∀ (Γ : rhG) (M : rhM) (v1 : Nat) (v2 : Nat) (v3 : Int32) (s0 : Int32) (s1 : Nat) (s2 : Int32) (s3 : Int32) (s4 : Int32) (s5 : Int32), rhF E 72 4 yL_law cL_law (some .boolean) Γ0 rhe2I (f_L_law_852 Lx xs k1051 Γ M v1 v2 v3 s0 s1 s2 s3 s4 s5) 852 [(0, rhT 5), (1, rhR v1), (2, rhR v2), (3, rhI v3)] [rhI s5, rhI s4, rhI s3, rhI s2, rhR s1, rhI s0] Γ M := by
  intro Γ M v1 v2 v3 s0 s1 s2 s3 s4 s5
  rw [f_L_law_852]
  refine rhF.ck (fun h197 => ?_)
  refine rhF.callV (pc := 852) (ci := 12) (embc := rhe1I _) [rhI _, rhI _, rhI _, rhI _] dL_law_852 ml_L_114 mv_X12_sight ⟨_, rfl, rfl⟩ h197 (c_X12_sight _ _ _ _ _ _ _ _) (by decide) (by decide) rfl (Nat.le_of_ble_eq_true rfl) (fun r198 _ => ?_)
  refine rhF.icmp_eq (pc := 855) 1051 dL_law_855 (by decide) (fun h199 => ?_) (fun h199 => ?_)
  · exact hk1051 _ _ _ _ _
  · refine rhF.iconst (pc := 858) (v := 0) dL_law_858 (by decide) ?_
    exact rhF.zret (pc := 859) dL_law_859 rfl rfl rfl
set_option maxHeartbeats 4000000 in
set_option maxRecDepth 100000 in
theorem b_L_law_820 {E : rhE} {Γ0 : rhG} {Lx : Nat} {xs : Nat → Int32} {k1051 : rhG → rhM → Nat → Nat → Int32 → Option (Int32 × rhG × rhM)} (hE : E.2.2.2.2 = (Lx, xs)) (hk1051 : ∀ (Γ : rhG) (M : rhM) (v1 : Nat) (v2 : Nat) (v3 : Int32), rhF E 72 4 yL_law cL_law (some .boolean) Γ0 rhe2I (k1051 Γ M v1 v2 v3) 1051 [(0, rhT 5), (1, rhR v1), (2, rhR v2), (3, rhI v3)] [] Γ M) : ∀ (Γ : rhG) (M : rhM) (v1 : Nat) (v2 : Nat) (v3 : Int32) (s0 : Nat) (s1 : Int32) (s2 : Int32) (s3 : Int32) (s4 : Int32), rhF E 72 4 yL_law cL_law (some .boolean) Γ0 rhe2I (f_L_law_820 Lx xs k1051 Γ M v1 v2 v3 s0 s1 s2 s3 s4) 820 [(0, rhT 5), (1, rhR v1), (2, rhR v2), (3, rhI v3)] [rhI s4, rhI s3, rhI s2, rhI s1, rhR s0] Γ M := by
  intro Γ M v1 v2 v3 s0 s1 s2 s3 s4
  rw [f_L_law_820]
  refine rhF.ck (fun h190 => ?_)
  refine rhF.callV (pc := 820) (ci := 11) (embc := rhe1I _) [rhI _, rhI _, rhI _, rhI _] dL_law_820 ml_L_110 mv_X11_sight ⟨_, rfl, rfl⟩ h190 (c_X11_sight _ _ _ _ _ _ _ _) (by decide) (by decide) rfl (Nat.le_of_ble_eq_true rfl) (fun r191 _ => ?_)
  refine rhF.aload_n (pc := 823) dL_law_823 2 rfl ?_
  refine rhF.aldT (pc := 824) dL_law_824 0 rfl ?_
  refine rhF.iload_n (pc := 825) dL_law_825 3 rfl ?_
  refine rhF.iconst (pc := 826) (v := 1) dL_law_826 (by decide) ?_
  refine rhF.iadd (pc := 827) dL_law_827 ?_
  refine rhF.ck (fun h192 => ?_)
  refine rhF.sld (pc := 828) hE dL_law_828 h192 ?_
  refine rhF.aldT (pc := 829) dL_law_829 0 rfl ?_
  refine rhF.iload_n (pc := 830) dL_law_830 3 rfl ?_
  refine rhF.iconst (pc := 831) (v := 2) dL_law_831 (by decide) ?_
  refine rhF.iadd (pc := 832) dL_law_832 ?_
  refine rhF.ck (fun h193 => ?_)
  refine rhF.sld (pc := 833) hE dL_law_833 h193 ?_
  refine rhF.aldT (pc := 834) dL_law_834 0 rfl ?_
  refine rhF.iload_n (pc := 835) dL_law_835 3 rfl ?_
  refine rhF.iconst (pc := 836) (v := 3) dL_law_836 (by decide) ?_
  refine rhF.iadd (pc := 837) dL_law_837 ?_
  refine rhF.ck (fun h194 => ?_)
  refine rhF.sld (pc := 838) hE dL_law_838 h194 ?_
  refine rhF.aldT (pc := 839) dL_law_839 0 rfl ?_
  refine rhF.iload_n (pc := 840) dL_law_840 3 rfl ?_
  refine rhF.iconst (pc := 841) (v := 4) dL_law_841 (by decide) ?_
  refine rhF.iadd (pc := 842) dL_law_842 ?_
  refine rhF.ck (fun h195 => ?_)
  refine rhF.sld (pc := 843) hE dL_law_843 h195 ?_
  refine rhF.if_eq (pc := 844) 851 dL_law_844 (by decide) (fun h196 => ?_) (fun h196 => ?_)
  · refine rhF.iconst (pc := 851) (v := 0) dL_law_851 (by decide) ?_
    exact (b_L_law_852 hE hk1051) _ _ _ _ _ _ _ _ _ _ _
  · refine rhF.iconst (pc := 847) (v := 1) dL_law_847 (by decide) ?_
    refine rhF.goto (pc := 848) 852 dL_law_848 (by decide) ?_
    exact (b_L_law_852 hE hk1051) _ _ _ _ _ _ _ _ _ _ _
set_option maxHeartbeats 4000000 in
set_option maxRecDepth 100000 in
theorem b_L_law_18 {E : rhE} {Γ0 : rhG} {Lx : Nat} {xs : Nat → Int32} (hE : E.2.2.2.2 = (Lx, xs)) : ∀ (n : Nat) (Γ : rhG) (M : rhM) (v1 : Nat) (v2 : Nat) (v3 : Int32), rhF E 72 4 yL_law cL_law (some .boolean) Γ0 rhe2I (f_L_law_18 Lx xs n Γ M v1 v2 v3) 18 [(0, rhT 5), (1, rhR v1), (2, rhR v2), (3, rhI v3)] [] Γ M := by
  intro n
  induction n with
  | zero => intro Γ M v1 v2 v3; rw [f_L_law_18]; exact rhF.nope
  | succ n ih =>
    intro Γ M v1 v2 v3
    rw [f_L_law_18]
    refine rhF.iload_n (pc := 18) dL_law_18 3 rfl ?_
    refine rhF.aldT (pc := 19) dL_law_19 0 rfl ?_
    refine rhF.slen (pc := 20) hE dL_law_20 ?_
    refine rhF.bipush (pc := 21) (v := 6) dL_law_21 (by decide) ?_
    refine rhF.isub (pc := 23) dL_law_23 ?_
    refine rhF.icmp_gt (pc := 24) 1057 dL_law_24 (by decide) (fun h11 => ?_) (fun h11 => ?_)
    · refine rhF.iconst (pc := 1057) (v := 1) dL_law_1057 (by decide) ?_
      exact rhF.zret (pc := 1058) dL_law_1058 rfl rfl rfl
    · refine rhF.aldT (pc := 27) dL_law_27 0 rfl ?_
      refine rhF.iload_n (pc := 28) dL_law_28 3 rfl ?_
      refine rhF.ck (fun h12 => ?_)
      refine rhF.sld (pc := 29) hE dL_law_29 h12 ?_
      refine rhF.bipush (pc := 30) (v := 31) dL_law_30 (by decide) ?_
      refine rhF.iand (pc := 32) dL_law_32 ?_
      refine rhF.ite (fun h13 => ?_) (fun h13 => ?_)
      · refine rhF.tsIn (pc := 33) 172 0 dL_law_33 (by rw [h13]; decide) (by decide) rfl (by decide) ?_
        refine rhF.aload_n (pc := 172) dL_law_172 1 rfl ?_
        refine rhF.aldT (pc := 173) dL_law_173 0 rfl ?_
        refine rhF.iload_n (pc := 174) dL_law_174 3 rfl ?_
        refine rhF.iconst (pc := 175) (v := 1) dL_law_175 (by decide) ?_
        refine rhF.iadd (pc := 176) dL_law_176 ?_
        refine rhF.ck (fun h14 => ?_)
        refine rhF.sld (pc := 177) hE dL_law_177 h14 ?_
        refine rhF.aldT (pc := 178) dL_law_178 0 rfl ?_
        refine rhF.iload_n (pc := 179) dL_law_179 3 rfl ?_
        refine rhF.iconst (pc := 180) (v := 2) dL_law_180 (by decide) ?_
        refine rhF.iadd (pc := 181) dL_law_181 ?_
        refine rhF.ck (fun h15 => ?_)
        refine rhF.sld (pc := 182) hE dL_law_182 h15 ?_
        refine rhF.aldT (pc := 183) dL_law_183 0 rfl ?_
        refine rhF.iload_n (pc := 184) dL_law_184 3 rfl ?_
        refine rhF.iconst (pc := 185) (v := 3) dL_law_185 (by decide) ?_
        refine rhF.iadd (pc := 186) dL_law_186 ?_
        refine rhF.ck (fun h16 => ?_)
        refine rhF.sld (pc := 187) hE dL_law_187 h16 ?_
        refine rhF.aldT (pc := 188) dL_law_188 0 rfl ?_
        refine rhF.iload_n (pc := 189) dL_law_189 3 rfl ?_
        refine rhF.iconst (pc := 190) (v := 4) dL_law_190 (by decide) ?_
        refine rhF.iadd (pc := 191) dL_law_191 ?_
        refine rhF.ck (fun h17 => ?_)
        refine rhF.sld (pc := 192) hE dL_law_192 h17 ?_
        refine rhF.aldT (pc := 193) dL_law_193 0 rfl ?_
        refine rhF.iload_n (pc := 194) dL_law_194 3 rfl ?_
        refine rhF.iconst (pc := 195) (v := 5) dL_law_195 (by decide) ?_
        refine rhF.iadd (pc := 196) dL_law_196 ?_
        refine rhF.ck (fun h18 => ?_)
        refine rhF.sld (pc := 197) hE dL_law_197 h18 ?_
        refine rhF.ck (fun h19 => ?_)
        refine rhF.callV (pc := 198) (ci := 11) (embc := rhe1I _) [rhI _, rhI _, rhI _, rhI _, rhI _] dL_law_198 ml_L_13 mv_X11_feed ⟨_, rfl, rfl⟩ h19 (c_X11_feed _ _ _ _ _ _ _ _ _) (by decide) (by decide) rfl (Nat.le_of_ble_eq_true rfl) (fun r20 _ => ?_)
        refine rhF.aload_n (pc := 201) dL_law_201 2 rfl ?_
        refine rhF.aldT (pc := 202) dL_law_202 0 rfl ?_
        refine rhF.iload_n (pc := 203) dL_law_203 3 rfl ?_
        refine rhF.iconst (pc := 204) (v := 1) dL_law_204 (by decide) ?_
        refine rhF.iadd (pc := 205) dL_law_205 ?_
        refine rhF.sld (pc := 206) hE dL_law_206 h14 ?_
        refine rhF.aldT (pc := 207) dL_law_207 0 rfl ?_
        refine rhF.iload_n (pc := 208) dL_law_208 3 rfl ?_
        refine rhF.iconst (pc := 209) (v := 2) dL_law_209 (by decide) ?_
        refine rhF.iadd (pc := 210) dL_law_210 ?_
        refine rhF.sld (pc := 211) hE dL_law_211 h15 ?_
        refine rhF.aldT (pc := 212) dL_law_212 0 rfl ?_
        refine rhF.iload_n (pc := 213) dL_law_213 3 rfl ?_
        refine rhF.iconst (pc := 214) (v := 3) dL_law_214 (by decide) ?_
        refine rhF.iadd (pc := 215) dL_law_215 ?_
        refine rhF.sld (pc := 216) hE dL_law_216 h16 ?_
        refine rhF.aldT (pc := 217) dL_law_217 0 rfl ?_
        refine rhF.iload_n (pc := 218) dL_law_218 3 rfl ?_
        refine rhF.iconst (pc := 219) (v := 4) dL_law_219 (by decide) ?_
        refine rhF.iadd (pc := 220) dL_law_220 ?_
        refine rhF.sld (pc := 221) hE dL_law_221 h17 ?_
        refine rhF.aldT (pc := 222) dL_law_222 0 rfl ?_
        refine rhF.iload_n (pc := 223) dL_law_223 3 rfl ?_
        refine rhF.iconst (pc := 224) (v := 5) dL_law_224 (by decide) ?_
        refine rhF.iadd (pc := 225) dL_law_225 ?_
        refine rhF.sld (pc := 226) hE dL_law_226 h18 ?_
        refine rhF.ck (fun h21 => ?_)
        refine rhF.callV (pc := 227) (ci := 12) (embc := rhe1I _) [rhI _, rhI _, rhI _, rhI _, rhI _] dL_law_227 ml_L_17 mv_X12_feed ⟨_, rfl, rfl⟩ h21 (c_X12_feed _ _ _ _ _ _ _ _ _) (by decide) (by decide) rfl (Nat.le_of_ble_eq_true rfl) (fun r22 _ => ?_)
        refine rhF.icmp_eq (pc := 230) 1051 dL_law_230 (by decide) (fun h23 => ?_) (fun h23 => ?_)
        · exact (b_L_law_1051 hE ih) _ _ _ _ _
        · refine rhF.iconst (pc := 233) (v := 0) dL_law_233 (by decide) ?_
          exact rhF.zret (pc := 234) dL_law_234 rfl rfl rfl
      · skip
        refine rhF.ite (fun h25 => ?_) (fun h25 => ?_)
        · refine rhF.tsIn (pc := 33) 235 1 dL_law_33 (by rw [h25]; decide) (by decide) rfl (by decide) ?_
          refine rhF.aload_n (pc := 235) dL_law_235 1 rfl ?_
          refine rhF.aldT (pc := 236) dL_law_236 0 rfl ?_
          refine rhF.iload_n (pc := 237) dL_law_237 3 rfl ?_
          refine rhF.iconst (pc := 238) (v := 1) dL_law_238 (by decide) ?_
          refine rhF.iadd (pc := 239) dL_law_239 ?_
          refine rhF.ck (fun h26 => ?_)
          refine rhF.sld (pc := 240) hE dL_law_240 h26 ?_
          refine rhF.ck (fun h27 => ?_)
          refine rhF.callV (pc := 241) (ci := 11) (embc := rhe1I _) [rhI _] dL_law_241 ml_L_18 mv_X11_end ⟨_, rfl, rfl⟩ h27 (c_X11_end _ _ _ _ _) (by decide) (by decide) rfl (Nat.le_of_ble_eq_true rfl) (fun r28 _ => ?_)
          refine rhF.aload_n (pc := 244) dL_law_244 2 rfl ?_
          refine rhF.aldT (pc := 245) dL_law_245 0 rfl ?_
          refine rhF.iload_n (pc := 246) dL_law_246 3 rfl ?_
          refine rhF.iconst (pc := 247) (v := 1) dL_law_247 (by decide) ?_
          refine rhF.iadd (pc := 248) dL_law_248 ?_
          refine rhF.sld (pc := 249) hE dL_law_249 h26 ?_
          refine rhF.ck (fun h29 => ?_)
          refine rhF.callV (pc := 250) (ci := 12) (embc := rhe1I _) [rhI _] dL_law_250 ml_L_22 mv_X12_end ⟨_, rfl, rfl⟩ h29 (c_X12_end _ _ _ _ _) (by decide) (by decide) rfl (Nat.le_of_ble_eq_true rfl) (fun r30 _ => ?_)
          refine rhF.icmp_eq (pc := 253) 1051 dL_law_253 (by decide) (fun h31 => ?_) (fun h31 => ?_)
          · exact (b_L_law_1051 hE ih) _ _ _ _ _
          · refine rhF.iconst (pc := 256) (v := 0) dL_law_256 (by decide) ?_
            exact rhF.zret (pc := 257) dL_law_257 rfl rfl rfl
        · skip
          refine rhF.ite (fun h32 => ?_) (fun h32 => ?_)
          · refine rhF.tsIn (pc := 33) 258 2 dL_law_33 (by rw [h32]; decide) (by decide) rfl (by decide) ?_
            refine rhF.aload_n (pc := 258) dL_law_258 1 rfl ?_
            refine rhF.ck (fun h33 => ?_)
            refine rhF.callV (pc := 259) (ci := 11) (embc := rhe1I _) [] dL_law_259 ml_L_23 mv_X11_town ⟨_, rfl, rfl⟩ h33 (c_X11_town _ _ _ _) (by decide) (by decide) rfl (Nat.le_of_ble_eq_true rfl) (fun r34 _ => ?_)
            refine rhF.aload_n (pc := 262) dL_law_262 2 rfl ?_
            refine rhF.ck (fun h35 => ?_)
            refine rhF.callV (pc := 263) (ci := 12) (embc := rhe1I _) [] dL_law_263 ml_L_27 mv_X12_town ⟨_, rfl, rfl⟩ h35 (c_X12_town _ _ _ _) (by decide) (by decide) rfl (Nat.le_of_ble_eq_true rfl) (fun r36 _ => ?_)
            refine rhF.icmp_eq (pc := 266) 1051 dL_law_266 (by decide) (fun h37 => ?_) (fun h37 => ?_)
            · exact (b_L_law_1051 hE ih) _ _ _ _ _
            · refine rhF.iconst (pc := 269) (v := 0) dL_law_269 (by decide) ?_
              exact rhF.zret (pc := 270) dL_law_270 rfl rfl rfl
          · skip
            refine rhF.ite (fun h38 => ?_) (fun h38 => ?_)
            · refine rhF.tsIn (pc := 33) 271 3 dL_law_33 (by rw [h38]; decide) (by decide) rfl (by decide) ?_
              refine rhF.aload_n (pc := 271) dL_law_271 1 rfl ?_
              refine rhF.aldT (pc := 272) dL_law_272 0 rfl ?_
              refine rhF.iload_n (pc := 273) dL_law_273 3 rfl ?_
              refine rhF.iconst (pc := 274) (v := 1) dL_law_274 (by decide) ?_
              refine rhF.iadd (pc := 275) dL_law_275 ?_
              refine rhF.ck (fun h39 => ?_)
              refine rhF.sld (pc := 276) hE dL_law_276 h39 ?_
              refine rhF.ck (fun h40 => ?_)
              refine rhF.callV (pc := 277) (ci := 11) (embc := rhe0I _ _) [rhI _] dL_law_277 ml_L_28 mv_X11_fault ⟨_, rfl, rfl⟩ h40 (c_X11_fault _ _ _ _ _) (by decide) (by decide) rfl (Nat.le_of_ble_eq_true rfl) (fun r41 _ => ?_)
              refine rhF.aload_n (pc := 280) dL_law_280 2 rfl ?_
              refine rhF.aldT (pc := 281) dL_law_281 0 rfl ?_
              refine rhF.iload_n (pc := 282) dL_law_282 3 rfl ?_
              refine rhF.iconst (pc := 283) (v := 1) dL_law_283 (by decide) ?_
              refine rhF.iadd (pc := 284) dL_law_284 ?_
              refine rhF.sld (pc := 285) hE dL_law_285 h39 ?_
              refine rhF.ck (fun h42 => ?_)
              refine rhF.callV (pc := 286) (ci := 12) (embc := rhe0I _ _) [rhI _] dL_law_286 ml_L_31 mv_X12_fault ⟨_, rfl, rfl⟩ h42 (c_X12_fault _ _ _ _ _) (by decide) (by decide) rfl (Nat.le_of_ble_eq_true rfl) (fun r43 _ => ?_)
              refine rhF.icmp_eq (pc := 289) 1051 dL_law_289 (by decide) (fun h44 => ?_) (fun h44 => ?_)
              · exact (b_L_law_1051 hE ih) _ _ _ _ _
              · refine rhF.iconst (pc := 292) (v := 0) dL_law_292 (by decide) ?_
                exact rhF.zret (pc := 293) dL_law_293 rfl rfl rfl
            · skip
              refine rhF.ite (fun h45 => ?_) (fun h45 => ?_)
              · refine rhF.tsIn (pc := 33) 294 4 dL_law_33 (by rw [h45]; decide) (by decide) rfl (by decide) ?_
                refine rhF.aload_n (pc := 294) dL_law_294 1 rfl ?_
                refine rhF.aldT (pc := 295) dL_law_295 0 rfl ?_
                refine rhF.iload_n (pc := 296) dL_law_296 3 rfl ?_
                refine rhF.iconst (pc := 297) (v := 1) dL_law_297 (by decide) ?_
                refine rhF.iadd (pc := 298) dL_law_298 ?_
                refine rhF.ck (fun h46 => ?_)
                refine rhF.sld (pc := 299) hE dL_law_299 h46 ?_
                refine rhF.aldT (pc := 300) dL_law_300 0 rfl ?_
                refine rhF.iload_n (pc := 301) dL_law_301 3 rfl ?_
                refine rhF.iconst (pc := 302) (v := 2) dL_law_302 (by decide) ?_
                refine rhF.iadd (pc := 303) dL_law_303 ?_
                refine rhF.ck (fun h47 => ?_)
                refine rhF.sld (pc := 304) hE dL_law_304 h47 ?_
                refine rhF.ck (fun h48 => ?_)
                refine rhF.callV (pc := 305) (ci := 11) (embc := rhe0I _ _) [rhI _, rhI _] dL_law_305 ml_L_32 mv_X11_on ⟨_, rfl, rfl⟩ h48 (c_X11_on _ _ _ _ _ _) (by decide) (by decide) rfl (Nat.le_of_ble_eq_true rfl) (fun r49 _ => ?_)
                refine rhF.aload_n (pc := 308) dL_law_308 2 rfl ?_
                refine rhF.aldT (pc := 309) dL_law_309 0 rfl ?_
                refine rhF.iload_n (pc := 310) dL_law_310 3 rfl ?_
                refine rhF.iconst (pc := 311) (v := 1) dL_law_311 (by decide) ?_
                refine rhF.iadd (pc := 312) dL_law_312 ?_
                refine rhF.sld (pc := 313) hE dL_law_313 h46 ?_
                refine rhF.aldT (pc := 314) dL_law_314 0 rfl ?_
                refine rhF.iload_n (pc := 315) dL_law_315 3 rfl ?_
                refine rhF.iconst (pc := 316) (v := 2) dL_law_316 (by decide) ?_
                refine rhF.iadd (pc := 317) dL_law_317 ?_
                refine rhF.sld (pc := 318) hE dL_law_318 h47 ?_
                refine rhF.ck (fun h50 => ?_)
                refine rhF.callV (pc := 319) (ci := 12) (embc := rhe0I _ _) [rhI _, rhI _] dL_law_319 ml_L_36 mv_X12_on ⟨_, rfl, rfl⟩ h50 (c_X12_on _ _ _ _ _ _) (by decide) (by decide) rfl (Nat.le_of_ble_eq_true rfl) (fun r51 _ => ?_)
                refine rhF.icmp_eq (pc := 322) 1051 dL_law_322 (by decide) (fun h52 => ?_) (fun h52 => ?_)
                · exact (b_L_law_1051 hE ih) _ _ _ _ _
                · refine rhF.iconst (pc := 325) (v := 0) dL_law_325 (by decide) ?_
                  exact rhF.zret (pc := 326) dL_law_326 rfl rfl rfl
              · skip
                refine rhF.ite (fun h53 => ?_) (fun h53 => ?_)
                · refine rhF.tsIn (pc := 33) 327 5 dL_law_33 (by rw [h53]; decide) (by decide) rfl (by decide) ?_
                  refine rhF.aload_n (pc := 327) dL_law_327 1 rfl ?_
                  refine rhF.aldT (pc := 328) dL_law_328 0 rfl ?_
                  refine rhF.iload_n (pc := 329) dL_law_329 3 rfl ?_
                  refine rhF.iconst (pc := 330) (v := 1) dL_law_330 (by decide) ?_
                  refine rhF.iadd (pc := 331) dL_law_331 ?_
                  refine rhF.ck (fun h54 => ?_)
                  refine rhF.sld (pc := 332) hE dL_law_332 h54 ?_
                  refine rhF.aldT (pc := 333) dL_law_333 0 rfl ?_
                  refine rhF.iload_n (pc := 334) dL_law_334 3 rfl ?_
                  refine rhF.iconst (pc := 335) (v := 2) dL_law_335 (by decide) ?_
                  refine rhF.iadd (pc := 336) dL_law_336 ?_
                  refine rhF.ck (fun h55 => ?_)
                  refine rhF.sld (pc := 337) hE dL_law_337 h55 ?_
                  refine rhF.ck (fun h56 => ?_)
                  refine rhF.callV (pc := 338) (ci := 11) (embc := rhe0I _ _) [rhI _, rhI _] dL_law_338 ml_L_37 mv_X11_where ⟨_, rfl, rfl⟩ h56 (c_X11_where _ _ _ _ _ _) (by decide) (by decide) rfl (Nat.le_of_ble_eq_true rfl) (fun r57 _ => ?_)
                  refine rhF.aload_n (pc := 341) dL_law_341 2 rfl ?_
                  refine rhF.aldT (pc := 342) dL_law_342 0 rfl ?_
                  refine rhF.iload_n (pc := 343) dL_law_343 3 rfl ?_
                  refine rhF.iconst (pc := 344) (v := 1) dL_law_344 (by decide) ?_
                  refine rhF.iadd (pc := 345) dL_law_345 ?_
                  refine rhF.sld (pc := 346) hE dL_law_346 h54 ?_
                  refine rhF.aldT (pc := 347) dL_law_347 0 rfl ?_
                  refine rhF.iload_n (pc := 348) dL_law_348 3 rfl ?_
                  refine rhF.iconst (pc := 349) (v := 2) dL_law_349 (by decide) ?_
                  refine rhF.iadd (pc := 350) dL_law_350 ?_
                  refine rhF.sld (pc := 351) hE dL_law_351 h55 ?_
                  refine rhF.ck (fun h58 => ?_)
                  refine rhF.callV (pc := 352) (ci := 12) (embc := rhe1I _) [rhI _, rhI _] dL_law_352 ml_L_40 mv_X12_where ⟨_, rfl, rfl⟩ h58 (c_X12_where _ _ _ _ _ _) (by decide) (by decide) rfl (Nat.le_of_ble_eq_true rfl) (fun r59 _ => ?_)
                  refine rhF.icmp_eq (pc := 355) 1051 dL_law_355 (by decide) (fun h60 => ?_) (fun h60 => ?_)
                  · exact (b_L_law_1051 hE ih) _ _ _ _ _
                  · refine rhF.iconst (pc := 358) (v := 0) dL_law_358 (by decide) ?_
                    exact rhF.zret (pc := 359) dL_law_359 rfl rfl rfl
                · skip
                  refine rhF.ite (fun h61 => ?_) (fun h61 => ?_)
                  · refine rhF.tsIn (pc := 33) 360 6 dL_law_33 (by rw [h61]; decide) (by decide) rfl (by decide) ?_
                    refine rhF.aload_n (pc := 360) dL_law_360 1 rfl ?_
                    refine rhF.aldT (pc := 361) dL_law_361 0 rfl ?_
                    refine rhF.iload_n (pc := 362) dL_law_362 3 rfl ?_
                    refine rhF.iconst (pc := 363) (v := 1) dL_law_363 (by decide) ?_
                    refine rhF.iadd (pc := 364) dL_law_364 ?_
                    refine rhF.ck (fun h62 => ?_)
                    refine rhF.sld (pc := 365) hE dL_law_365 h62 ?_
                    refine rhF.ck (fun h63 => ?_)
                    refine rhF.callV (pc := 366) (ci := 11) (embc := rhe0I _ _) [rhI _] dL_law_366 ml_L_41 mv_X11_room ⟨_, rfl, rfl⟩ h63 (c_X11_room _ _ _ _ _) (by decide) (by decide) rfl (Nat.le_of_ble_eq_true rfl) (fun r64 _ => ?_)
                    refine rhF.aload_n (pc := 369) dL_law_369 2 rfl ?_
                    refine rhF.aldT (pc := 370) dL_law_370 0 rfl ?_
                    refine rhF.iload_n (pc := 371) dL_law_371 3 rfl ?_
                    refine rhF.iconst (pc := 372) (v := 1) dL_law_372 (by decide) ?_
                    refine rhF.iadd (pc := 373) dL_law_373 ?_
                    refine rhF.sld (pc := 374) hE dL_law_374 h62 ?_
                    refine rhF.ck (fun h65 => ?_)
                    refine rhF.callV (pc := 375) (ci := 12) (embc := rhe1I _) [rhI _] dL_law_375 ml_L_44 mv_X12_room ⟨_, rfl, rfl⟩ h65 (c_X12_room _ _ _ _ _) (by decide) (by decide) rfl (Nat.le_of_ble_eq_true rfl) (fun r66 _ => ?_)
                    refine rhF.icmp_eq (pc := 378) 1051 dL_law_378 (by decide) (fun h67 => ?_) (fun h67 => ?_)
                    · exact (b_L_law_1051 hE ih) _ _ _ _ _
                    · refine rhF.iconst (pc := 381) (v := 0) dL_law_381 (by decide) ?_
                      exact rhF.zret (pc := 382) dL_law_382 rfl rfl rfl
                  · skip
                    refine rhF.ite (fun h68 => ?_) (fun h68 => ?_)
                    · refine rhF.tsIn (pc := 33) 383 7 dL_law_33 (by rw [h68]; decide) (by decide) rfl (by decide) ?_
                      refine rhF.aload_n (pc := 383) dL_law_383 1 rfl ?_
                      refine rhF.aldT (pc := 384) dL_law_384 0 rfl ?_
                      refine rhF.iload_n (pc := 385) dL_law_385 3 rfl ?_
                      refine rhF.iconst (pc := 386) (v := 1) dL_law_386 (by decide) ?_
                      refine rhF.iadd (pc := 387) dL_law_387 ?_
                      refine rhF.ck (fun h69 => ?_)
                      refine rhF.sld (pc := 388) hE dL_law_388 h69 ?_
                      refine rhF.aldT (pc := 389) dL_law_389 0 rfl ?_
                      refine rhF.iload_n (pc := 390) dL_law_390 3 rfl ?_
                      refine rhF.iconst (pc := 391) (v := 2) dL_law_391 (by decide) ?_
                      refine rhF.iadd (pc := 392) dL_law_392 ?_
                      refine rhF.ck (fun h70 => ?_)
                      refine rhF.sld (pc := 393) hE dL_law_393 h70 ?_
                      refine rhF.aldT (pc := 394) dL_law_394 0 rfl ?_
                      refine rhF.iload_n (pc := 395) dL_law_395 3 rfl ?_
                      refine rhF.iconst (pc := 396) (v := 3) dL_law_396 (by decide) ?_
                      refine rhF.iadd (pc := 397) dL_law_397 ?_
                      refine rhF.ck (fun h71 => ?_)
                      refine rhF.sld (pc := 398) hE dL_law_398 h71 ?_
                      refine rhF.ck (fun h72 => ?_)
                      refine rhF.callV (pc := 399) (ci := 11) (embc := rhe1I _) [rhI _, rhI _, rhI _] dL_law_399 ml_L_45 mv_X11_asked ⟨_, rfl, rfl⟩ h72 (c_X11_asked _ _ _ _ _ _ _) (by decide) (by decide) rfl (Nat.le_of_ble_eq_true rfl) (fun r73 _ => ?_)
                      refine rhF.aload_n (pc := 402) dL_law_402 2 rfl ?_
                      refine rhF.aldT (pc := 403) dL_law_403 0 rfl ?_
                      refine rhF.iload_n (pc := 404) dL_law_404 3 rfl ?_
                      refine rhF.iconst (pc := 405) (v := 1) dL_law_405 (by decide) ?_
                      refine rhF.iadd (pc := 406) dL_law_406 ?_
                      refine rhF.sld (pc := 407) hE dL_law_407 h69 ?_
                      refine rhF.aldT (pc := 408) dL_law_408 0 rfl ?_
                      refine rhF.iload_n (pc := 409) dL_law_409 3 rfl ?_
                      refine rhF.iconst (pc := 410) (v := 2) dL_law_410 (by decide) ?_
                      refine rhF.iadd (pc := 411) dL_law_411 ?_
                      refine rhF.sld (pc := 412) hE dL_law_412 h70 ?_
                      refine rhF.aldT (pc := 413) dL_law_413 0 rfl ?_
                      refine rhF.iload_n (pc := 414) dL_law_414 3 rfl ?_
                      refine rhF.iconst (pc := 415) (v := 3) dL_law_415 (by decide) ?_
                      refine rhF.iadd (pc := 416) dL_law_416 ?_
                      refine rhF.sld (pc := 417) hE dL_law_417 h71 ?_
                      refine rhF.ck (fun h74 => ?_)
                      refine rhF.callV (pc := 418) (ci := 12) (embc := rhe1I _) [rhI _, rhI _, rhI _] dL_law_418 ml_L_49 mv_X12_asked ⟨_, rfl, rfl⟩ h74 (c_X12_asked _ _ _ _ _ _ _) (by decide) (by decide) rfl (Nat.le_of_ble_eq_true rfl) (fun r75 _ => ?_)
                      refine rhF.icmp_eq (pc := 421) 1051 dL_law_421 (by decide) (fun h76 => ?_) (fun h76 => ?_)
                      · exact (b_L_law_1051 hE ih) _ _ _ _ _
                      · refine rhF.iconst (pc := 424) (v := 0) dL_law_424 (by decide) ?_
                        exact rhF.zret (pc := 425) dL_law_425 rfl rfl rfl
                    · skip
                      refine rhF.ite (fun h77 => ?_) (fun h77 => ?_)
                      · refine rhF.tsIn (pc := 33) 426 8 dL_law_33 (by rw [h77]; decide) (by decide) rfl (by decide) ?_
                        refine rhF.aload_n (pc := 426) dL_law_426 1 rfl ?_
                        refine rhF.aldT (pc := 427) dL_law_427 0 rfl ?_
                        refine rhF.iload_n (pc := 428) dL_law_428 3 rfl ?_
                        refine rhF.iconst (pc := 429) (v := 1) dL_law_429 (by decide) ?_
                        refine rhF.iadd (pc := 430) dL_law_430 ?_
                        refine rhF.ck (fun h78 => ?_)
                        refine rhF.sld (pc := 431) hE dL_law_431 h78 ?_
                        refine rhF.aldT (pc := 432) dL_law_432 0 rfl ?_
                        refine rhF.iload_n (pc := 433) dL_law_433 3 rfl ?_
                        refine rhF.iconst (pc := 434) (v := 2) dL_law_434 (by decide) ?_
                        refine rhF.iadd (pc := 435) dL_law_435 ?_
                        refine rhF.ck (fun h79 => ?_)
                        refine rhF.sld (pc := 436) hE dL_law_436 h79 ?_
                        refine rhF.aldT (pc := 437) dL_law_437 0 rfl ?_
                        refine rhF.iload_n (pc := 438) dL_law_438 3 rfl ?_
                        refine rhF.iconst (pc := 439) (v := 3) dL_law_439 (by decide) ?_
                        refine rhF.iadd (pc := 440) dL_law_440 ?_
                        refine rhF.ck (fun h80 => ?_)
                        refine rhF.sld (pc := 441) hE dL_law_441 h80 ?_
                        refine rhF.ck (fun h81 => ?_)
                        refine rhF.callV (pc := 442) (ci := 11) (embc := rhe1I _) [rhI _, rhI _, rhI _] dL_law_442 ml_L_50 mv_X11_lawful ⟨_, rfl, rfl⟩ h81 (c_X11_lawful _ _ _ _ _ _ _) (by decide) (by decide) rfl (Nat.le_of_ble_eq_true rfl) (fun r82 _ => ?_)
                        refine rhF.aload_n (pc := 445) dL_law_445 2 rfl ?_
                        refine rhF.aldT (pc := 446) dL_law_446 0 rfl ?_
                        refine rhF.iload_n (pc := 447) dL_law_447 3 rfl ?_
                        refine rhF.iconst (pc := 448) (v := 1) dL_law_448 (by decide) ?_
                        refine rhF.iadd (pc := 449) dL_law_449 ?_
                        refine rhF.sld (pc := 450) hE dL_law_450 h78 ?_
                        refine rhF.aldT (pc := 451) dL_law_451 0 rfl ?_
                        refine rhF.iload_n (pc := 452) dL_law_452 3 rfl ?_
                        refine rhF.iconst (pc := 453) (v := 2) dL_law_453 (by decide) ?_
                        refine rhF.iadd (pc := 454) dL_law_454 ?_
                        refine rhF.sld (pc := 455) hE dL_law_455 h79 ?_
                        refine rhF.aldT (pc := 456) dL_law_456 0 rfl ?_
                        refine rhF.iload_n (pc := 457) dL_law_457 3 rfl ?_
                        refine rhF.iconst (pc := 458) (v := 3) dL_law_458 (by decide) ?_
                        refine rhF.iadd (pc := 459) dL_law_459 ?_
                        refine rhF.sld (pc := 460) hE dL_law_460 h80 ?_
                        refine rhF.ck (fun h83 => ?_)
                        refine rhF.callV (pc := 461) (ci := 12) (embc := rhe1I _) [rhI _, rhI _, rhI _] dL_law_461 ml_L_53 mv_X12_lawful ⟨_, rfl, rfl⟩ h83 (c_X12_lawful _ _ _ _ _ _ _) (by decide) (by decide) rfl (Nat.le_of_ble_eq_true rfl) (fun r84 _ => ?_)
                        refine rhF.icmp_eq (pc := 464) 1051 dL_law_464 (by decide) (fun h85 => ?_) (fun h85 => ?_)
                        · exact (b_L_law_1051 hE ih) _ _ _ _ _
                        · refine rhF.iconst (pc := 467) (v := 0) dL_law_467 (by decide) ?_
                          exact rhF.zret (pc := 468) dL_law_468 rfl rfl rfl
                      · skip
                        refine rhF.ite (fun h86 => ?_) (fun h86 => ?_)
                        · refine rhF.tsIn (pc := 33) 469 9 dL_law_33 (by rw [h86]; decide) (by decide) rfl (by decide) ?_
                          refine rhF.aload_n (pc := 469) dL_law_469 1 rfl ?_
                          refine rhF.aldT (pc := 470) dL_law_470 0 rfl ?_
                          refine rhF.iload_n (pc := 471) dL_law_471 3 rfl ?_
                          refine rhF.iconst (pc := 472) (v := 1) dL_law_472 (by decide) ?_
                          refine rhF.iadd (pc := 473) dL_law_473 ?_
                          refine rhF.ck (fun h87 => ?_)
                          refine rhF.sld (pc := 474) hE dL_law_474 h87 ?_
                          refine rhF.aldT (pc := 475) dL_law_475 0 rfl ?_
                          refine rhF.iload_n (pc := 476) dL_law_476 3 rfl ?_
                          refine rhF.iconst (pc := 477) (v := 2) dL_law_477 (by decide) ?_
                          refine rhF.iadd (pc := 478) dL_law_478 ?_
                          refine rhF.ck (fun h88 => ?_)
                          refine rhF.sld (pc := 479) hE dL_law_479 h88 ?_
                          refine rhF.aldT (pc := 480) dL_law_480 0 rfl ?_
                          refine rhF.iload_n (pc := 481) dL_law_481 3 rfl ?_
                          refine rhF.iconst (pc := 482) (v := 3) dL_law_482 (by decide) ?_
                          refine rhF.iadd (pc := 483) dL_law_483 ?_
                          refine rhF.ck (fun h89 => ?_)
                          refine rhF.sld (pc := 484) hE dL_law_484 h89 ?_
                          refine rhF.ck (fun h90 => ?_)
                          refine rhF.callV (pc := 485) (ci := 11) (embc := rhe1I _) [rhI _, rhI _, rhI _] dL_law_485 ml_L_54 mv_X11_pull ⟨_, rfl, rfl⟩ h90 (c_X11_pull _ _ _ _ _ _ _) (by decide) (by decide) rfl (Nat.le_of_ble_eq_true rfl) (fun r91 _ => ?_)
                          refine rhF.aload_n (pc := 488) dL_law_488 2 rfl ?_
                          refine rhF.aldT (pc := 489) dL_law_489 0 rfl ?_
                          refine rhF.iload_n (pc := 490) dL_law_490 3 rfl ?_
                          refine rhF.iconst (pc := 491) (v := 1) dL_law_491 (by decide) ?_
                          refine rhF.iadd (pc := 492) dL_law_492 ?_
                          refine rhF.sld (pc := 493) hE dL_law_493 h87 ?_
                          refine rhF.aldT (pc := 494) dL_law_494 0 rfl ?_
                          refine rhF.iload_n (pc := 495) dL_law_495 3 rfl ?_
                          refine rhF.iconst (pc := 496) (v := 2) dL_law_496 (by decide) ?_
                          refine rhF.iadd (pc := 497) dL_law_497 ?_
                          refine rhF.sld (pc := 498) hE dL_law_498 h88 ?_
                          refine rhF.aldT (pc := 499) dL_law_499 0 rfl ?_
                          refine rhF.iload_n (pc := 500) dL_law_500 3 rfl ?_
                          refine rhF.iconst (pc := 501) (v := 3) dL_law_501 (by decide) ?_
                          refine rhF.iadd (pc := 502) dL_law_502 ?_
                          refine rhF.sld (pc := 503) hE dL_law_503 h89 ?_
                          refine rhF.ck (fun h92 => ?_)
                          refine rhF.callV (pc := 504) (ci := 12) (embc := rhe1I _) [rhI _, rhI _, rhI _] dL_law_504 ml_L_57 mv_X12_pull ⟨_, rfl, rfl⟩ h92 (c_X12_pull _ _ _ _ _ _ _) (by decide) (by decide) rfl (Nat.le_of_ble_eq_true rfl) (fun r93 _ => ?_)
                          refine rhF.icmp_eq (pc := 507) 1051 dL_law_507 (by decide) (fun h94 => ?_) (fun h94 => ?_)
                          · exact (b_L_law_1051 hE ih) _ _ _ _ _
                          · refine rhF.iconst (pc := 510) (v := 0) dL_law_510 (by decide) ?_
                            exact rhF.zret (pc := 511) dL_law_511 rfl rfl rfl
                        · skip
                          refine rhF.ite (fun h95 => ?_) (fun h95 => ?_)
                          · refine rhF.tsIn (pc := 33) 512 10 dL_law_33 (by rw [h95]; decide) (by decide) rfl (by decide) ?_
                            refine rhF.aload_n (pc := 512) dL_law_512 1 rfl ?_
                            refine rhF.aldT (pc := 513) dL_law_513 0 rfl ?_
                            refine rhF.iload_n (pc := 514) dL_law_514 3 rfl ?_
                            refine rhF.iconst (pc := 515) (v := 1) dL_law_515 (by decide) ?_
                            refine rhF.iadd (pc := 516) dL_law_516 ?_
                            refine rhF.ck (fun h96 => ?_)
                            refine rhF.sld (pc := 517) hE dL_law_517 h96 ?_
                            refine rhF.ck (fun h97 => ?_)
                            refine rhF.callV (pc := 518) (ci := 11) (embc := rhe1I _) [rhI _] dL_law_518 ml_L_58 mv_X11_undo ⟨_, rfl, rfl⟩ h97 (c_X11_undo _ _ _ _ _) (by decide) (by decide) rfl (Nat.le_of_ble_eq_true rfl) (fun r98 _ => ?_)
                            refine rhF.aload_n (pc := 521) dL_law_521 2 rfl ?_
                            refine rhF.aldT (pc := 522) dL_law_522 0 rfl ?_
                            refine rhF.iload_n (pc := 523) dL_law_523 3 rfl ?_
                            refine rhF.iconst (pc := 524) (v := 1) dL_law_524 (by decide) ?_
                            refine rhF.iadd (pc := 525) dL_law_525 ?_
                            refine rhF.sld (pc := 526) hE dL_law_526 h96 ?_
                            refine rhF.ck (fun h99 => ?_)
                            refine rhF.callV (pc := 527) (ci := 12) (embc := rhe1I _) [rhI _] dL_law_527 ml_L_61 mv_X12_undo ⟨_, rfl, rfl⟩ h99 (c_X12_undo _ _ _ _ _) (by decide) (by decide) rfl (Nat.le_of_ble_eq_true rfl) (fun r100 _ => ?_)
                            refine rhF.icmp_eq (pc := 530) 1051 dL_law_530 (by decide) (fun h101 => ?_) (fun h101 => ?_)
                            · exact (b_L_law_1051 hE ih) _ _ _ _ _
                            · refine rhF.iconst (pc := 533) (v := 0) dL_law_533 (by decide) ?_
                              exact rhF.zret (pc := 534) dL_law_534 rfl rfl rfl
                          · skip
                            refine rhF.ite (fun h102 => ?_) (fun h102 => ?_)
                            · refine rhF.tsIn (pc := 33) 535 11 dL_law_33 (by rw [h102]; decide) (by decide) rfl (by decide) ?_
                              refine rhF.aload_n (pc := 535) dL_law_535 1 rfl ?_
                              refine rhF.ck (fun h103 => ?_)
                              refine rhF.callV (pc := 536) (ci := 11) (embc := rhe0I _ _) [] dL_law_536 ml_L_62 mv_X11_worth ⟨_, rfl, rfl⟩ h103 (c_X11_worth _ _ _ _) (by decide) (by decide) rfl (Nat.le_of_ble_eq_true rfl) (fun r104 _ => ?_)
                              refine rhF.aload_n (pc := 539) dL_law_539 2 rfl ?_
                              refine rhF.ck (fun h105 => ?_)
                              refine rhF.callV (pc := 540) (ci := 12) (embc := rhe1I _) [] dL_law_540 ml_L_65 mv_X12_worth ⟨_, rfl, rfl⟩ h105 (c_X12_worth _ _ _ _) (by decide) (by decide) rfl (Nat.le_of_ble_eq_true rfl) (fun r106 _ => ?_)
                              refine rhF.icmp_eq (pc := 543) 1051 dL_law_543 (by decide) (fun h107 => ?_) (fun h107 => ?_)
                              · exact (b_L_law_1051 hE ih) _ _ _ _ _
                              · refine rhF.iconst (pc := 546) (v := 0) dL_law_546 (by decide) ?_
                                exact rhF.zret (pc := 547) dL_law_547 rfl rfl rfl
                            · skip
                              refine rhF.ite (fun h108 => ?_) (fun h108 => ?_)
                              · refine rhF.tsIn (pc := 33) 548 12 dL_law_33 (by rw [h108]; decide) (by decide) rfl (by decide) ?_
                                refine rhF.aload_n (pc := 548) dL_law_548 1 rfl ?_
                                refine rhF.aldT (pc := 549) dL_law_549 0 rfl ?_
                                refine rhF.iload_n (pc := 550) dL_law_550 3 rfl ?_
                                refine rhF.iconst (pc := 551) (v := 1) dL_law_551 (by decide) ?_
                                refine rhF.iadd (pc := 552) dL_law_552 ?_
                                refine rhF.ck (fun h109 => ?_)
                                refine rhF.sld (pc := 553) hE dL_law_553 h109 ?_
                                refine rhF.aldT (pc := 554) dL_law_554 0 rfl ?_
                                refine rhF.iload_n (pc := 555) dL_law_555 3 rfl ?_
                                refine rhF.iconst (pc := 556) (v := 2) dL_law_556 (by decide) ?_
                                refine rhF.iadd (pc := 557) dL_law_557 ?_
                                refine rhF.ck (fun h110 => ?_)
                                refine rhF.sld (pc := 558) hE dL_law_558 h110 ?_
                                refine rhF.aldT (pc := 559) dL_law_559 0 rfl ?_
                                refine rhF.iload_n (pc := 560) dL_law_560 3 rfl ?_
                                refine rhF.iconst (pc := 561) (v := 3) dL_law_561 (by decide) ?_
                                refine rhF.iadd (pc := 562) dL_law_562 ?_
                                refine rhF.ck (fun h111 => ?_)
                                refine rhF.sld (pc := 563) hE dL_law_563 h111 ?_
                                refine rhF.ck (fun h112 => ?_)
                                refine rhF.callV (pc := 564) (ci := 11) (embc := rhe1I _) [rhI _, rhI _, rhI _] dL_law_564 ml_L_66 mv_X11_tell ⟨_, rfl, rfl⟩ h112 (c_X11_tell _ _ _ _ _ _ _) (by decide) (by decide) rfl (Nat.le_of_ble_eq_true rfl) (fun r113 _ => ?_)
                                refine rhF.aload_n (pc := 567) dL_law_567 2 rfl ?_
                                refine rhF.aldT (pc := 568) dL_law_568 0 rfl ?_
                                refine rhF.iload_n (pc := 569) dL_law_569 3 rfl ?_
                                refine rhF.iconst (pc := 570) (v := 1) dL_law_570 (by decide) ?_
                                refine rhF.iadd (pc := 571) dL_law_571 ?_
                                refine rhF.sld (pc := 572) hE dL_law_572 h109 ?_
                                refine rhF.aldT (pc := 573) dL_law_573 0 rfl ?_
                                refine rhF.iload_n (pc := 574) dL_law_574 3 rfl ?_
                                refine rhF.iconst (pc := 575) (v := 2) dL_law_575 (by decide) ?_
                                refine rhF.iadd (pc := 576) dL_law_576 ?_
                                refine rhF.sld (pc := 577) hE dL_law_577 h110 ?_
                                refine rhF.aldT (pc := 578) dL_law_578 0 rfl ?_
                                refine rhF.iload_n (pc := 579) dL_law_579 3 rfl ?_
                                refine rhF.iconst (pc := 580) (v := 3) dL_law_580 (by decide) ?_
                                refine rhF.iadd (pc := 581) dL_law_581 ?_
                                refine rhF.sld (pc := 582) hE dL_law_582 h111 ?_
                                refine rhF.ck (fun h114 => ?_)
                                refine rhF.callV (pc := 583) (ci := 12) (embc := rhe1I _) [rhI _, rhI _, rhI _] dL_law_583 ml_L_69 mv_X12_tell ⟨_, rfl, rfl⟩ h114 (c_X12_tell _ _ _ _ _ _ _) (by decide) (by decide) rfl (Nat.le_of_ble_eq_true rfl) (fun r115 _ => ?_)
                                refine rhF.icmp_eq (pc := 586) 1051 dL_law_586 (by decide) (fun h116 => ?_) (fun h116 => ?_)
                                · exact (b_L_law_1051 hE ih) _ _ _ _ _
                                · refine rhF.iconst (pc := 589) (v := 0) dL_law_589 (by decide) ?_
                                  exact rhF.zret (pc := 590) dL_law_590 rfl rfl rfl
                              · skip
                                refine rhF.ite (fun h117 => ?_) (fun h117 => ?_)
                                · refine rhF.tsIn (pc := 33) 591 13 dL_law_33 (by rw [h117]; decide) (by decide) rfl (by decide) ?_
                                  refine rhF.aload_n (pc := 591) dL_law_591 1 rfl ?_
                                  refine rhF.ck (fun h118 => ?_)
                                  refine rhF.callV (pc := 592) (ci := 11) (embc := rhe1I _) [] dL_law_592 ml_L_70 mv_X11_hush ⟨_, rfl, rfl⟩ h118 (c_X11_hush _ _ _ _) (by decide) (by decide) rfl (Nat.le_of_ble_eq_true rfl) (fun r119 _ => ?_)
                                  refine rhF.aload_n (pc := 595) dL_law_595 2 rfl ?_
                                  refine rhF.ck (fun h120 => ?_)
                                  refine rhF.callV (pc := 596) (ci := 12) (embc := rhe1I _) [] dL_law_596 ml_L_73 mv_X12_hush ⟨_, rfl, rfl⟩ h120 (c_X12_hush _ _ _ _) (by decide) (by decide) rfl (Nat.le_of_ble_eq_true rfl) (fun r121 _ => ?_)
                                  refine rhF.icmp_eq (pc := 599) 1051 dL_law_599 (by decide) (fun h122 => ?_) (fun h122 => ?_)
                                  · exact (b_L_law_1051 hE ih) _ _ _ _ _
                                  · refine rhF.iconst (pc := 602) (v := 0) dL_law_602 (by decide) ?_
                                    exact rhF.zret (pc := 603) dL_law_603 rfl rfl rfl
                                · skip
                                  refine rhF.ite (fun h123 => ?_) (fun h123 => ?_)
                                  · refine rhF.tsIn (pc := 33) 604 14 dL_law_33 (by rw [h123]; decide) (by decide) rfl (by decide) ?_
                                    refine rhF.aload_n (pc := 604) dL_law_604 1 rfl ?_
                                    refine rhF.aldT (pc := 605) dL_law_605 0 rfl ?_
                                    refine rhF.iload_n (pc := 606) dL_law_606 3 rfl ?_
                                    refine rhF.iconst (pc := 607) (v := 1) dL_law_607 (by decide) ?_
                                    refine rhF.iadd (pc := 608) dL_law_608 ?_
                                    refine rhF.ck (fun h124 => ?_)
                                    refine rhF.sld (pc := 609) hE dL_law_609 h124 ?_
                                    refine rhF.ck (fun h125 => ?_)
                                    refine rhF.callV (pc := 610) (ci := 11) (embc := rhe1I _) [rhI _] dL_law_610 ml_L_74 mv_X11_judge ⟨_, rfl, rfl⟩ h125 (c_X11_judge _ _ _ _ _) (by decide) (by decide) rfl (Nat.le_of_ble_eq_true rfl) (fun r126 _ => ?_)
                                    refine rhF.aload_n (pc := 613) dL_law_613 2 rfl ?_
                                    refine rhF.aldT (pc := 614) dL_law_614 0 rfl ?_
                                    refine rhF.iload_n (pc := 615) dL_law_615 3 rfl ?_
                                    refine rhF.iconst (pc := 616) (v := 1) dL_law_616 (by decide) ?_
                                    refine rhF.iadd (pc := 617) dL_law_617 ?_
                                    refine rhF.sld (pc := 618) hE dL_law_618 h124 ?_
                                    refine rhF.ck (fun h127 => ?_)
                                    refine rhF.callV (pc := 619) (ci := 12) (embc := rhe1I _) [rhI _] dL_law_619 ml_L_77 mv_X12_judge ⟨_, rfl, rfl⟩ h127 (c_X12_judge _ _ _ _ _) (by decide) (by decide) rfl (Nat.le_of_ble_eq_true rfl) (fun r128 _ => ?_)
                                    refine rhF.icmp_eq (pc := 622) 1051 dL_law_622 (by decide) (fun h129 => ?_) (fun h129 => ?_)
                                    · exact (b_L_law_1051 hE ih) _ _ _ _ _
                                    · refine rhF.iconst (pc := 625) (v := 0) dL_law_625 (by decide) ?_
                                      exact rhF.zret (pc := 626) dL_law_626 rfl rfl rfl
                                  · skip
                                    refine rhF.ite (fun h130 => ?_) (fun h130 => ?_)
                                    · refine rhF.tsIn (pc := 33) 627 15 dL_law_33 (by rw [h130]; decide) (by decide) rfl (by decide) ?_
                                      refine rhF.aload_n (pc := 627) dL_law_627 1 rfl ?_
                                      refine rhF.aldT (pc := 628) dL_law_628 0 rfl ?_
                                      refine rhF.iload_n (pc := 629) dL_law_629 3 rfl ?_
                                      refine rhF.iconst (pc := 630) (v := 1) dL_law_630 (by decide) ?_
                                      refine rhF.iadd (pc := 631) dL_law_631 ?_
                                      refine rhF.ck (fun h131 => ?_)
                                      refine rhF.sld (pc := 632) hE dL_law_632 h131 ?_
                                      refine rhF.ck (fun h132 => ?_)
                                      refine rhF.callV (pc := 633) (ci := 11) (embc := rhe1I _) [rhI _] dL_law_633 ml_L_78 mv_X11_goal ⟨_, rfl, rfl⟩ h132 (c_X11_goal _ _ _ _ _) (by decide) (by decide) rfl (Nat.le_of_ble_eq_true rfl) (fun r133 _ => ?_)
                                      refine rhF.aload_n (pc := 636) dL_law_636 2 rfl ?_
                                      refine rhF.aldT (pc := 637) dL_law_637 0 rfl ?_
                                      refine rhF.iload_n (pc := 638) dL_law_638 3 rfl ?_
                                      refine rhF.iconst (pc := 639) (v := 1) dL_law_639 (by decide) ?_
                                      refine rhF.iadd (pc := 640) dL_law_640 ?_
                                      refine rhF.sld (pc := 641) hE dL_law_641 h131 ?_
                                      refine rhF.ck (fun h134 => ?_)
                                      refine rhF.callV (pc := 642) (ci := 12) (embc := rhe1I _) [rhI _] dL_law_642 ml_L_81 mv_X12_goal ⟨_, rfl, rfl⟩ h134 (c_X12_goal _ _ _ _ _) (by decide) (by decide) rfl (Nat.le_of_ble_eq_true rfl) (fun r135 _ => ?_)
                                      refine rhF.icmp_eq (pc := 645) 1051 dL_law_645 (by decide) (fun h136 => ?_) (fun h136 => ?_)
                                      · exact (b_L_law_1051 hE ih) _ _ _ _ _
                                      · refine rhF.iconst (pc := 648) (v := 0) dL_law_648 (by decide) ?_
                                        exact rhF.zret (pc := 649) dL_law_649 rfl rfl rfl
                                    · skip
                                      refine rhF.ite (fun h137 => ?_) (fun h137 => ?_)
                                      · refine rhF.tsIn (pc := 33) 650 16 dL_law_33 (by rw [h137]; decide) (by decide) rfl (by decide) ?_
                                        refine rhF.aload_n (pc := 650) dL_law_650 1 rfl ?_
                                        refine rhF.ck (fun h138 => ?_)
                                        refine rhF.callV (pc := 651) (ci := 11) (embc := rhe1I _) [] dL_law_651 ml_L_82 mv_X11_open ⟨_, rfl, rfl⟩ h138 (c_X11_open _ _ _ _) (by decide) (by decide) rfl (Nat.le_of_ble_eq_true rfl) (fun r139 _ => ?_)
                                        refine rhF.aload_n (pc := 654) dL_law_654 2 rfl ?_
                                        refine rhF.ck (fun h140 => ?_)
                                        refine rhF.callV (pc := 655) (ci := 12) (embc := rhe1I _) [] dL_law_655 ml_L_85 mv_X12_open ⟨_, rfl, rfl⟩ h140 (c_X12_open _ _ _ _) (by decide) (by decide) rfl (Nat.le_of_ble_eq_true rfl) (fun r141 _ => ?_)
                                        refine rhF.icmp_eq (pc := 658) 1051 dL_law_658 (by decide) (fun h142 => ?_) (fun h142 => ?_)
                                        · exact (b_L_law_1051 hE ih) _ _ _ _ _
                                        · refine rhF.iconst (pc := 661) (v := 0) dL_law_661 (by decide) ?_
                                          exact rhF.zret (pc := 662) dL_law_662 rfl rfl rfl
                                      · skip
                                        refine rhF.ite (fun h143 => ?_) (fun h143 => ?_)
                                        · refine rhF.tsIn (pc := 33) 663 17 dL_law_33 (by rw [h143]; decide) (by decide) rfl (by decide) ?_
                                          refine rhF.aload_n (pc := 663) dL_law_663 1 rfl ?_
                                          refine rhF.ck (fun h144 => ?_)
                                          refine rhF.callV (pc := 664) (ci := 11) (embc := rhe2I) [] dL_law_664 ml_L_86 mv_X11_fewest ⟨_, rfl, rfl⟩ h144 (c_X11_fewest _ _ _ _) (by decide) (by decide) rfl (Nat.le_of_ble_eq_true rfl) (fun r145 _ => ?_)
                                          refine rhF.aload_n (pc := 667) dL_law_667 2 rfl ?_
                                          refine rhF.ck (fun h146 => ?_)
                                          refine rhF.callV (pc := 668) (ci := 12) (embc := rhe1I _) [] dL_law_668 ml_L_89 mv_X12_fewest ⟨_, rfl, rfl⟩ h146 (c_X12_fewest _ _ _ _) (by decide) (by decide) rfl (Nat.le_of_ble_eq_true rfl) (fun r147 _ => ?_)
                                          refine rhF.icmp_eq (pc := 671) 1051 dL_law_671 (by decide) (fun h148 => ?_) (fun h148 => ?_)
                                          · exact (b_L_law_1051 hE ih) _ _ _ _ _
                                          · refine rhF.iconst (pc := 674) (v := 0) dL_law_674 (by decide) ?_
                                            exact rhF.zret (pc := 675) dL_law_675 rfl rfl rfl
                                        · skip
                                          refine rhF.ite (fun h149 => ?_) (fun h149 => ?_)
                                          · refine rhF.tsIn (pc := 33) 676 18 dL_law_33 (by rw [h149]; decide) (by decide) rfl (by decide) ?_
                                            refine rhF.aload_n (pc := 676) dL_law_676 1 rfl ?_
                                            refine rhF.ck (fun h150 => ?_)
                                            refine rhF.callV (pc := 677) (ci := 11) (embc := rhe2I) [] dL_law_677 ml_L_90 mv_X11_least ⟨_, rfl, rfl⟩ h150 (c_X11_least _ _ _ _) (by decide) (by decide) rfl (Nat.le_of_ble_eq_true rfl) (fun r151 _ => ?_)
                                            refine rhF.aload_n (pc := 680) dL_law_680 2 rfl ?_
                                            refine rhF.ck (fun h152 => ?_)
                                            refine rhF.callV (pc := 681) (ci := 12) (embc := rhe1I _) [] dL_law_681 ml_L_93 mv_X12_least ⟨_, rfl, rfl⟩ h152 (c_X12_least _ _ _ _) (by decide) (by decide) rfl (Nat.le_of_ble_eq_true rfl) (fun r153 _ => ?_)
                                            refine rhF.icmp_eq (pc := 684) 1051 dL_law_684 (by decide) (fun h154 => ?_) (fun h154 => ?_)
                                            · exact (b_L_law_1051 hE ih) _ _ _ _ _
                                            · refine rhF.iconst (pc := 687) (v := 0) dL_law_687 (by decide) ?_
                                              exact rhF.zret (pc := 688) dL_law_688 rfl rfl rfl
                                          · skip
                                            refine rhF.ite (fun h155 => ?_) (fun h155 => ?_)
                                            · refine rhF.tsIn (pc := 33) 689 19 dL_law_33 (by rw [h155]; decide) (by decide) rfl (by decide) ?_
                                              refine rhF.aload_n (pc := 689) dL_law_689 1 rfl ?_
                                              refine rhF.aldT (pc := 690) dL_law_690 0 rfl ?_
                                              refine rhF.iload_n (pc := 691) dL_law_691 3 rfl ?_
                                              refine rhF.iconst (pc := 692) (v := 1) dL_law_692 (by decide) ?_
                                              refine rhF.iadd (pc := 693) dL_law_693 ?_
                                              refine rhF.ck (fun h156 => ?_)
                                              refine rhF.sld (pc := 694) hE dL_law_694 h156 ?_
                                              refine rhF.ck (fun h157 => ?_)
                                              refine rhF.callV (pc := 695) (ci := 11) (embc := rhe2I) [rhI _] dL_law_695 ml_L_94 mv_X11_richest ⟨_, rfl, rfl⟩ h157 (c_X11_richest _ _ _ _ _) (by decide) (by decide) rfl (Nat.le_of_ble_eq_true rfl) (fun r158 _ => ?_)
                                              refine rhF.aload_n (pc := 698) dL_law_698 2 rfl ?_
                                              refine rhF.aldT (pc := 699) dL_law_699 0 rfl ?_
                                              refine rhF.iload_n (pc := 700) dL_law_700 3 rfl ?_
                                              refine rhF.iconst (pc := 701) (v := 1) dL_law_701 (by decide) ?_
                                              refine rhF.iadd (pc := 702) dL_law_702 ?_
                                              refine rhF.sld (pc := 703) hE dL_law_703 h156 ?_
                                              refine rhF.ck (fun h159 => ?_)
                                              refine rhF.callV (pc := 704) (ci := 12) (embc := rhe1I _) [rhI _] dL_law_704 ml_L_97 mv_X12_richest ⟨_, rfl, rfl⟩ h159 (c_X12_richest _ _ _ _ _) (by decide) (by decide) rfl (Nat.le_of_ble_eq_true rfl) (fun r160 _ => ?_)
                                              refine rhF.icmp_eq (pc := 707) 1051 dL_law_707 (by decide) (fun h161 => ?_) (fun h161 => ?_)
                                              · exact (b_L_law_1051 hE ih) _ _ _ _ _
                                              · refine rhF.iconst (pc := 710) (v := 0) dL_law_710 (by decide) ?_
                                                exact rhF.zret (pc := 711) dL_law_711 rfl rfl rfl
                                            · skip
                                              refine rhF.ite (fun h162 => ?_) (fun h162 => ?_)
                                              · refine rhF.tsIn (pc := 33) 712 20 dL_law_33 (by rw [h162]; decide) (by decide) rfl (by decide) ?_
                                                refine rhF.aload_n (pc := 712) dL_law_712 1 rfl ?_
                                                refine rhF.aldT (pc := 713) dL_law_713 0 rfl ?_
                                                refine rhF.iload_n (pc := 714) dL_law_714 3 rfl ?_
                                                refine rhF.iconst (pc := 715) (v := 1) dL_law_715 (by decide) ?_
                                                refine rhF.iadd (pc := 716) dL_law_716 ?_
                                                refine rhF.ck (fun h163 => ?_)
                                                refine rhF.sld (pc := 717) hE dL_law_717 h163 ?_
                                                refine rhF.ck (fun h164 => ?_)
                                                refine rhF.callV (pc := 718) (ci := 11) (embc := rhe2I) [rhI _] dL_law_718 ml_L_98 mv_X11_free ⟨_, rfl, rfl⟩ h164 (c_X11_free _ _ _ _ _) (by decide) (by decide) rfl (Nat.le_of_ble_eq_true rfl) (fun r165 _ => ?_)
                                                refine rhF.aload_n (pc := 721) dL_law_721 2 rfl ?_
                                                refine rhF.aldT (pc := 722) dL_law_722 0 rfl ?_
                                                refine rhF.iload_n (pc := 723) dL_law_723 3 rfl ?_
                                                refine rhF.iconst (pc := 724) (v := 1) dL_law_724 (by decide) ?_
                                                refine rhF.iadd (pc := 725) dL_law_725 ?_
                                                refine rhF.sld (pc := 726) hE dL_law_726 h163 ?_
                                                refine rhF.ck (fun h166 => ?_)
                                                refine rhF.callV (pc := 727) (ci := 12) (embc := rhe1I _) [rhI _] dL_law_727 ml_L_101 mv_X12_free ⟨_, rfl, rfl⟩ h166 (c_X12_free _ _ _ _ _) (by decide) (by decide) rfl (Nat.le_of_ble_eq_true rfl) (fun r167 _ => ?_)
                                                refine rhF.icmp_eq (pc := 730) 1051 dL_law_730 (by decide) (fun h168 => ?_) (fun h168 => ?_)
                                                · exact (b_L_law_1051 hE ih) _ _ _ _ _
                                                · refine rhF.iconst (pc := 733) (v := 0) dL_law_733 (by decide) ?_
                                                  exact rhF.zret (pc := 734) dL_law_734 rfl rfl rfl
                                              · skip
                                                refine rhF.ite (fun h169 => ?_) (fun h169 => ?_)
                                                · refine rhF.tsIn (pc := 33) 735 21 dL_law_33 (by rw [h169]; decide) (by decide) rfl (by decide) ?_
                                                  refine rhF.aload_n (pc := 735) dL_law_735 1 rfl ?_
                                                  refine rhF.aldT (pc := 736) dL_law_736 0 rfl ?_
                                                  refine rhF.iload_n (pc := 737) dL_law_737 3 rfl ?_
                                                  refine rhF.iconst (pc := 738) (v := 1) dL_law_738 (by decide) ?_
                                                  refine rhF.iadd (pc := 739) dL_law_739 ?_
                                                  refine rhF.ck (fun h170 => ?_)
                                                  refine rhF.sld (pc := 740) hE dL_law_740 h170 ?_
                                                  refine rhF.aldT (pc := 741) dL_law_741 0 rfl ?_
                                                  refine rhF.iload_n (pc := 742) dL_law_742 3 rfl ?_
                                                  refine rhF.iconst (pc := 743) (v := 2) dL_law_743 (by decide) ?_
                                                  refine rhF.iadd (pc := 744) dL_law_744 ?_
                                                  refine rhF.ck (fun h171 => ?_)
                                                  refine rhF.sld (pc := 745) hE dL_law_745 h171 ?_
                                                  refine rhF.ck (fun h172 => ?_)
                                                  refine rhF.callV (pc := 746) (ci := 11) (embc := rhe2I) [rhI _, rhI _] dL_law_746 ml_L_102 mv_X11_spare ⟨_, rfl, rfl⟩ h172 (c_X11_spare _ _ _ _ _ _) (by decide) (by decide) rfl (Nat.le_of_ble_eq_true rfl) (fun r173 _ => ?_)
                                                  refine rhF.aload_n (pc := 749) dL_law_749 2 rfl ?_
                                                  refine rhF.aldT (pc := 750) dL_law_750 0 rfl ?_
                                                  refine rhF.iload_n (pc := 751) dL_law_751 3 rfl ?_
                                                  refine rhF.iconst (pc := 752) (v := 1) dL_law_752 (by decide) ?_
                                                  refine rhF.iadd (pc := 753) dL_law_753 ?_
                                                  refine rhF.sld (pc := 754) hE dL_law_754 h170 ?_
                                                  refine rhF.aldT (pc := 755) dL_law_755 0 rfl ?_
                                                  refine rhF.iload_n (pc := 756) dL_law_756 3 rfl ?_
                                                  refine rhF.iconst (pc := 757) (v := 2) dL_law_757 (by decide) ?_
                                                  refine rhF.iadd (pc := 758) dL_law_758 ?_
                                                  refine rhF.sld (pc := 759) hE dL_law_759 h171 ?_
                                                  refine rhF.ck (fun h174 => ?_)
                                                  refine rhF.callV (pc := 760) (ci := 12) (embc := rhe1I _) [rhI _, rhI _] dL_law_760 ml_L_105 mv_X12_spare ⟨_, rfl, rfl⟩ h174 (c_X12_spare _ _ _ _ _ _) (by decide) (by decide) rfl (Nat.le_of_ble_eq_true rfl) (fun r175 _ => ?_)
                                                  refine rhF.icmp_eq (pc := 763) 1051 dL_law_763 (by decide) (fun h176 => ?_) (fun h176 => ?_)
                                                  · exact (b_L_law_1051 hE ih) _ _ _ _ _
                                                  · refine rhF.iconst (pc := 766) (v := 0) dL_law_766 (by decide) ?_
                                                    exact rhF.zret (pc := 767) dL_law_767 rfl rfl rfl
                                                · skip
                                                  refine rhF.ite (fun h177 => ?_) (fun h177 => ?_)
                                                  · refine rhF.tsIn (pc := 33) 768 22 dL_law_33 (by rw [h177]; decide) (by decide) rfl (by decide) ?_
                                                    refine rhF.aload_n (pc := 768) dL_law_768 1 rfl ?_
                                                    refine rhF.aldT (pc := 769) dL_law_769 0 rfl ?_
                                                    refine rhF.iload_n (pc := 770) dL_law_770 3 rfl ?_
                                                    refine rhF.iconst (pc := 771) (v := 1) dL_law_771 (by decide) ?_
                                                    refine rhF.iadd (pc := 772) dL_law_772 ?_
                                                    refine rhF.ck (fun h178 => ?_)
                                                    refine rhF.sld (pc := 773) hE dL_law_773 h178 ?_
                                                    refine rhF.ck (fun h179 => ?_)
                                                    refine rhF.callV (pc := 774) (ci := 11) (embc := rhe0I _ _) [rhI _] dL_law_774 ml_L_106 mv_X11_lies ⟨_, rfl, rfl⟩ h179 (c_X11_lies _ _ _ _ _) (by decide) (by decide) rfl (Nat.le_of_ble_eq_true rfl) (fun r180 _ => ?_)
                                                    refine rhF.aload_n (pc := 777) dL_law_777 2 rfl ?_
                                                    refine rhF.aldT (pc := 778) dL_law_778 0 rfl ?_
                                                    refine rhF.iload_n (pc := 779) dL_law_779 3 rfl ?_
                                                    refine rhF.iconst (pc := 780) (v := 1) dL_law_780 (by decide) ?_
                                                    refine rhF.iadd (pc := 781) dL_law_781 ?_
                                                    refine rhF.sld (pc := 782) hE dL_law_782 h178 ?_
                                                    refine rhF.ck (fun h181 => ?_)
                                                    refine rhF.callV (pc := 783) (ci := 12) (embc := rhe0I _ _) [rhI _] dL_law_783 ml_L_109 mv_X12_lies ⟨_, rfl, rfl⟩ h181 (c_X12_lies _ _ _ _ _) (by decide) (by decide) rfl (Nat.le_of_ble_eq_true rfl) (fun r182 _ => ?_)
                                                    refine rhF.icmp_eq (pc := 786) 1051 dL_law_786 (by decide) (fun h183 => ?_) (fun h183 => ?_)
                                                    · exact (b_L_law_1051 hE ih) _ _ _ _ _
                                                    · refine rhF.iconst (pc := 789) (v := 0) dL_law_789 (by decide) ?_
                                                      exact rhF.zret (pc := 790) dL_law_790 rfl rfl rfl
                                                  · skip
                                                    refine rhF.ite (fun h184 => ?_) (fun h184 => ?_)
                                                    · refine rhF.tsIn (pc := 33) 791 23 dL_law_33 (by rw [h184]; decide) (by decide) rfl (by decide) ?_
                                                      refine rhF.aload_n (pc := 791) dL_law_791 1 rfl ?_
                                                      refine rhF.aldT (pc := 792) dL_law_792 0 rfl ?_
                                                      refine rhF.iload_n (pc := 793) dL_law_793 3 rfl ?_
                                                      refine rhF.iconst (pc := 794) (v := 1) dL_law_794 (by decide) ?_
                                                      refine rhF.iadd (pc := 795) dL_law_795 ?_
                                                      refine rhF.ck (fun h185 => ?_)
                                                      refine rhF.sld (pc := 796) hE dL_law_796 h185 ?_
                                                      refine rhF.aldT (pc := 797) dL_law_797 0 rfl ?_
                                                      refine rhF.iload_n (pc := 798) dL_law_798 3 rfl ?_
                                                      refine rhF.iconst (pc := 799) (v := 2) dL_law_799 (by decide) ?_
                                                      refine rhF.iadd (pc := 800) dL_law_800 ?_
                                                      refine rhF.ck (fun h186 => ?_)
                                                      refine rhF.sld (pc := 801) hE dL_law_801 h186 ?_
                                                      refine rhF.aldT (pc := 802) dL_law_802 0 rfl ?_
                                                      refine rhF.iload_n (pc := 803) dL_law_803 3 rfl ?_
                                                      refine rhF.iconst (pc := 804) (v := 3) dL_law_804 (by decide) ?_
                                                      refine rhF.iadd (pc := 805) dL_law_805 ?_
                                                      refine rhF.ck (fun h187 => ?_)
                                                      refine rhF.sld (pc := 806) hE dL_law_806 h187 ?_
                                                      refine rhF.aldT (pc := 807) dL_law_807 0 rfl ?_
                                                      refine rhF.iload_n (pc := 808) dL_law_808 3 rfl ?_
                                                      refine rhF.iconst (pc := 809) (v := 4) dL_law_809 (by decide) ?_
                                                      refine rhF.iadd (pc := 810) dL_law_810 ?_
                                                      refine rhF.ck (fun h188 => ?_)
                                                      refine rhF.sld (pc := 811) hE dL_law_811 h188 ?_
                                                      refine rhF.if_eq (pc := 812) 819 dL_law_812 (by decide) (fun h189 => ?_) (fun h189 => ?_)
                                                      · refine rhF.iconst (pc := 819) (v := 0) dL_law_819 (by decide) ?_
                                                        exact (b_L_law_820 hE (b_L_law_1051 hE ih)) _ _ _ _ _ _ _ _ _ _
                                                      · refine rhF.iconst (pc := 815) (v := 1) dL_law_815 (by decide) ?_
                                                        refine rhF.goto (pc := 816) 820 dL_law_816 (by decide) ?_
                                                        exact (b_L_law_820 hE (b_L_law_1051 hE ih)) _ _ _ _ _ _ _ _ _ _
                                                    · skip
                                                      refine rhF.ite (fun h200 => ?_) (fun h200 => ?_)
                                                      · refine rhF.tsIn (pc := 33) 860 24 dL_law_33 (by rw [h200]; decide) (by decide) rfl (by decide) ?_
                                                        refine rhF.aload_n (pc := 860) dL_law_860 1 rfl ?_
                                                        refine rhF.aldT (pc := 861) dL_law_861 0 rfl ?_
                                                        refine rhF.iload_n (pc := 862) dL_law_862 3 rfl ?_
                                                        refine rhF.iconst (pc := 863) (v := 1) dL_law_863 (by decide) ?_
                                                        refine rhF.iadd (pc := 864) dL_law_864 ?_
                                                        refine rhF.ck (fun h201 => ?_)
                                                        refine rhF.sld (pc := 865) hE dL_law_865 h201 ?_
                                                        refine rhF.ck (fun h202 => ?_)
                                                        refine rhF.callV (pc := 866) (ci := 11) (embc := rhe1I _) [rhI _] dL_law_866 ml_L_115 mv_X11_untell ⟨_, rfl, rfl⟩ h202 (c_X11_untell _ _ _ _ _) (by decide) (by decide) rfl (Nat.le_of_ble_eq_true rfl) (fun r203 _ => ?_)
                                                        refine rhF.aload_n (pc := 869) dL_law_869 2 rfl ?_
                                                        refine rhF.aldT (pc := 870) dL_law_870 0 rfl ?_
                                                        refine rhF.iload_n (pc := 871) dL_law_871 3 rfl ?_
                                                        refine rhF.iconst (pc := 872) (v := 1) dL_law_872 (by decide) ?_
                                                        refine rhF.iadd (pc := 873) dL_law_873 ?_
                                                        refine rhF.sld (pc := 874) hE dL_law_874 h201 ?_
                                                        refine rhF.ck (fun h204 => ?_)
                                                        refine rhF.callV (pc := 875) (ci := 12) (embc := rhe1I _) [rhI _] dL_law_875 ml_L_119 mv_X12_untell ⟨_, rfl, rfl⟩ h204 (c_X12_untell _ _ _ _ _) (by decide) (by decide) rfl (Nat.le_of_ble_eq_true rfl) (fun r205 _ => ?_)
                                                        refine rhF.icmp_eq (pc := 878) 1051 dL_law_878 (by decide) (fun h206 => ?_) (fun h206 => ?_)
                                                        · exact (b_L_law_1051 hE ih) _ _ _ _ _
                                                        · refine rhF.iconst (pc := 881) (v := 0) dL_law_881 (by decide) ?_
                                                          exact rhF.zret (pc := 882) dL_law_882 rfl rfl rfl
                                                      · skip
                                                        refine rhF.ite (fun h207 => ?_) (fun h207 => ?_)
                                                        · refine rhF.tsIn (pc := 33) 883 25 dL_law_33 (by rw [h207]; decide) (by decide) rfl (by decide) ?_
                                                          refine rhF.aload_n (pc := 883) dL_law_883 1 rfl ?_
                                                          refine rhF.aldT (pc := 884) dL_law_884 0 rfl ?_
                                                          refine rhF.iload_n (pc := 885) dL_law_885 3 rfl ?_
                                                          refine rhF.iconst (pc := 886) (v := 1) dL_law_886 (by decide) ?_
                                                          refine rhF.iadd (pc := 887) dL_law_887 ?_
                                                          refine rhF.ck (fun h208 => ?_)
                                                          refine rhF.sld (pc := 888) hE dL_law_888 h208 ?_
                                                          refine rhF.ck (fun h209 => ?_)
                                                          refine rhF.callV (pc := 889) (ci := 11) (embc := rhe1I _) [rhI _] dL_law_889 ml_L_120 mv_X11_later ⟨_, rfl, rfl⟩ h209 (c_X11_later _ _ _ _ _) (by decide) (by decide) rfl (Nat.le_of_ble_eq_true rfl) (fun r210 _ => ?_)
                                                          refine rhF.aload_n (pc := 892) dL_law_892 2 rfl ?_
                                                          refine rhF.aldT (pc := 893) dL_law_893 0 rfl ?_
                                                          refine rhF.iload_n (pc := 894) dL_law_894 3 rfl ?_
                                                          refine rhF.iconst (pc := 895) (v := 1) dL_law_895 (by decide) ?_
                                                          refine rhF.iadd (pc := 896) dL_law_896 ?_
                                                          refine rhF.sld (pc := 897) hE dL_law_897 h208 ?_
                                                          refine rhF.ck (fun h211 => ?_)
                                                          refine rhF.callV (pc := 898) (ci := 12) (embc := rhe1I _) [rhI _] dL_law_898 ml_L_123 mv_X12_later ⟨_, rfl, rfl⟩ h211 (c_X12_later _ _ _ _ _) (by decide) (by decide) rfl (Nat.le_of_ble_eq_true rfl) (fun r212 _ => ?_)
                                                          refine rhF.icmp_eq (pc := 901) 1051 dL_law_901 (by decide) (fun h213 => ?_) (fun h213 => ?_)
                                                          · exact (b_L_law_1051 hE ih) _ _ _ _ _
                                                          · refine rhF.iconst (pc := 904) (v := 0) dL_law_904 (by decide) ?_
                                                            exact rhF.zret (pc := 905) dL_law_905 rfl rfl rfl
                                                        · skip
                                                          refine rhF.ite (fun h214 => ?_) (fun h214 => ?_)
                                                          · refine rhF.tsIn (pc := 33) 906 26 dL_law_33 (by rw [h214]; decide) (by decide) rfl (by decide) ?_
                                                            refine rhF.aload_n (pc := 906) dL_law_906 1 rfl ?_
                                                            refine rhF.aldT (pc := 907) dL_law_907 0 rfl ?_
                                                            refine rhF.iload_n (pc := 908) dL_law_908 3 rfl ?_
                                                            refine rhF.iconst (pc := 909) (v := 1) dL_law_909 (by decide) ?_
                                                            refine rhF.iadd (pc := 910) dL_law_910 ?_
                                                            refine rhF.ck (fun h215 => ?_)
                                                            refine rhF.sld (pc := 911) hE dL_law_911 h215 ?_
                                                            refine rhF.aldT (pc := 912) dL_law_912 0 rfl ?_
                                                            refine rhF.iload_n (pc := 913) dL_law_913 3 rfl ?_
                                                            refine rhF.iconst (pc := 914) (v := 2) dL_law_914 (by decide) ?_
                                                            refine rhF.iadd (pc := 915) dL_law_915 ?_
                                                            refine rhF.ck (fun h216 => ?_)
                                                            refine rhF.sld (pc := 916) hE dL_law_916 h216 ?_
                                                            refine rhF.ck (fun h217 => ?_)
                                                            refine rhF.callV (pc := 917) (ci := 11) (embc := rhe1I _) [rhI _, rhI _] dL_law_917 ml_L_124 mv_X11_fits ⟨_, rfl, rfl⟩ h217 (c_X11_fits _ _ _ _ _ _) (by decide) (by decide) rfl (Nat.le_of_ble_eq_true rfl) (fun r218 _ => ?_)
                                                            refine rhF.aload_n (pc := 920) dL_law_920 2 rfl ?_
                                                            refine rhF.aldT (pc := 921) dL_law_921 0 rfl ?_
                                                            refine rhF.iload_n (pc := 922) dL_law_922 3 rfl ?_
                                                            refine rhF.iconst (pc := 923) (v := 1) dL_law_923 (by decide) ?_
                                                            refine rhF.iadd (pc := 924) dL_law_924 ?_
                                                            refine rhF.sld (pc := 925) hE dL_law_925 h215 ?_
                                                            refine rhF.aldT (pc := 926) dL_law_926 0 rfl ?_
                                                            refine rhF.iload_n (pc := 927) dL_law_927 3 rfl ?_
                                                            refine rhF.iconst (pc := 928) (v := 2) dL_law_928 (by decide) ?_
                                                            refine rhF.iadd (pc := 929) dL_law_929 ?_
                                                            refine rhF.sld (pc := 930) hE dL_law_930 h216 ?_
                                                            refine rhF.ck (fun h219 => ?_)
                                                            refine rhF.callV (pc := 931) (ci := 12) (embc := rhe1I _) [rhI _, rhI _] dL_law_931 ml_L_127 mv_X12_fits ⟨_, rfl, rfl⟩ h219 (c_X12_fits _ _ _ _ _ _) (by decide) (by decide) rfl (Nat.le_of_ble_eq_true rfl) (fun r220 _ => ?_)
                                                            refine rhF.icmp_eq (pc := 934) 1051 dL_law_934 (by decide) (fun h221 => ?_) (fun h221 => ?_)
                                                            · exact (b_L_law_1051 hE ih) _ _ _ _ _
                                                            · refine rhF.iconst (pc := 937) (v := 0) dL_law_937 (by decide) ?_
                                                              exact rhF.zret (pc := 938) dL_law_938 rfl rfl rfl
                                                          · skip
                                                            refine rhF.ite (fun h222 => ?_) (fun h222 => ?_)
                                                            · refine rhF.tsIn (pc := 33) 939 27 dL_law_33 (by rw [h222]; decide) (by decide) rfl (by decide) ?_
                                                              refine rhF.aload_n (pc := 939) dL_law_939 1 rfl ?_
                                                              refine rhF.aldT (pc := 940) dL_law_940 0 rfl ?_
                                                              refine rhF.iload_n (pc := 941) dL_law_941 3 rfl ?_
                                                              refine rhF.iconst (pc := 942) (v := 1) dL_law_942 (by decide) ?_
                                                              refine rhF.iadd (pc := 943) dL_law_943 ?_
                                                              refine rhF.ck (fun h223 => ?_)
                                                              refine rhF.sld (pc := 944) hE dL_law_944 h223 ?_
                                                              refine rhF.aldT (pc := 945) dL_law_945 0 rfl ?_
                                                              refine rhF.iload_n (pc := 946) dL_law_946 3 rfl ?_
                                                              refine rhF.iconst (pc := 947) (v := 2) dL_law_947 (by decide) ?_
                                                              refine rhF.iadd (pc := 948) dL_law_948 ?_
                                                              refine rhF.ck (fun h224 => ?_)
                                                              refine rhF.sld (pc := 949) hE dL_law_949 h224 ?_
                                                              refine rhF.aldT (pc := 950) dL_law_950 0 rfl ?_
                                                              refine rhF.iload_n (pc := 951) dL_law_951 3 rfl ?_
                                                              refine rhF.iconst (pc := 952) (v := 3) dL_law_952 (by decide) ?_
                                                              refine rhF.iadd (pc := 953) dL_law_953 ?_
                                                              refine rhF.ck (fun h225 => ?_)
                                                              refine rhF.sld (pc := 954) hE dL_law_954 h225 ?_
                                                              refine rhF.ck (fun h226 => ?_)
                                                              refine rhF.callV (pc := 955) (ci := 11) (embc := rhe1I _) [rhI _, rhI _, rhI _] dL_law_955 ml_L_128 mv_X11_can ⟨_, rfl, rfl⟩ h226 (c_X11_can _ _ _ _ _ _ _) (by decide) (by decide) rfl (Nat.le_of_ble_eq_true rfl) (fun r227 _ => ?_)
                                                              refine rhF.aload_n (pc := 958) dL_law_958 2 rfl ?_
                                                              refine rhF.aldT (pc := 959) dL_law_959 0 rfl ?_
                                                              refine rhF.iload_n (pc := 960) dL_law_960 3 rfl ?_
                                                              refine rhF.iconst (pc := 961) (v := 1) dL_law_961 (by decide) ?_
                                                              refine rhF.iadd (pc := 962) dL_law_962 ?_
                                                              refine rhF.sld (pc := 963) hE dL_law_963 h223 ?_
                                                              refine rhF.aldT (pc := 964) dL_law_964 0 rfl ?_
                                                              refine rhF.iload_n (pc := 965) dL_law_965 3 rfl ?_
                                                              refine rhF.iconst (pc := 966) (v := 2) dL_law_966 (by decide) ?_
                                                              refine rhF.iadd (pc := 967) dL_law_967 ?_
                                                              refine rhF.sld (pc := 968) hE dL_law_968 h224 ?_
                                                              refine rhF.aldT (pc := 969) dL_law_969 0 rfl ?_
                                                              refine rhF.iload_n (pc := 970) dL_law_970 3 rfl ?_
                                                              refine rhF.iconst (pc := 971) (v := 3) dL_law_971 (by decide) ?_
                                                              refine rhF.iadd (pc := 972) dL_law_972 ?_
                                                              refine rhF.sld (pc := 973) hE dL_law_973 h225 ?_
                                                              refine rhF.ck (fun h228 => ?_)
                                                              refine rhF.callV (pc := 974) (ci := 12) (embc := rhe1I _) [rhI _, rhI _, rhI _] dL_law_974 ml_L_131 mv_X12_can ⟨_, rfl, rfl⟩ h228 (c_X12_can _ _ _ _ _ _ _) (by decide) (by decide) rfl (Nat.le_of_ble_eq_true rfl) (fun r229 _ => ?_)
                                                              refine rhF.icmp_eq (pc := 977) 1051 dL_law_977 (by decide) (fun h230 => ?_) (fun h230 => ?_)
                                                              · exact (b_L_law_1051 hE ih) _ _ _ _ _
                                                              · refine rhF.iconst (pc := 980) (v := 0) dL_law_980 (by decide) ?_
                                                                exact rhF.zret (pc := 981) dL_law_981 rfl rfl rfl
                                                            · skip
                                                              refine rhF.ite (fun h231 => ?_) (fun h231 => ?_)
                                                              · refine rhF.tsIn (pc := 33) 982 28 dL_law_33 (by rw [h231]; decide) (by decide) rfl (by decide) ?_
                                                                refine rhF.aload_n (pc := 982) dL_law_982 1 rfl ?_
                                                                refine rhF.aldT (pc := 983) dL_law_983 0 rfl ?_
                                                                refine rhF.iload_n (pc := 984) dL_law_984 3 rfl ?_
                                                                refine rhF.iconst (pc := 985) (v := 1) dL_law_985 (by decide) ?_
                                                                refine rhF.iadd (pc := 986) dL_law_986 ?_
                                                                refine rhF.ck (fun h232 => ?_)
                                                                refine rhF.sld (pc := 987) hE dL_law_987 h232 ?_
                                                                refine rhF.ck (fun h233 => ?_)
                                                                refine rhF.callV (pc := 988) (ci := 11) (embc := rhe2I) [rhI _] dL_law_988 ml_L_132 mv_X11_image ⟨_, rfl, rfl⟩ h233 (c_X11_image _ _ _ _ _) (by decide) (by decide) rfl (Nat.le_of_ble_eq_true rfl) (fun r234 _ => ?_)
                                                                refine rhF.aload_n (pc := 991) dL_law_991 2 rfl ?_
                                                                refine rhF.aldT (pc := 992) dL_law_992 0 rfl ?_
                                                                refine rhF.iload_n (pc := 993) dL_law_993 3 rfl ?_
                                                                refine rhF.iconst (pc := 994) (v := 1) dL_law_994 (by decide) ?_
                                                                refine rhF.iadd (pc := 995) dL_law_995 ?_
                                                                refine rhF.sld (pc := 996) hE dL_law_996 h232 ?_
                                                                refine rhF.ck (fun h235 => ?_)
                                                                refine rhF.callV (pc := 997) (ci := 12) (embc := rhe1I _) [rhI _] dL_law_997 ml_L_135 mv_X12_image ⟨_, rfl, rfl⟩ h235 (c_X12_image _ _ _ _ _) (by decide) (by decide) rfl (Nat.le_of_ble_eq_true rfl) (fun r236 _ => ?_)
                                                                refine rhF.icmp_eq (pc := 1000) 1051 dL_law_1000 (by decide) (fun h237 => ?_) (fun h237 => ?_)
                                                                · exact (b_L_law_1051 hE ih) _ _ _ _ _
                                                                · refine rhF.iconst (pc := 1003) (v := 0) dL_law_1003 (by decide) ?_
                                                                  exact rhF.zret (pc := 1004) dL_law_1004 rfl rfl rfl
                                                              · skip
                                                                refine rhF.ite (fun h238 => ?_) (fun h238 => ?_)
                                                                · refine rhF.tsIn (pc := 33) 1005 29 dL_law_33 (by rw [h238]; decide) (by decide) rfl (by decide) ?_
                                                                  refine rhF.aload_n (pc := 1005) dL_law_1005 1 rfl ?_
                                                                  refine rhF.aldT (pc := 1006) dL_law_1006 0 rfl ?_
                                                                  refine rhF.iload_n (pc := 1007) dL_law_1007 3 rfl ?_
                                                                  refine rhF.iconst (pc := 1008) (v := 1) dL_law_1008 (by decide) ?_
                                                                  refine rhF.iadd (pc := 1009) dL_law_1009 ?_
                                                                  refine rhF.ck (fun h239 => ?_)
                                                                  refine rhF.sld (pc := 1010) hE dL_law_1010 h239 ?_
                                                                  refine rhF.ck (fun h240 => ?_)
                                                                  refine rhF.callV (pc := 1011) (ci := 11) (embc := rhe2I) [rhI _] dL_law_1011 ml_L_136 mv_X11_back ⟨_, rfl, rfl⟩ h240 (c_X11_back _ _ _ _ _) (by decide) (by decide) rfl (Nat.le_of_ble_eq_true rfl) (fun r241 _ => ?_)
                                                                  refine rhF.aload_n (pc := 1014) dL_law_1014 2 rfl ?_
                                                                  refine rhF.aldT (pc := 1015) dL_law_1015 0 rfl ?_
                                                                  refine rhF.iload_n (pc := 1016) dL_law_1016 3 rfl ?_
                                                                  refine rhF.iconst (pc := 1017) (v := 1) dL_law_1017 (by decide) ?_
                                                                  refine rhF.iadd (pc := 1018) dL_law_1018 ?_
                                                                  refine rhF.sld (pc := 1019) hE dL_law_1019 h239 ?_
                                                                  refine rhF.ck (fun h242 => ?_)
                                                                  refine rhF.callV (pc := 1020) (ci := 12) (embc := rhe1I _) [rhI _] dL_law_1020 ml_L_139 mv_X12_back ⟨_, rfl, rfl⟩ h242 (c_X12_back _ _ _ _ _) (by decide) (by decide) rfl (Nat.le_of_ble_eq_true rfl) (fun r243 _ => ?_)
                                                                  refine rhF.icmp_eq (pc := 1023) 1051 dL_law_1023 (by decide) (fun h244 => ?_) (fun h244 => ?_)
                                                                  · exact (b_L_law_1051 hE ih) _ _ _ _ _
                                                                  · refine rhF.iconst (pc := 1026) (v := 0) dL_law_1026 (by decide) ?_
                                                                    exact rhF.zret (pc := 1027) dL_law_1027 rfl rfl rfl
                                                                · skip
                                                                  refine rhF.ite (fun h245 => ?_) (fun h245 => ?_)
                                                                  · refine rhF.tsIn (pc := 33) 1028 30 dL_law_33 (by rw [h245]; decide) (by decide) rfl (by decide) ?_
                                                                    refine rhF.aload_n (pc := 1028) dL_law_1028 1 rfl ?_
                                                                    refine rhF.aldT (pc := 1029) dL_law_1029 0 rfl ?_
                                                                    refine rhF.iload_n (pc := 1030) dL_law_1030 3 rfl ?_
                                                                    refine rhF.iconst (pc := 1031) (v := 1) dL_law_1031 (by decide) ?_
                                                                    refine rhF.iadd (pc := 1032) dL_law_1032 ?_
                                                                    refine rhF.ck (fun h246 => ?_)
                                                                    refine rhF.sld (pc := 1033) hE dL_law_1033 h246 ?_
                                                                    refine rhF.ck (fun h247 => ?_)
                                                                    refine rhF.callV (pc := 1034) (ci := 11) (embc := rhe0I _ _) [rhI _] dL_law_1034 ml_L_140 mv_X11_about ⟨_, rfl, rfl⟩ h247 (c_X11_about _ _ _ _ _) (by decide) (by decide) rfl (Nat.le_of_ble_eq_true rfl) (fun r248 _ => ?_)
                                                                    refine rhF.aload_n (pc := 1037) dL_law_1037 2 rfl ?_
                                                                    refine rhF.aldT (pc := 1038) dL_law_1038 0 rfl ?_
                                                                    refine rhF.iload_n (pc := 1039) dL_law_1039 3 rfl ?_
                                                                    refine rhF.iconst (pc := 1040) (v := 1) dL_law_1040 (by decide) ?_
                                                                    refine rhF.iadd (pc := 1041) dL_law_1041 ?_
                                                                    refine rhF.sld (pc := 1042) hE dL_law_1042 h246 ?_
                                                                    refine rhF.ck (fun h249 => ?_)
                                                                    refine rhF.callV (pc := 1043) (ci := 12) (embc := rhe0I _ _) [rhI _] dL_law_1043 ml_L_143 mv_X12_about ⟨_, rfl, rfl⟩ h249 (c_X12_about _ _ _ _ _) (by decide) (by decide) rfl (Nat.le_of_ble_eq_true rfl) (fun r250 _ => ?_)
                                                                    refine rhF.icmp_eq (pc := 1046) 1051 dL_law_1046 (by decide) (fun h251 => ?_) (fun h251 => ?_)
                                                                    · exact (b_L_law_1051 hE ih) _ _ _ _ _
                                                                    · refine rhF.iconst (pc := 1049) (v := 0) dL_law_1049 (by decide) ?_
                                                                      exact rhF.zret (pc := 1050) dL_law_1050 rfl rfl rfl
                                                                  · skip
                                                                    have zh13 := rhne h13 (n := 0) (by decide)
                                                                    have zh25 := rhne h25 (n := 1) (by decide)
                                                                    have zh32 := rhne h32 (n := 2) (by decide)
                                                                    have zh38 := rhne h38 (n := 3) (by decide)
                                                                    have zh45 := rhne h45 (n := 4) (by decide)
                                                                    have zh53 := rhne h53 (n := 5) (by decide)
                                                                    have zh61 := rhne h61 (n := 6) (by decide)
                                                                    have zh68 := rhne h68 (n := 7) (by decide)
                                                                    have zh77 := rhne h77 (n := 8) (by decide)
                                                                    have zh86 := rhne h86 (n := 9) (by decide)
                                                                    have zh95 := rhne h95 (n := 10) (by decide)
                                                                    have zh102 := rhne h102 (n := 11) (by decide)
                                                                    have zh108 := rhne h108 (n := 12) (by decide)
                                                                    have zh117 := rhne h117 (n := 13) (by decide)
                                                                    have zh123 := rhne h123 (n := 14) (by decide)
                                                                    have zh130 := rhne h130 (n := 15) (by decide)
                                                                    have zh137 := rhne h137 (n := 16) (by decide)
                                                                    have zh143 := rhne h143 (n := 17) (by decide)
                                                                    have zh149 := rhne h149 (n := 18) (by decide)
                                                                    have zh155 := rhne h155 (n := 19) (by decide)
                                                                    have zh162 := rhne h162 (n := 20) (by decide)
                                                                    have zh169 := rhne h169 (n := 21) (by decide)
                                                                    have zh177 := rhne h177 (n := 22) (by decide)
                                                                    have zh184 := rhne h184 (n := 23) (by decide)
                                                                    have zh200 := rhne h200 (n := 24) (by decide)
                                                                    have zh207 := rhne h207 (n := 25) (by decide)
                                                                    have zh214 := rhne h214 (n := 26) (by decide)
                                                                    have zh222 := rhne h222 (n := 27) (by decide)
                                                                    have zh231 := rhne h231 (n := 28) (by decide)
                                                                    have zh238 := rhne h238 (n := 29) (by decide)
                                                                    have zh245 := rhne h245 (n := 30) (by decide)
                                                                    refine rhF.tsOut (pc := 33) 1051 dL_law_33 (by omega) (by decide) ?_
                                                                    exact (b_L_law_1051 hE ih) _ _ _ _ _
set_option maxHeartbeats 4000000 in
set_option maxRecDepth 100000 in
theorem b_L_law {E : rhE} {Γ0 : rhG} {Lx : Nat} {xs : Nat → Int32} (hE : E.2.2.2.2 = (Lx, xs)) : ∀ (Γ : rhG) (M : rhM), rhF E 72 4 yL_law cL_law (some .boolean) Γ0 rhe2I (f_L_law Lx xs Γ M) 0 [(0, rhT 5)] [] Γ M := by
  intro Γ M
  rw [f_L_law]
  refine rhF.new (pc := 0) (ci := 11) dL_law_0 nw_L_7 ?_
  refine rhF.dupr (pc := 3) dL_law_3 ?_
  refine rhF.ck (fun h3 => ?_)
  refine rhF.callI (pc := 4) (embc := rhe2U) [] dL_law_4 ml_L_9 mi_X11_init (fun z => absurd (h3.symm.trans z) (by decide)) (c_X11_init _ _ _ _) (by decide) (by decide) rfl (Nat.le_of_ble_eq_true rfl) (fun r4 _ => ?_)
  refine rhF.astore_n (pc := 7) (L' := [(1, rhR _), (0, rhT _)]) dL_law_7 (by decide) rfl ?_
  refine rhF.new (pc := 8) (ci := 12) dL_law_8 nw_L_10 ?_
  refine rhF.dupr (pc := 11) dL_law_11 ?_
  refine rhF.ck (fun h8 => ?_)
  refine rhF.callI (pc := 12) (embc := rhe2U) [] dL_law_12 ml_L_12 mi_X12_init (fun z => absurd (h8.symm.trans z) (by decide)) (c_X12_init _ _ _ _) (by decide) (by decide) rfl (Nat.le_of_ble_eq_true rfl) (fun r9 _ => ?_)
  refine rhF.astore_n (pc := 15) (L' := [(2, rhR _), (1, rhR _), (0, rhT _)]) dL_law_15 (by decide) rfl ?_
  refine rhF.iconst (pc := 16) (v := 0) dL_law_16 (by decide) ?_
  refine rhF.istore_n (pc := 17) (L' := [(3, rhI _), (2, rhR _), (1, rhR _), (0, rhT _)]) dL_law_17 (by decide) rfl ?_
  refine rhF.sub [3, 2, 1, 0] rfl ?_
  exact (b_L_law_18 hE rhFU) _ _ _ _ _
