set_option maxRecDepth 20000 in
theorem wsL_law_in : ∀ w ∈ wsL_law, w ∈ lw_tbl := fun w h => (goodIn_p wsL_law [150, 153, 158, 256, 283, 299, 318, 335, 347, 385, 414, 1030, 469, 474, 479, 482, 1172, 1176, 486, 490, 494, 498, 501, 505, 509, 513, 517, 521, 527, 524, 531, 535, 539, 543, 549, 553, 557, 561, 565, 571, 575, 579, 583, 1182, 1187, 1191, 1195, 1199, 1203, 1210, 1214, 1218, 1222, 1226, 1230, 1234, 587, 1238, 591, 595, 599, 603, 607, 610, 1242, 1246, 1249, 1253, 614, 618, 623, 1257, 1261, 628, 632, 636, 641, 645, 649, 1266, 1270, 1274, 653, 657, 663, 667, 671, 674, 678, 1278, 1282, 1286, 1290, 682, 686, 1294, 690, 694, 700, 706, 1299, 1303, 1307, 1312, 711, 715, 719, 723, 726, 729, 734, 739, 744, 748, 1316, 1320, 1325, 1329, 1333, 1337, 1341, 1344, 752, 756, 760, 1348, 1352, 1356, 765, 770, 1360, 775, 779, 1364, 783, 787, 792, 1368, 1372, 1376, 800, 804, 1384, 809, 813, 817, 823, 827, 830, 838, 842, 846, 851, 857, 862, 1389, 1393, 1397, 1401, 1405, 1409, 1413, 1417, 1421, 866, 870, 875, 1425, 1429, 880, 885, 1433, 889, 893, 899, 902, 909, 917, 1438, 1442, 1446, 1450, 923, 927, 1454, 1459, 931, 935, 1463, 939, 1467, 945, 949, 953, 958, 1473, 1477, 1481, 962, 1485, 967, 971, 1489, 976, 980, 987, 1493, 1497, 1000, 1501, 1004, 1505, 1008, 1012, 1509, 1019, 1023, 1513] (by decide +kernel) (by decide +kernel) w h).1
theorem inX0 : ∀ w ∈ wsX00, w ∈ lw_tbl := fun w h => wsL_law_in w (inlX0 w h)
theorem inX1 : ∀ w ∈ wsX10, w ∈ lw_tbl := fun w h => wsL_law_in w (inlX1 w h)
theorem inX2 : ∀ w ∈ wsX20, w ∈ lw_tbl := fun w h => wsL_law_in w (inlX2 w h)
theorem inX3 : ∀ w ∈ wsX30, w ∈ lw_tbl := fun w h => wsL_law_in w (inlX3 w h)
theorem inX4 : ∀ w ∈ wsX40, w ∈ lw_tbl := fun w h => wsL_law_in w (inlX4 w h)
theorem inX5 : ∀ w ∈ wsX50, w ∈ lw_tbl := fun w h => wsL_law_in w (inlX5 w h)
theorem inX6 : ∀ w ∈ wsX60, w ∈ lw_tbl := fun w h => wsL_law_in w (inlX6 w h)
theorem inX7 : ∀ w ∈ wsX70, w ∈ lw_tbl := fun w h => wsL_law_in w (inlX7 w h)
theorem inX8 : ∀ w ∈ wsX80, w ∈ lw_tbl := fun w h => wsL_law_in w (inlX8 w h)
theorem inX9 : ∀ w ∈ wsX90, w ∈ lw_tbl := fun w h => wsL_law_in w (inlX9 w h)
theorem inX10 : ∀ w ∈ wsX100, w ∈ lw_tbl := fun w h => wsL_law_in w (inlX10 w h)
