set_option maxRecDepth 100000 in
theorem mv_mw64 : mv_mwP mv_m64 := ⟨⟨1277, rfl⟩, ⟨128, by decide +kernel⟩, ⟨1276, by decide +kernel⟩, fun _ => ⟨40, by decide +kernel⟩, by decide +kernel⟩
set_option maxRecDepth 100000 in
theorem mv_mw65 : mv_mwP mv_m65 := ⟨⟨1268, rfl⟩, ⟨128, by decide +kernel⟩, ⟨1267, by decide +kernel⟩, fun _ => ⟨38, by decide +kernel⟩, by decide +kernel⟩
set_option maxRecDepth 100000 in
theorem mv_mw66 : mv_mwP mv_m66 := ⟨⟨1272, rfl⟩, ⟨128, by decide +kernel⟩, ⟨1271, by decide +kernel⟩, fun _ => ⟨39, by decide +kernel⟩, by decide +kernel⟩
set_option maxRecDepth 100000 in
theorem mv_mw67 : mv_mwP mv_m67 := ⟨⟨1281, rfl⟩, ⟨128, by decide +kernel⟩, ⟨1280, by decide +kernel⟩, fun _ => ⟨41, by decide +kernel⟩, by decide +kernel⟩
set_option maxRecDepth 100000 in
theorem mv_mw68 : mv_mwP mv_m68 := ⟨⟨1285, rfl⟩, ⟨128, by decide +kernel⟩, ⟨1283, by decide +kernel⟩, fun _ => ⟨1284, by decide +kernel⟩, by decide +kernel⟩
set_option maxRecDepth 100000 in
theorem mv_mw69 : mv_mwP mv_m69 := ⟨⟨663, rfl⟩, ⟨131, by decide +kernel⟩, ⟨662, by decide +kernel⟩, fun h => absurd h (by decide), by decide +kernel⟩
set_option maxRecDepth 100000 in
theorem mv_mw70 : mv_mwP mv_m70 := ⟨⟨1183, rfl⟩, ⟨131, by decide +kernel⟩, ⟨1181, by decide +kernel⟩, fun _ => ⟨1182, by decide +kernel⟩, by decide +kernel⟩
set_option maxRecDepth 100000 in
theorem mv_mw71 : mv_mwP mv_m71 := ⟨⟨241, rfl⟩, ⟨121, by decide +kernel⟩, ⟨240, by decide +kernel⟩, fun h => absurd h (by decide), by decide +kernel⟩
set_option maxRecDepth 100000 in
theorem mv_mw72 : mv_mwP mv_m72 := ⟨⟨887, rfl⟩, ⟨121, by decide +kernel⟩, ⟨885, by decide +kernel⟩, fun _ => ⟨886, by decide +kernel⟩, by decide +kernel⟩
set_option maxRecDepth 100000 in
theorem mv_mw73 : mv_mwP mv_m73 := ⟨⟨895, rfl⟩, ⟨121, by decide +kernel⟩, ⟨894, by decide +kernel⟩, fun _ => ⟨9, by decide +kernel⟩, by decide +kernel⟩
set_option maxRecDepth 100000 in
theorem mv_mw74 : mv_mwP mv_m74 := ⟨⟨921, rfl⟩, ⟨121, by decide +kernel⟩, ⟨920, by decide +kernel⟩, fun _ => ⟨10, by decide +kernel⟩, by decide +kernel⟩
set_option maxRecDepth 100000 in
theorem mv_mw75 : mv_mwP mv_m75 := ⟨⟨1242, rfl⟩, ⟨121, by decide +kernel⟩, ⟨1240, by decide +kernel⟩, fun _ => ⟨1241, by decide +kernel⟩, by decide +kernel⟩
set_option maxRecDepth 100000 in
theorem mv_mw76 : mv_mwP mv_m76 := ⟨⟨1050, rfl⟩, ⟨121, by decide +kernel⟩, ⟨1049, by decide +kernel⟩, fun _ => ⟨24, by decide +kernel⟩, by decide +kernel⟩
set_option maxRecDepth 100000 in
theorem mv_mw77 : mv_mwP mv_m77 := ⟨⟨1042, rfl⟩, ⟨121, by decide +kernel⟩, ⟨1040, by decide +kernel⟩, fun _ => ⟨1041, by decide +kernel⟩, by decide +kernel⟩
set_option maxRecDepth 100000 in
theorem mv_mw78 : mv_mwP mv_m78 := ⟨⟨1046, rfl⟩, ⟨121, by decide +kernel⟩, ⟨1045, by decide +kernel⟩, fun _ => ⟨23, by decide +kernel⟩, by decide +kernel⟩
set_option maxRecDepth 100000 in
theorem mv_mw79 : mv_mwP mv_m79 := ⟨⟨1059, rfl⟩, ⟨121, by decide +kernel⟩, ⟨1057, by decide +kernel⟩, fun _ => ⟨1058, by decide +kernel⟩, by decide +kernel⟩
set_option maxRecDepth 100000 in
theorem mv_mw80 : mv_mwP mv_m80 := ⟨⟨1246, rfl⟩, ⟨121, by decide +kernel⟩, ⟨1244, by decide +kernel⟩, fun _ => ⟨1245, by decide +kernel⟩, by decide +kernel⟩
set_option maxRecDepth 100000 in
theorem mv_mw81 : mv_mwP mv_m81 := ⟨⟨1255, rfl⟩, ⟨121, by decide +kernel⟩, ⟨1253, by decide +kernel⟩, fun _ => ⟨1254, by decide +kernel⟩, by decide +kernel⟩
set_option maxRecDepth 100000 in
theorem mv_mw82 : mv_mwP mv_m82 := ⟨⟨1250, rfl⟩, ⟨121, by decide +kernel⟩, ⟨1249, by decide +kernel⟩, fun _ => ⟨36, by decide +kernel⟩, by decide +kernel⟩
set_option maxRecDepth 100000 in
theorem mv_mw83 : mv_mwP mv_m83 := ⟨⟨1360, rfl⟩, ⟨121, by decide +kernel⟩, ⟨1358, by decide +kernel⟩, fun _ => ⟨1359, by decide +kernel⟩, by decide +kernel⟩
set_option maxRecDepth 100000 in
theorem mv_mw84 : mv_mwP mv_m84 := ⟨⟨1364, rfl⟩, ⟨121, by decide +kernel⟩, ⟨1362, by decide +kernel⟩, fun _ => ⟨1363, by decide +kernel⟩, by decide +kernel⟩
set_option maxRecDepth 100000 in
theorem mv_mw85 : mv_mwP mv_m85 := ⟨⟨1369, rfl⟩, ⟨121, by decide +kernel⟩, ⟨1367, by decide +kernel⟩, fun _ => ⟨1368, by decide +kernel⟩, by decide +kernel⟩
set_option maxRecDepth 100000 in
theorem mv_mw86 : mv_mwP mv_m86 := ⟨⟨147, rfl⟩, ⟨116, by decide +kernel⟩, ⟨146, by decide +kernel⟩, fun h => absurd h (by decide), by decide +kernel⟩
set_option maxRecDepth 100000 in
theorem mv_mw87 : mv_mwP mv_m87 := ⟨⟨153, rfl⟩, ⟨116, by decide +kernel⟩, ⟨152, by decide +kernel⟩, fun _ => ⟨0, by decide +kernel⟩, by decide +kernel⟩
set_option maxRecDepth 100000 in
theorem mv_mw88 : mv_mwP mv_m88 := ⟨⟨204, rfl⟩, ⟨116, by decide +kernel⟩, ⟨203, by decide +kernel⟩, fun h => absurd h (by decide), by decide +kernel⟩
set_option maxRecDepth 100000 in
theorem mv_mw89 : mv_mwP mv_m89 := ⟨⟨795, rfl⟩, ⟨116, by decide +kernel⟩, ⟨793, by decide +kernel⟩, fun _ => ⟨794, by decide +kernel⟩, by decide +kernel⟩
set_option maxRecDepth 100000 in
theorem mv_mw90 : mv_mwP mv_m90 := ⟨⟨799, rfl⟩, ⟨116, by decide +kernel⟩, ⟨798, by decide +kernel⟩, fun _ => ⟨3, by decide +kernel⟩, by decide +kernel⟩
set_option maxRecDepth 100000 in
theorem mv_mw91 : mv_mwP mv_m91 := ⟨⟨818, rfl⟩, ⟨116, by decide +kernel⟩, ⟨817, by decide +kernel⟩, fun _ => ⟨7, by decide +kernel⟩, by decide +kernel⟩
set_option maxRecDepth 100000 in
theorem mv_mw92 : mv_mwP mv_m92 := ⟨⟨803, rfl⟩, ⟨116, by decide +kernel⟩, ⟨802, by decide +kernel⟩, fun _ => ⟨4, by decide +kernel⟩, by decide +kernel⟩
set_option maxRecDepth 100000 in
theorem mv_mw93 : mv_mwP mv_m93 := ⟨⟨810, rfl⟩, ⟨116, by decide +kernel⟩, ⟨809, by decide +kernel⟩, fun _ => ⟨5, by decide +kernel⟩, by decide +kernel⟩
set_option maxRecDepth 100000 in
theorem mv_mw94 : mv_mwP mv_m94 := ⟨⟨825, rfl⟩, ⟨116, by decide +kernel⟩, ⟨824, by decide +kernel⟩, fun _ => ⟨8, by decide +kernel⟩, by decide +kernel⟩
set_option maxRecDepth 100000 in
theorem mv_mw95 : mv_mwP mv_m95 := ⟨⟨814, rfl⟩, ⟨116, by decide +kernel⟩, ⟨813, by decide +kernel⟩, fun _ => ⟨6, by decide +kernel⟩, by decide +kernel⟩
set_option maxRecDepth 100000 in
theorem mv_mw96 : mv_mwP mv_m96 := ⟨⟨806, rfl⟩, ⟨116, by decide +kernel⟩, ⟨805, by decide +kernel⟩, fun h => absurd h (by decide), by decide +kernel⟩
set_option maxRecDepth 100000 in
theorem mv_mw97 : mv_mwP mv_m97 := ⟨⟨821, rfl⟩, ⟨116, by decide +kernel⟩, ⟨820, by decide +kernel⟩, fun h => absurd h (by decide), by decide +kernel⟩
set_option maxRecDepth 100000 in
theorem mv_mw98 : mv_mwP mv_m98 := ⟨⟨891, rfl⟩, ⟨116, by decide +kernel⟩, ⟨889, by decide +kernel⟩, fun _ => ⟨890, by decide +kernel⟩, by decide +kernel⟩
set_option maxRecDepth 100000 in
theorem mv_mw99 : mv_mwP mv_m99 := ⟨⟨974, rfl⟩, ⟨116, by decide +kernel⟩, ⟨972, by decide +kernel⟩, fun _ => ⟨973, by decide +kernel⟩, by decide +kernel⟩
set_option maxRecDepth 100000 in
theorem mv_mw100 : mv_mwP mv_m100 := ⟨⟨899, rfl⟩, ⟨116, by decide +kernel⟩, ⟨897, by decide +kernel⟩, fun _ => ⟨898, by decide +kernel⟩, by decide +kernel⟩
set_option maxRecDepth 100000 in
theorem mv_mw101 : mv_mwP mv_m101 := ⟨⟨912, rfl⟩, ⟨116, by decide +kernel⟩, ⟨910, by decide +kernel⟩, fun _ => ⟨911, by decide +kernel⟩, by decide +kernel⟩
set_option maxRecDepth 100000 in
theorem mv_mw102 : mv_mwP mv_m102 := ⟨⟨907, rfl⟩, ⟨116, by decide +kernel⟩, ⟨905, by decide +kernel⟩, fun _ => ⟨906, by decide +kernel⟩, by decide +kernel⟩
set_option maxRecDepth 100000 in
theorem mv_mw103 : mv_mwP mv_m103 := ⟨⟨903, rfl⟩, ⟨116, by decide +kernel⟩, ⟨901, by decide +kernel⟩, fun _ => ⟨902, by decide +kernel⟩, by decide +kernel⟩
set_option maxRecDepth 100000 in
theorem mv_mw104 : mv_mwP mv_m104 := ⟨⟨916, rfl⟩, ⟨116, by decide +kernel⟩, ⟨914, by decide +kernel⟩, fun _ => ⟨915, by decide +kernel⟩, by decide +kernel⟩
set_option maxRecDepth 100000 in
theorem mv_mw105 : mv_mwP mv_m105 := ⟨⟨925, rfl⟩, ⟨116, by decide +kernel⟩, ⟨923, by decide +kernel⟩, fun _ => ⟨924, by decide +kernel⟩, by decide +kernel⟩
set_option maxRecDepth 100000 in
theorem mv_mw106 : mv_mwP mv_m106 := ⟨⟨978, rfl⟩, ⟨116, by decide +kernel⟩, ⟨976, by decide +kernel⟩, fun _ => ⟨977, by decide +kernel⟩, by decide +kernel⟩
set_option maxRecDepth 100000 in
theorem mv_mw107 : mv_mwP mv_m107 := ⟨⟨928, rfl⟩, ⟨116, by decide +kernel⟩, ⟨927, by decide +kernel⟩, fun h => absurd h (by decide), by decide +kernel⟩
set_option maxRecDepth 100000 in
theorem mv_mw108 : mv_mwP mv_m108 := ⟨⟨139, rfl⟩, ⟨115, by decide +kernel⟩, ⟨138, by decide +kernel⟩, fun h => absurd h (by decide), by decide +kernel⟩
set_option maxRecDepth 100000 in
theorem mv_mw109 : mv_mwP mv_m109 := ⟨⟨775, rfl⟩, ⟨115, by decide +kernel⟩, ⟨773, by decide +kernel⟩, fun _ => ⟨774, by decide +kernel⟩, by decide +kernel⟩
set_option maxRecDepth 100000 in
theorem mv_mw110 : mv_mwP mv_m110 := ⟨⟨779, rfl⟩, ⟨115, by decide +kernel⟩, ⟨778, by decide +kernel⟩, fun _ => ⟨1, by decide +kernel⟩, by decide +kernel⟩
set_option maxRecDepth 100000 in
theorem mv_mw111 : mv_mwP mv_m111 := ⟨⟨783, rfl⟩, ⟨115, by decide +kernel⟩, ⟨781, by decide +kernel⟩, fun _ => ⟨782, by decide +kernel⟩, by decide +kernel⟩
set_option maxRecDepth 100000 in
theorem mv_mw112 : mv_mwP mv_m112 := ⟨⟨787, rfl⟩, ⟨115, by decide +kernel⟩, ⟨785, by decide +kernel⟩, fun _ => ⟨786, by decide +kernel⟩, by decide +kernel⟩
set_option maxRecDepth 100000 in
theorem mv_mw113 : mv_mwP mv_m113 := ⟨⟨938, rfl⟩, ⟨115, by decide +kernel⟩, ⟨936, by decide +kernel⟩, fun _ => ⟨937, by decide +kernel⟩, by decide +kernel⟩
set_option maxRecDepth 100000 in
theorem mv_mw114 : mv_mwP mv_m114 := ⟨⟨791, rfl⟩, ⟨115, by decide +kernel⟩, ⟨790, by decide +kernel⟩, fun _ => ⟨2, by decide +kernel⟩, by decide +kernel⟩
set_option maxRecDepth 100000 in
theorem mv_mw115 : mv_mwP mv_m115 := ⟨⟨1015, rfl⟩, ⟨115, by decide +kernel⟩, ⟨1013, by decide +kernel⟩, fun _ => ⟨1014, by decide +kernel⟩, by decide +kernel⟩
set_option maxRecDepth 100000 in
theorem mv_mw116 : mv_mwP mv_m116 := ⟨⟨1019, rfl⟩, ⟨115, by decide +kernel⟩, ⟨1017, by decide +kernel⟩, fun _ => ⟨1018, by decide +kernel⟩, by decide +kernel⟩
set_option maxRecDepth 100000 in
theorem mv_mw117 : mv_mwP mv_m117 := ⟨⟨1026, rfl⟩, ⟨115, by decide +kernel⟩, ⟨1024, by decide +kernel⟩, fun _ => ⟨1025, by decide +kernel⟩, by decide +kernel⟩
set_option maxRecDepth 100000 in
theorem mv_mw118 : mv_mwP mv_m118 := ⟨⟨1034, rfl⟩, ⟨115, by decide +kernel⟩, ⟨1032, by decide +kernel⟩, fun _ => ⟨1033, by decide +kernel⟩, by decide +kernel⟩
set_option maxRecDepth 100000 in
theorem mv_mw119 : mv_mwP mv_m119 := ⟨⟨1055, rfl⟩, ⟨115, by decide +kernel⟩, ⟨1053, by decide +kernel⟩, fun _ => ⟨1054, by decide +kernel⟩, by decide +kernel⟩
set_option maxRecDepth 100000 in
theorem mv_mw120 : mv_mwP mv_m120 := ⟨⟨1063, rfl⟩, ⟨115, by decide +kernel⟩, ⟨1061, by decide +kernel⟩, fun _ => ⟨1062, by decide +kernel⟩, by decide +kernel⟩
set_option maxRecDepth 100000 in
theorem mv_mw121 : mv_mwP mv_m121 := ⟨⟨1094, rfl⟩, ⟨115, by decide +kernel⟩, ⟨1092, by decide +kernel⟩, fun _ => ⟨1093, by decide +kernel⟩, by decide +kernel⟩
set_option maxRecDepth 100000 in
theorem mv_mw122 : mv_mwP mv_m122 := ⟨⟨1105, rfl⟩, ⟨115, by decide +kernel⟩, ⟨1103, by decide +kernel⟩, fun _ => ⟨1104, by decide +kernel⟩, by decide +kernel⟩
set_option maxRecDepth 100000 in
theorem mv_mw123 : mv_mwP mv_m123 := ⟨⟨1109, rfl⟩, ⟨115, by decide +kernel⟩, ⟨1107, by decide +kernel⟩, fun _ => ⟨1108, by decide +kernel⟩, by decide +kernel⟩
set_option maxRecDepth 100000 in
theorem mv_mw124 : mv_mwP mv_m124 := ⟨⟨1121, rfl⟩, ⟨115, by decide +kernel⟩, ⟨1119, by decide +kernel⟩, fun _ => ⟨1120, by decide +kernel⟩, by decide +kernel⟩
set_option maxRecDepth 100000 in
theorem mv_mw125 : mv_mwP mv_m125 := ⟨⟨1126, rfl⟩, ⟨115, by decide +kernel⟩, ⟨1124, by decide +kernel⟩, fun _ => ⟨1125, by decide +kernel⟩, by decide +kernel⟩
set_option maxRecDepth 100000 in
theorem mv_mw126 : mv_mwP mv_m126 := ⟨⟨1134, rfl⟩, ⟨115, by decide +kernel⟩, ⟨1132, by decide +kernel⟩, fun _ => ⟨1133, by decide +kernel⟩, by decide +kernel⟩
set_option maxRecDepth 100000 in
theorem mv_mw127 : mv_mwP mv_m127 := ⟨⟨1200, rfl⟩, ⟨115, by decide +kernel⟩, ⟨1198, by decide +kernel⟩, fun _ => ⟨1199, by decide +kernel⟩, by decide +kernel⟩
