set_option maxRecDepth 100000 in
theorem mv_mw128 : mv_mwP mv_m128 := ⟨⟨1204, rfl⟩, ⟨115, by decide +kernel⟩, ⟨1202, by decide +kernel⟩, fun _ => ⟨1203, by decide +kernel⟩, by decide +kernel⟩
set_option maxRecDepth 100000 in
theorem mv_mw129 : mv_mwP mv_m129 := ⟨⟨1213, rfl⟩, ⟨115, by decide +kernel⟩, ⟨1211, by decide +kernel⟩, fun _ => ⟨1212, by decide +kernel⟩, by decide +kernel⟩
set_option maxRecDepth 100000 in
theorem mv_mw130 : mv_mwP mv_m130 := ⟨⟨1217, rfl⟩, ⟨115, by decide +kernel⟩, ⟨1215, by decide +kernel⟩, fun _ => ⟨1216, by decide +kernel⟩, by decide +kernel⟩
set_option maxRecDepth 100000 in
theorem mv_mw131 : mv_mwP mv_m131 := ⟨⟨1222, rfl⟩, ⟨115, by decide +kernel⟩, ⟨1220, by decide +kernel⟩, fun _ => ⟨1221, by decide +kernel⟩, by decide +kernel⟩
set_option maxRecDepth 100000 in
theorem mv_mw132 : mv_mwP mv_m132 := ⟨⟨1226, rfl⟩, ⟨115, by decide +kernel⟩, ⟨1224, by decide +kernel⟩, fun _ => ⟨1225, by decide +kernel⟩, by decide +kernel⟩
set_option maxRecDepth 100000 in
theorem mv_mw133 : mv_mwP mv_m133 := ⟨⟨1289, rfl⟩, ⟨115, by decide +kernel⟩, ⟨1287, by decide +kernel⟩, fun _ => ⟨1288, by decide +kernel⟩, by decide +kernel⟩
set_option maxRecDepth 100000 in
theorem mv_mw134 : mv_mwP mv_m134 := ⟨⟨1293, rfl⟩, ⟨115, by decide +kernel⟩, ⟨1291, by decide +kernel⟩, fun _ => ⟨1292, by decide +kernel⟩, by decide +kernel⟩
set_option maxRecDepth 100000 in
theorem mv_mw135 : mv_mwP mv_m135 := ⟨⟨1301, rfl⟩, ⟨115, by decide +kernel⟩, ⟨1299, by decide +kernel⟩, fun _ => ⟨1300, by decide +kernel⟩, by decide +kernel⟩
set_option maxRecDepth 100000 in
theorem mv_mw136 : mv_mwP mv_m136 := ⟨⟨1305, rfl⟩, ⟨115, by decide +kernel⟩, ⟨1303, by decide +kernel⟩, fun _ => ⟨1304, by decide +kernel⟩, by decide +kernel⟩
set_option maxRecDepth 100000 in
theorem mv_mw137 : mv_mwP mv_m137 := ⟨⟨1346, rfl⟩, ⟨115, by decide +kernel⟩, ⟨1344, by decide +kernel⟩, fun _ => ⟨1345, by decide +kernel⟩, by decide +kernel⟩
set_option maxRecDepth 100000 in
theorem mv_mw138 : mv_mwP mv_m138 := ⟨⟨1355, rfl⟩, ⟨115, by decide +kernel⟩, ⟨1353, by decide +kernel⟩, fun _ => ⟨1354, by decide +kernel⟩, by decide +kernel⟩
set_option maxRecDepth 100000 in
theorem mv_mw139 : mv_mwP mv_m139 := ⟨⟨1373, rfl⟩, ⟨115, by decide +kernel⟩, ⟨1371, by decide +kernel⟩, fun _ => ⟨1372, by decide +kernel⟩, by decide +kernel⟩
set_option maxRecDepth 100000 in
theorem mv_mw140 : mv_mwP mv_m140 := ⟨⟨1404, rfl⟩, ⟨115, by decide +kernel⟩, ⟨1402, by decide +kernel⟩, fun _ => ⟨1403, by decide +kernel⟩, by decide +kernel⟩
set_option maxRecDepth 100000 in
theorem mv_mw141 : mv_mwP mv_m141 := ⟨⟨1022, rfl⟩, ⟨115, by decide +kernel⟩, ⟨1021, by decide +kernel⟩, fun h => absurd h (by decide), by decide +kernel⟩
set_option maxRecDepth 100000 in
theorem mv_mw142 : mv_mwP mv_m142 := ⟨⟨1097, rfl⟩, ⟨115, by decide +kernel⟩, ⟨1096, by decide +kernel⟩, fun h => absurd h (by decide), by decide +kernel⟩
set_option maxRecDepth 100000 in
theorem mv_mw143 : mv_mwP mv_m143 := ⟨⟨941, rfl⟩, ⟨115, by decide +kernel⟩, ⟨940, by decide +kernel⟩, fun h => absurd h (by decide), by decide +kernel⟩
set_option maxRecDepth 100000 in
theorem mv_mw144 : mv_mwP mv_m144 := ⟨⟨1038, rfl⟩, ⟨115, by decide +kernel⟩, ⟨1037, by decide +kernel⟩, fun _ => ⟨22, by decide +kernel⟩, by decide +kernel⟩
set_option maxRecDepth 100000 in
theorem mv_mw145 : mv_mwP mv_m145 := ⟨⟨1030, rfl⟩, ⟨115, by decide +kernel⟩, ⟨1029, by decide +kernel⟩, fun _ => ⟨21, by decide +kernel⟩, by decide +kernel⟩
set_option maxRecDepth 100000 in
theorem mv_mw146 : mv_mwP mv_m146 := ⟨⟨1139, rfl⟩, ⟨115, by decide +kernel⟩, ⟨1138, by decide +kernel⟩, fun _ => ⟨27, by decide +kernel⟩, by decide +kernel⟩
set_option maxRecDepth 100000 in
theorem mv_mw147 : mv_mwP mv_m147 := ⟨⟨1230, rfl⟩, ⟨115, by decide +kernel⟩, ⟨1229, by decide +kernel⟩, fun _ => ⟨35, by decide +kernel⟩, by decide +kernel⟩
set_option maxRecDepth 100000 in
theorem mv_mw148 : mv_mwP mv_m148 := ⟨⟨1309, rfl⟩, ⟨115, by decide +kernel⟩, ⟨1308, by decide +kernel⟩, fun _ => ⟨42, by decide +kernel⟩, by decide +kernel⟩
set_option maxRecDepth 100000 in
theorem mv_mw149 : mv_mwP mv_m149 := ⟨⟨1317, rfl⟩, ⟨115, by decide +kernel⟩, ⟨1316, by decide +kernel⟩, fun _ => ⟨43, by decide +kernel⟩, by decide +kernel⟩
set_option maxRecDepth 100000 in
theorem mv_mw150 : mv_mwP mv_m150 := ⟨⟨1324, rfl⟩, ⟨115, by decide +kernel⟩, ⟨1323, by decide +kernel⟩, fun _ => ⟨44, by decide +kernel⟩, by decide +kernel⟩
set_option maxRecDepth 100000 in
theorem mv_mw151 : mv_mwP mv_m151 := ⟨⟨1421, rfl⟩, ⟨132, by decide +kernel⟩, ⟨1420, by decide +kernel⟩, fun _ => ⟨52, by decide +kernel⟩, by decide +kernel⟩
set_option maxRecDepth 100000 in
theorem mv_mw152 : mv_mwP mv_m152 := ⟨⟨1424, rfl⟩, ⟨132, by decide +kernel⟩, ⟨1423, by decide +kernel⟩, fun h => absurd h (by decide), by decide +kernel⟩
set_option maxRecDepth 100000 in
theorem mv_mw153 : mv_mwP mv_m153 := ⟨⟨1461, rfl⟩, ⟨132, by decide +kernel⟩, ⟨1460, by decide +kernel⟩, fun h => absurd h (by decide), by decide +kernel⟩
set_option maxRecDepth 100000 in
theorem mv_mw154 : mv_mwP mv_m154 := ⟨⟨1484, rfl⟩, ⟨132, by decide +kernel⟩, ⟨1483, by decide +kernel⟩, fun _ => ⟨57, by decide +kernel⟩, by decide +kernel⟩
set_option maxRecDepth 100000 in
theorem mv_mw155 : mv_mwP mv_m155 := ⟨⟨1468, rfl⟩, ⟨132, by decide +kernel⟩, ⟨1467, by decide +kernel⟩, fun _ => ⟨53, by decide +kernel⟩, by decide +kernel⟩
set_option maxRecDepth 100000 in
theorem mv_mw156 : mv_mwP mv_m156 := ⟨⟨1427, rfl⟩, ⟨132, by decide +kernel⟩, ⟨1426, by decide +kernel⟩, fun h => absurd h (by decide), by decide +kernel⟩
set_option maxRecDepth 100000 in
theorem mv_mw157 : mv_mwP mv_m157 := ⟨⟨1464, rfl⟩, ⟨132, by decide +kernel⟩, ⟨1463, by decide +kernel⟩, fun h => absurd h (by decide), by decide +kernel⟩
set_option maxRecDepth 100000 in
theorem mv_mw158 : mv_mwP mv_m158 := ⟨⟨1417, rfl⟩, ⟨132, by decide +kernel⟩, ⟨1416, by decide +kernel⟩, fun _ => ⟨51, by decide +kernel⟩, by decide +kernel⟩
set_option maxRecDepth 100000 in
theorem mv_mw159 : mv_mwP mv_m159 := ⟨⟨1504, rfl⟩, ⟨132, by decide +kernel⟩, ⟨1503, by decide +kernel⟩, fun _ => ⟨62, by decide +kernel⟩, by decide +kernel⟩
set_option maxRecDepth 100000 in
theorem mv_mw160 : mv_mwP mv_m160 := ⟨⟨1476, rfl⟩, ⟨132, by decide +kernel⟩, ⟨1475, by decide +kernel⟩, fun _ => ⟨55, by decide +kernel⟩, by decide +kernel⟩
set_option maxRecDepth 100000 in
theorem mv_mw161 : mv_mwP mv_m161 := ⟨⟨1480, rfl⟩, ⟨132, by decide +kernel⟩, ⟨1479, by decide +kernel⟩, fun _ => ⟨56, by decide +kernel⟩, by decide +kernel⟩
set_option maxRecDepth 100000 in
theorem mv_mw162 : mv_mwP mv_m162 := ⟨⟨1492, rfl⟩, ⟨132, by decide +kernel⟩, ⟨1491, by decide +kernel⟩, fun _ => ⟨59, by decide +kernel⟩, by decide +kernel⟩
set_option maxRecDepth 100000 in
theorem mv_mw163 : mv_mwP mv_m163 := ⟨⟨1496, rfl⟩, ⟨132, by decide +kernel⟩, ⟨1495, by decide +kernel⟩, fun _ => ⟨60, by decide +kernel⟩, by decide +kernel⟩
set_option maxRecDepth 100000 in
theorem mv_mw164 : mv_mwP mv_m164 := ⟨⟨1413, rfl⟩, ⟨132, by decide +kernel⟩, ⟨1411, by decide +kernel⟩, fun _ => ⟨50, by decide +kernel⟩, by decide +kernel⟩
set_option maxRecDepth 100000 in
theorem mv_mw165 : mv_mwP mv_m165 := ⟨⟨1408, rfl⟩, ⟨132, by decide +kernel⟩, ⟨1406, by decide +kernel⟩, fun _ => ⟨1407, by decide +kernel⟩, by decide +kernel⟩
set_option maxRecDepth 100000 in
theorem mv_mw166 : mv_mwP mv_m166 := ⟨⟨1472, rfl⟩, ⟨132, by decide +kernel⟩, ⟨1471, by decide +kernel⟩, fun _ => ⟨54, by decide +kernel⟩, by decide +kernel⟩
set_option maxRecDepth 100000 in
theorem mv_mw167 : mv_mwP mv_m167 := ⟨⟨1488, rfl⟩, ⟨132, by decide +kernel⟩, ⟨1487, by decide +kernel⟩, fun _ => ⟨58, by decide +kernel⟩, by decide +kernel⟩
set_option maxRecDepth 100000 in
theorem mv_mw168 : mv_mwP mv_m168 := ⟨⟨1500, rfl⟩, ⟨132, by decide +kernel⟩, ⟨1499, by decide +kernel⟩, fun _ => ⟨61, by decide +kernel⟩, by decide +kernel⟩
set_option maxRecDepth 100000 in
theorem mv_mw169 : mv_mwP mv_m169 := ⟨⟨1512, rfl⟩, ⟨132, by decide +kernel⟩, ⟨1510, by decide +kernel⟩, fun _ => ⟨1511, by decide +kernel⟩, by decide +kernel⟩
set_option maxRecDepth 100000 in
theorem mv_mw170 : mv_mwP mv_m170 := ⟨⟨1524, rfl⟩, ⟨132, by decide +kernel⟩, ⟨1523, by decide +kernel⟩, fun _ => ⟨65, by decide +kernel⟩, by decide +kernel⟩
set_option maxRecDepth 100000 in
theorem mv_mw171 : mv_mwP mv_m171 := ⟨⟨1972, rfl⟩, ⟨132, by decide +kernel⟩, ⟨1971, by decide +kernel⟩, fun _ => ⟨87, by decide +kernel⟩, by decide +kernel⟩
set_option maxRecDepth 100000 in
theorem mv_mw172 : mv_mwP mv_m172 := ⟨⟨1520, rfl⟩, ⟨132, by decide +kernel⟩, ⟨1519, by decide +kernel⟩, fun _ => ⟨64, by decide +kernel⟩, by decide +kernel⟩
set_option maxRecDepth 100000 in
theorem mv_mw173 : mv_mwP mv_m173 := ⟨⟨1516, rfl⟩, ⟨132, by decide +kernel⟩, ⟨1514, by decide +kernel⟩, fun _ => ⟨1515, by decide +kernel⟩, by decide +kernel⟩
set_option maxRecDepth 100000 in
theorem mv_mw174 : mv_mwP mv_m174 := ⟨⟨1508, rfl⟩, ⟨132, by decide +kernel⟩, ⟨1507, by decide +kernel⟩, fun _ => ⟨63, by decide +kernel⟩, by decide +kernel⟩
set_option maxRecDepth 100000 in
theorem mv_mw175 : mv_mwP mv_m175 := ⟨⟨1528, rfl⟩, ⟨132, by decide +kernel⟩, ⟨1527, by decide +kernel⟩, fun h => absurd h (by decide), by decide +kernel⟩
set_option maxRecDepth 100000 in
theorem mv_mw176 : mv_mwP mv_m176 := ⟨⟨1873, rfl⟩, ⟨132, by decide +kernel⟩, ⟨1872, by decide +kernel⟩, fun h => absurd h (by decide), by decide +kernel⟩
set_option maxRecDepth 100000 in
theorem mv_mw177 : mv_mwP mv_m177 := ⟨⟨1870, rfl⟩, ⟨132, by decide +kernel⟩, ⟨1868, by decide +kernel⟩, fun _ => ⟨1869, by decide +kernel⟩, by decide +kernel⟩
set_option maxRecDepth 100000 in
theorem mv_mw178 : mv_mwP mv_m178 := ⟨⟨1941, rfl⟩, ⟨132, by decide +kernel⟩, ⟨1940, by decide +kernel⟩, fun _ => ⟨82, by decide +kernel⟩, by decide +kernel⟩
set_option maxRecDepth 100000 in
theorem mv_mw179 : mv_mwP mv_m179 := ⟨⟨1877, rfl⟩, ⟨132, by decide +kernel⟩, ⟨1876, by decide +kernel⟩, fun _ => ⟨66, by decide +kernel⟩, by decide +kernel⟩
set_option maxRecDepth 100000 in
theorem mv_mw180 : mv_mwP mv_m180 := ⟨⟨1937, rfl⟩, ⟨132, by decide +kernel⟩, ⟨1936, by decide +kernel⟩, fun _ => ⟨81, by decide +kernel⟩, by decide +kernel⟩
set_option maxRecDepth 100000 in
theorem mv_mw181 : mv_mwP mv_m181 := ⟨⟨1889, rfl⟩, ⟨132, by decide +kernel⟩, ⟨1888, by decide +kernel⟩, fun _ => ⟨69, by decide +kernel⟩, by decide +kernel⟩
set_option maxRecDepth 100000 in
theorem mv_mw182 : mv_mwP mv_m182 := ⟨⟨1881, rfl⟩, ⟨132, by decide +kernel⟩, ⟨1880, by decide +kernel⟩, fun _ => ⟨67, by decide +kernel⟩, by decide +kernel⟩
set_option maxRecDepth 100000 in
theorem mv_mw183 : mv_mwP mv_m183 := ⟨⟨1933, rfl⟩, ⟨132, by decide +kernel⟩, ⟨1932, by decide +kernel⟩, fun _ => ⟨80, by decide +kernel⟩, by decide +kernel⟩
set_option maxRecDepth 100000 in
theorem mv_mw184 : mv_mwP mv_m184 := ⟨⟨1885, rfl⟩, ⟨132, by decide +kernel⟩, ⟨1884, by decide +kernel⟩, fun _ => ⟨68, by decide +kernel⟩, by decide +kernel⟩
set_option maxRecDepth 100000 in
theorem mv_mw185 : mv_mwP mv_m185 := ⟨⟨1913, rfl⟩, ⟨132, by decide +kernel⟩, ⟨1912, by decide +kernel⟩, fun _ => ⟨75, by decide +kernel⟩, by decide +kernel⟩
set_option maxRecDepth 100000 in
theorem mv_mw186 : mv_mwP mv_m186 := ⟨⟨1917, rfl⟩, ⟨132, by decide +kernel⟩, ⟨1916, by decide +kernel⟩, fun _ => ⟨76, by decide +kernel⟩, by decide +kernel⟩
set_option maxRecDepth 100000 in
theorem mv_mw187 : mv_mwP mv_m187 := ⟨⟨1897, rfl⟩, ⟨132, by decide +kernel⟩, ⟨1896, by decide +kernel⟩, fun _ => ⟨71, by decide +kernel⟩, by decide +kernel⟩
set_option maxRecDepth 100000 in
theorem mv_mw188 : mv_mwP mv_m188 := ⟨⟨1893, rfl⟩, ⟨132, by decide +kernel⟩, ⟨1892, by decide +kernel⟩, fun _ => ⟨70, by decide +kernel⟩, by decide +kernel⟩
set_option maxRecDepth 100000 in
theorem mv_mw189 : mv_mwP mv_m189 := ⟨⟨1905, rfl⟩, ⟨132, by decide +kernel⟩, ⟨1904, by decide +kernel⟩, fun _ => ⟨73, by decide +kernel⟩, by decide +kernel⟩
set_option maxRecDepth 100000 in
theorem mv_mw190 : mv_mwP mv_m190 := ⟨⟨1901, rfl⟩, ⟨132, by decide +kernel⟩, ⟨1900, by decide +kernel⟩, fun _ => ⟨72, by decide +kernel⟩, by decide +kernel⟩
set_option maxRecDepth 100000 in
theorem mv_mw191 : mv_mwP mv_m191 := ⟨⟨1909, rfl⟩, ⟨132, by decide +kernel⟩, ⟨1908, by decide +kernel⟩, fun _ => ⟨74, by decide +kernel⟩, by decide +kernel⟩
