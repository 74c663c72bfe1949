/-- of a method: its words stand in lw_tbl; what else its contract asks -/
def mv_mwB (m : mv_M) : Bool := match m with
  | (y, _, _, rt, _, na, kd) => (kd != 2 || decide (y.name = "<init>" ∧ rt = none)) && plainName y.cls && decide (y.cls ≠ "java/lang/invoke/MethodHandle") && decide (y.cls ≠ "java/lang/invoke/VarHandle") && decide ((parseMethodDescriptor y.desc).map (fun d => d.parameters.length) = some (if kd = 0 then na else na - 1)) && (kd == 0 || 0 < na)
def mv_mwP (m : mv_M) : Prop := match m with
  | (y, b, nl, rt, _, _, kd) => (∃ k : Nat, lw_tbl[k]? = some (Cond.code y b nl rt)) ∧ (∃ k : Nat, lw_tbl[k]? = some (Cond.initialized y.cls)) ∧ (∃ k : Nat, lw_tbl[k]? = some (if kd = 0 then Cond.static y else Cond.instanceMethod y)) ∧ (kd = 1 → ∃ k : Nat, lw_tbl[k]? = some (Cond.selects y.cls y y)) ∧ mv_mwB m = true
set_option maxRecDepth 100000 in
theorem mv_mw0 : mv_mwP mv_m0 := ⟨⟨301, rfl⟩, ⟨122, by decide +kernel⟩, ⟨300, by decide +kernel⟩, fun h => absurd h (by decide), by decide +kernel⟩
set_option maxRecDepth 100000 in
theorem mv_mw1 : mv_mwP mv_m1 := ⟨⟨306, rfl⟩, ⟨122, by decide +kernel⟩, ⟨304, by decide +kernel⟩, fun _ => ⟨305, by decide +kernel⟩, by decide +kernel⟩
set_option maxRecDepth 100000 in
theorem mv_mw2 : mv_mwP mv_m2 := ⟨⟨982, rfl⟩, ⟨122, by decide +kernel⟩, ⟨980, by decide +kernel⟩, fun _ => ⟨981, by decide +kernel⟩, by decide +kernel⟩
set_option maxRecDepth 100000 in
theorem mv_mw3 : mv_mwP mv_m3 := ⟨⟨400, rfl⟩, ⟨123, by decide +kernel⟩, ⟨399, by decide +kernel⟩, fun h => absurd h (by decide), by decide +kernel⟩
set_option maxRecDepth 100000 in
theorem mv_mw4 : mv_mwP mv_m4 := ⟨⟨945, rfl⟩, ⟨123, by decide +kernel⟩, ⟨943, by decide +kernel⟩, fun _ => ⟨944, by decide +kernel⟩, by decide +kernel⟩
set_option maxRecDepth 100000 in
theorem mv_mw5 : mv_mwP mv_m5 := ⟨⟨951, rfl⟩, ⟨123, by decide +kernel⟩, ⟨950, by decide +kernel⟩, fun _ => ⟨11, by decide +kernel⟩, by decide +kernel⟩
set_option maxRecDepth 100000 in
theorem mv_mw6 : mv_mwP mv_m6 := ⟨⟨993, rfl⟩, ⟨123, by decide +kernel⟩, ⟨992, by decide +kernel⟩, fun _ => ⟨16, by decide +kernel⟩, by decide +kernel⟩
set_option maxRecDepth 100000 in
theorem mv_mw7 : mv_mwP mv_m7 := ⟨⟨997, rfl⟩, ⟨123, by decide +kernel⟩, ⟨996, by decide +kernel⟩, fun _ => ⟨17, by decide +kernel⟩, by decide +kernel⟩
set_option maxRecDepth 100000 in
theorem mv_mw8 : mv_mwP mv_m8 := ⟨⟨1002, rfl⟩, ⟨123, by decide +kernel⟩, ⟨1001, by decide +kernel⟩, fun _ => ⟨18, by decide +kernel⟩, by decide +kernel⟩
set_option maxRecDepth 100000 in
theorem mv_mw9 : mv_mwP mv_m9 := ⟨⟨1011, rfl⟩, ⟨123, by decide +kernel⟩, ⟨1010, by decide +kernel⟩, fun _ => ⟨20, by decide +kernel⟩, by decide +kernel⟩
set_option maxRecDepth 100000 in
theorem mv_mw10 : mv_mwP mv_m10 := ⟨⟨1006, rfl⟩, ⟨123, by decide +kernel⟩, ⟨1005, by decide +kernel⟩, fun _ => ⟨19, by decide +kernel⟩, by decide +kernel⟩
set_option maxRecDepth 100000 in
theorem mv_mw11 : mv_mwP mv_m11 := ⟨⟨959, rfl⟩, ⟨123, by decide +kernel⟩, ⟨958, by decide +kernel⟩, fun _ => ⟨12, by decide +kernel⟩, by decide +kernel⟩
set_option maxRecDepth 100000 in
theorem mv_mw12 : mv_mwP mv_m12 := ⟨⟨989, rfl⟩, ⟨123, by decide +kernel⟩, ⟨988, by decide +kernel⟩, fun h => absurd h (by decide), by decide +kernel⟩
set_option maxRecDepth 100000 in
theorem mv_mw13 : mv_mwP mv_m13 := ⟨⟨986, rfl⟩, ⟨123, by decide +kernel⟩, ⟨985, by decide +kernel⟩, fun _ => ⟨15, by decide +kernel⟩, by decide +kernel⟩
set_option maxRecDepth 100000 in
theorem mv_mw14 : mv_mwP mv_m14 := ⟨⟨963, rfl⟩, ⟨123, by decide +kernel⟩, ⟨962, by decide +kernel⟩, fun _ => ⟨13, by decide +kernel⟩, by decide +kernel⟩
set_option maxRecDepth 100000 in
theorem mv_mw15 : mv_mwP mv_m15 := ⟨⟨966, rfl⟩, ⟨123, by decide +kernel⟩, ⟨965, by decide +kernel⟩, fun h => absurd h (by decide), by decide +kernel⟩
set_option maxRecDepth 100000 in
theorem mv_mw16 : mv_mwP mv_m16 := ⟨⟨970, rfl⟩, ⟨123, by decide +kernel⟩, ⟨969, by decide +kernel⟩, fun _ => ⟨14, by decide +kernel⟩, by decide +kernel⟩
set_option maxRecDepth 100000 in
theorem mv_mw17 : mv_mwP mv_m17 := ⟨⟨427, rfl⟩, ⟨124, by decide +kernel⟩, ⟨426, by decide +kernel⟩, fun h => absurd h (by decide), by decide +kernel⟩
set_option maxRecDepth 100000 in
theorem mv_mw18 : mv_mwP mv_m18 := ⟨⟨934, rfl⟩, ⟨124, by decide +kernel⟩, ⟨932, by decide +kernel⟩, fun _ => ⟨933, by decide +kernel⟩, by decide +kernel⟩
set_option maxRecDepth 100000 in
theorem mv_mw19 : mv_mwP mv_m19 := ⟨⟨1117, rfl⟩, ⟨124, by decide +kernel⟩, ⟨1115, by decide +kernel⟩, fun _ => ⟨1116, by decide +kernel⟩, by decide +kernel⟩
set_option maxRecDepth 100000 in
theorem mv_mw20 : mv_mwP mv_m20 := ⟨⟨1101, rfl⟩, ⟨124, by decide +kernel⟩, ⟨1099, by decide +kernel⟩, fun _ => ⟨1100, by decide +kernel⟩, by decide +kernel⟩
set_option maxRecDepth 100000 in
theorem mv_mw21 : mv_mwP mv_m21 := ⟨⟨1113, rfl⟩, ⟨124, by decide +kernel⟩, ⟨1111, by decide +kernel⟩, fun _ => ⟨1112, by decide +kernel⟩, by decide +kernel⟩
set_option maxRecDepth 100000 in
theorem mv_mw22 : mv_mwP mv_m22 := ⟨⟨1130, rfl⟩, ⟨124, by decide +kernel⟩, ⟨1128, by decide +kernel⟩, fun _ => ⟨1129, by decide +kernel⟩, by decide +kernel⟩
set_option maxRecDepth 100000 in
theorem mv_mw23 : mv_mwP mv_m23 := ⟨⟨1297, rfl⟩, ⟨124, by decide +kernel⟩, ⟨1295, by decide +kernel⟩, fun _ => ⟨1296, by decide +kernel⟩, by decide +kernel⟩
set_option maxRecDepth 100000 in
theorem mv_mw24 : mv_mwP mv_m24 := ⟨⟨472, rfl⟩, ⟨126, by decide +kernel⟩, ⟨471, by decide +kernel⟩, fun h => absurd h (by decide), by decide +kernel⟩
set_option maxRecDepth 100000 in
theorem mv_mw25 : mv_mwP mv_m25 := ⟨⟨1075, rfl⟩, ⟨126, by decide +kernel⟩, ⟨1073, by decide +kernel⟩, fun _ => ⟨1074, by decide +kernel⟩, by decide +kernel⟩
set_option maxRecDepth 100000 in
theorem mv_mw26 : mv_mwP mv_m26 := ⟨⟨1071, rfl⟩, ⟨126, by decide +kernel⟩, ⟨1069, by decide +kernel⟩, fun _ => ⟨1070, by decide +kernel⟩, by decide +kernel⟩
set_option maxRecDepth 100000 in
theorem mv_mw27 : mv_mwP mv_m27 := ⟨⟨1067, rfl⟩, ⟨126, by decide +kernel⟩, ⟨1065, by decide +kernel⟩, fun _ => ⟨1066, by decide +kernel⟩, by decide +kernel⟩
set_option maxRecDepth 100000 in
theorem mv_mw28 : mv_mwP mv_m28 := ⟨⟨1174, rfl⟩, ⟨126, by decide +kernel⟩, ⟨1172, by decide +kernel⟩, fun _ => ⟨1173, by decide +kernel⟩, by decide +kernel⟩
set_option maxRecDepth 100000 in
theorem mv_mw29 : mv_mwP mv_m29 := ⟨⟨1079, rfl⟩, ⟨126, by decide +kernel⟩, ⟨1077, by decide +kernel⟩, fun _ => ⟨1078, by decide +kernel⟩, by decide +kernel⟩
set_option maxRecDepth 100000 in
theorem mv_mw30 : mv_mwP mv_m30 := ⟨⟨1179, rfl⟩, ⟨126, by decide +kernel⟩, ⟨1177, by decide +kernel⟩, fun _ => ⟨1178, by decide +kernel⟩, by decide +kernel⟩
set_option maxRecDepth 100000 in
theorem mv_mw31 : mv_mwP mv_m31 := ⟨⟨1191, rfl⟩, ⟨126, by decide +kernel⟩, ⟨1189, by decide +kernel⟩, fun _ => ⟨1190, by decide +kernel⟩, by decide +kernel⟩
set_option maxRecDepth 100000 in
theorem mv_mw32 : mv_mwP mv_m32 := ⟨⟨1083, rfl⟩, ⟨126, by decide +kernel⟩, ⟨1082, by decide +kernel⟩, fun _ => ⟨25, by decide +kernel⟩, by decide +kernel⟩
set_option maxRecDepth 100000 in
theorem mv_mw33 : mv_mwP mv_m33 := ⟨⟨1087, rfl⟩, ⟨126, by decide +kernel⟩, ⟨1086, by decide +kernel⟩, fun _ => ⟨26, by decide +kernel⟩, by decide +kernel⟩
set_option maxRecDepth 100000 in
theorem mv_mw34 : mv_mwP mv_m34 := ⟨⟨1090, rfl⟩, ⟨126, by decide +kernel⟩, ⟨1089, by decide +kernel⟩, fun h => absurd h (by decide), by decide +kernel⟩
set_option maxRecDepth 100000 in
theorem mv_mw35 : mv_mwP mv_m35 := ⟨⟨491, rfl⟩, ⟨127, by decide +kernel⟩, ⟨490, by decide +kernel⟩, fun h => absurd h (by decide), by decide +kernel⟩
set_option maxRecDepth 100000 in
theorem mv_mw36 : mv_mwP mv_m36 := ⟨⟨1143, rfl⟩, ⟨127, by decide +kernel⟩, ⟨1141, by decide +kernel⟩, fun _ => ⟨1142, by decide +kernel⟩, by decide +kernel⟩
set_option maxRecDepth 100000 in
theorem mv_mw37 : mv_mwP mv_m37 := ⟨⟨1147, rfl⟩, ⟨127, by decide +kernel⟩, ⟨1145, by decide +kernel⟩, fun _ => ⟨1146, by decide +kernel⟩, by decide +kernel⟩
set_option maxRecDepth 100000 in
theorem mv_mw38 : mv_mwP mv_m38 := ⟨⟨1151, rfl⟩, ⟨127, by decide +kernel⟩, ⟨1150, by decide +kernel⟩, fun _ => ⟨28, by decide +kernel⟩, by decide +kernel⟩
set_option maxRecDepth 100000 in
theorem mv_mw39 : mv_mwP mv_m39 := ⟨⟨1156, rfl⟩, ⟨127, by decide +kernel⟩, ⟨1155, by decide +kernel⟩, fun _ => ⟨29, by decide +kernel⟩, by decide +kernel⟩
set_option maxRecDepth 100000 in
theorem mv_mw40 : mv_mwP mv_m40 := ⟨⟨1160, rfl⟩, ⟨127, by decide +kernel⟩, ⟨1159, by decide +kernel⟩, fun _ => ⟨30, by decide +kernel⟩, by decide +kernel⟩
set_option maxRecDepth 100000 in
theorem mv_mw41 : mv_mwP mv_m41 := ⟨⟨1164, rfl⟩, ⟨127, by decide +kernel⟩, ⟨1163, by decide +kernel⟩, fun _ => ⟨31, by decide +kernel⟩, by decide +kernel⟩
set_option maxRecDepth 100000 in
theorem mv_mw42 : mv_mwP mv_m42 := ⟨⟨1168, rfl⟩, ⟨127, by decide +kernel⟩, ⟨1167, by decide +kernel⟩, fun _ => ⟨32, by decide +kernel⟩, by decide +kernel⟩
set_option maxRecDepth 100000 in
theorem mv_mw43 : mv_mwP mv_m43 := ⟨⟨1187, rfl⟩, ⟨127, by decide +kernel⟩, ⟨1186, by decide +kernel⟩, fun _ => ⟨33, by decide +kernel⟩, by decide +kernel⟩
set_option maxRecDepth 100000 in
theorem mv_mw44 : mv_mwP mv_m44 := ⟨⟨1196, rfl⟩, ⟨127, by decide +kernel⟩, ⟨1195, by decide +kernel⟩, fun _ => ⟨34, by decide +kernel⟩, by decide +kernel⟩
set_option maxRecDepth 100000 in
theorem mv_mw45 : mv_mwP mv_m45 := ⟨⟨1208, rfl⟩, ⟨127, by decide +kernel⟩, ⟨1206, by decide +kernel⟩, fun _ => ⟨1207, by decide +kernel⟩, by decide +kernel⟩
set_option maxRecDepth 100000 in
theorem mv_mw46 : mv_mwP mv_m46 := ⟨⟨612, rfl⟩, ⟨129, by decide +kernel⟩, ⟨611, by decide +kernel⟩, fun h => absurd h (by decide), by decide +kernel⟩
set_option maxRecDepth 100000 in
theorem mv_mw47 : mv_mwP mv_m47 := ⟨⟨1313, rfl⟩, ⟨129, by decide +kernel⟩, ⟨1311, by decide +kernel⟩, fun _ => ⟨1312, by decide +kernel⟩, by decide +kernel⟩
set_option maxRecDepth 100000 in
theorem mv_mw48 : mv_mwP mv_m48 := ⟨⟨1328, rfl⟩, ⟨129, by decide +kernel⟩, ⟨1326, by decide +kernel⟩, fun _ => ⟨1327, by decide +kernel⟩, by decide +kernel⟩
set_option maxRecDepth 100000 in
theorem mv_mw49 : mv_mwP mv_m49 := ⟨⟨1332, rfl⟩, ⟨129, by decide +kernel⟩, ⟨1330, by decide +kernel⟩, fun _ => ⟨1331, by decide +kernel⟩, by decide +kernel⟩
set_option maxRecDepth 100000 in
theorem mv_mw50 : mv_mwP mv_m50 := ⟨⟨1342, rfl⟩, ⟨129, by decide +kernel⟩, ⟨1341, by decide +kernel⟩, fun _ => ⟨45, by decide +kernel⟩, by decide +kernel⟩
set_option maxRecDepth 100000 in
theorem mv_mw51 : mv_mwP mv_m51 := ⟨⟨1350, rfl⟩, ⟨129, by decide +kernel⟩, ⟨1348, by decide +kernel⟩, fun _ => ⟨1349, by decide +kernel⟩, by decide +kernel⟩
set_option maxRecDepth 100000 in
theorem mv_mw52 : mv_mwP mv_m52 := ⟨⟨631, rfl⟩, ⟨130, by decide +kernel⟩, ⟨630, by decide +kernel⟩, fun h => absurd h (by decide), by decide +kernel⟩
set_option maxRecDepth 100000 in
theorem mv_mw53 : mv_mwP mv_m53 := ⟨⟨1377, rfl⟩, ⟨130, by decide +kernel⟩, ⟨1375, by decide +kernel⟩, fun _ => ⟨1376, by decide +kernel⟩, by decide +kernel⟩
set_option maxRecDepth 100000 in
theorem mv_mw54 : mv_mwP mv_m54 := ⟨⟨1381, rfl⟩, ⟨130, by decide +kernel⟩, ⟨1379, by decide +kernel⟩, fun _ => ⟨1380, by decide +kernel⟩, by decide +kernel⟩
set_option maxRecDepth 100000 in
theorem mv_mw55 : mv_mwP mv_m55 := ⟨⟨1387, rfl⟩, ⟨130, by decide +kernel⟩, ⟨1386, by decide +kernel⟩, fun _ => ⟨46, by decide +kernel⟩, by decide +kernel⟩
set_option maxRecDepth 100000 in
theorem mv_mw56 : mv_mwP mv_m56 := ⟨⟨1391, rfl⟩, ⟨130, by decide +kernel⟩, ⟨1390, by decide +kernel⟩, fun _ => ⟨47, by decide +kernel⟩, by decide +kernel⟩
set_option maxRecDepth 100000 in
theorem mv_mw57 : mv_mwP mv_m57 := ⟨⟨1395, rfl⟩, ⟨130, by decide +kernel⟩, ⟨1394, by decide +kernel⟩, fun _ => ⟨48, by decide +kernel⟩, by decide +kernel⟩
set_option maxRecDepth 100000 in
theorem mv_mw58 : mv_mwP mv_m58 := ⟨⟨1399, rfl⟩, ⟨130, by decide +kernel⟩, ⟨1398, by decide +kernel⟩, fun _ => ⟨49, by decide +kernel⟩, by decide +kernel⟩
set_option maxRecDepth 100000 in
theorem mv_mw59 : mv_mwP mv_m59 := ⟨⟨549, rfl⟩, ⟨128, by decide +kernel⟩, ⟨548, by decide +kernel⟩, fun h => absurd h (by decide), by decide +kernel⟩
set_option maxRecDepth 100000 in
theorem mv_mw60 : mv_mwP mv_m60 := ⟨⟨1234, rfl⟩, ⟨128, by decide +kernel⟩, ⟨1232, by decide +kernel⟩, fun _ => ⟨1233, by decide +kernel⟩, by decide +kernel⟩
set_option maxRecDepth 100000 in
theorem mv_mw61 : mv_mwP mv_m61 := ⟨⟨1238, rfl⟩, ⟨128, by decide +kernel⟩, ⟨1236, by decide +kernel⟩, fun _ => ⟨1237, by decide +kernel⟩, by decide +kernel⟩
set_option maxRecDepth 100000 in
theorem mv_mw62 : mv_mwP mv_m62 := ⟨⟨1259, rfl⟩, ⟨128, by decide +kernel⟩, ⟨1257, by decide +kernel⟩, fun _ => ⟨1258, by decide +kernel⟩, by decide +kernel⟩
set_option maxRecDepth 100000 in
theorem mv_mw63 : mv_mwP mv_m63 := ⟨⟨1264, rfl⟩, ⟨128, by decide +kernel⟩, ⟨1263, by decide +kernel⟩, fun _ => ⟨37, by decide +kernel⟩, by decide +kernel⟩
