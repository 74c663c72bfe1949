-- the cells behind both constructors (address: place + 4): arrays (type, length); objects (class, fields: 0 int, 1 long, 2 a reference that changes, 3 boolean, r + 4 the reference r for good)
abbrev ms_Lay : Type := (Nat × Nat) ⊕ (Nat × List Nat)
def ms_lay : List ms_Lay := [.inr (11, [9, 0, 10, 2, 2, 33, 2, 42, 43, 0, 44, 51, 58, 61, 68, 77, 81, 0, 0, 0, 0]),
  .inl (0, 1200),
  .inr (10, [11, 12, 13, 14, 0, 0, 0, 0]),
  .inl (1, 31),
  .inl (0, 1201),
  .inl (0, 1201),
  .inl (1, 1201),
  .inr (9, [16, 17, 18, 19, 0, 20, 21, 0, 0, 0, 0, 22, 23]),
  .inl (0, 20),
  .inl (0, 20),
  .inl (0, 20),
  .inl (3, 20),
  .inl (1, 8),
  .inl (3, 8),
  .inl (0, 22),
  .inl (0, 20),
  .inr (9, [25, 26, 27, 28, 0, 29, 30, 0, 0, 0, 0, 31, 32]),
  .inl (0, 20),
  .inl (0, 20),
  .inl (0, 20),
  .inl (3, 20),
  .inl (1, 8),
  .inl (3, 8),
  .inl (0, 22),
  .inl (0, 20),
  .inl (4, 4),
  .inr (0, [35, 0, 36, 37, 38, 0, 0, 39, 40, 41, 0, 0, 0, 0, 0, 0, 0, 0]),
  .inl (0, 512),
  .inl (1, 6),
  .inl (0, 6),
  .inl (0, 6),
  .inl (0, 8),
  .inl (0, 8),
  .inl (0, 8),
  .inr (1, [2, 2, 2, 0, 3, 0]),
  .inl (5, 20),
  .inr (2, [45, 46, 47, 48, 49, 50, 0]),
  .inl (0, 200),
  .inl (0, 200),
  .inl (3, 200),
  .inl (0, 200),
  .inl (0, 200),
  .inl (0, 200),
  .inr (2, [52, 53, 54, 55, 56, 57, 0]),
  .inl (0, 60),
  .inl (0, 60),
  .inl (3, 60),
  .inl (0, 60),
  .inl (0, 60),
  .inl (0, 60),
  .inr (3, [59, 60, 0, 0]),
  .inl (0, 64),
  .inl (0, 11),
  .inr (4, [2, 2, 2, 2, 2, 0, 0, 0, 62, 0, 63, 64, 65, 66, 67]),
  .inl (0, 200),
  .inl (0, 200),
  .inl (0, 200),
  .inl (0, 200),
  .inl (3, 20),
  .inl (0, 20),
  .inr (7, [0, 0, 0, 0, 3, 0, 0, 0, 69, 70, 71, 72, 73, 74, 75, 76]),
  .inl (0, 8),
  .inl (3, 8),
  .inl (0, 8),
  .inl (0, 8),
  .inl (0, 8),
  .inl (0, 8),
  .inl (0, 8),
  .inl (0, 8),
  .inr (5, [78, 79, 0, 80]),
  .inl (0, 8),
  .inl (0, 8),
  .inl (0, 256),
  .inr (6, [3, 82, 0, 0, 0, 2, 2, 2]),
  .inl (0, 6),
  .inr (0, [84, 0, 85, 86, 87, 0, 0, 88, 89, 90, 0, 0, 0, 0, 0, 0, 0, 0]),
  .inl (0, 512),
  .inl (1, 6),
  .inl (0, 6),
  .inl (0, 6),
  .inl (0, 8),
  .inl (0, 8),
  .inl (0, 8),
  .inr (0, [92, 0, 93, 94, 95, 0, 0, 96, 97, 98, 0, 0, 0, 0, 0, 0, 0, 0]),
  .inl (0, 512),
  .inl (1, 6),
  .inl (0, 6),
  .inl (0, 6),
  .inl (0, 8),
  .inl (0, 8),
  .inl (0, 8),
  .inr (0, [100, 0, 101, 102, 103, 0, 0, 104, 105, 106, 0, 0, 0, 0, 0, 0, 0, 0]),
  .inl (0, 512),
  .inl (1, 6),
  .inl (0, 6),
  .inl (0, 6),
  .inl (0, 8),
  .inl (0, 8),
  .inl (0, 8),
  .inr (0, [108, 0, 109, 110, 111, 0, 0, 112, 113, 114, 0, 0, 0, 0, 0, 0, 0, 0]),
  .inl (0, 512),
  .inl (1, 6),
  .inl (0, 6),
  .inl (0, 6),
  .inl (0, 8),
  .inl (0, 8),
  .inl (0, 8),
  .inr (8, [0, 0, 0, 0, 0, 0, 0, 3, 3]),
  .inr (8, [0, 0, 0, 0, 0, 0, 0, 3, 3]),
  .inr (8, [0, 0, 0, 0, 0, 0, 0, 3, 3]),
  .inr (8, [0, 0, 0, 0, 0, 0, 0, 3, 3]),
  .inr (8, [0, 0, 0, 0, 0, 0, 0, 3, 3]),
  .inr (8, [0, 0, 0, 0, 0, 0, 0, 3, 3]),
  .inr (8, [0, 0, 0, 0, 0, 0, 0, 3, 3]),
  .inr (8, [0, 0, 0, 0, 0, 0, 0, 3, 3]),
  .inr (8, [0, 0, 0, 0, 0, 0, 0, 3, 3]),
  .inr (8, [0, 0, 0, 0, 0, 0, 0, 3, 3]),
  .inr (8, [0, 0, 0, 0, 0, 0, 0, 3, 3]),
  .inr (8, [0, 0, 0, 0, 0, 0, 0, 3, 3]),
  .inr (8, [0, 0, 0, 0, 0, 0, 0, 3, 3]),
  .inr (8, [0, 0, 0, 0, 0, 0, 0, 3, 3]),
  .inr (8, [0, 0, 0, 0, 0, 0, 0, 3, 3]),
  .inr (8, [0, 0, 0, 0, 0, 0, 0, 3, 3]),
  .inr (8, [0, 0, 0, 0, 0, 0, 0, 3, 3]),
  .inr (8, [0, 0, 0, 0, 0, 0, 0, 3, 3]),
  .inr (8, [0, 0, 0, 0, 0, 0, 0, 3, 3]),
  .inr (8, [0, 0, 0, 0, 0, 0, 0, 3, 3]),
  .inr (12, [136, 137, 0, 0, 0, 0, 0, 0, 0, 0, 1, 138, 139, 140, 141, 142, 143, 144, 145, 146, 0, 0, 147, 148, 149, 150, 151, 152, 153, 154, 155, 156, 157, 158, 159, 160, 161, 0, 0, 0, 0, 0, 162, 163, 164, 165, 166, 167, 168, 169, 0, 0, 0, 0, 0, 0, 0, 0, 0, 0, 0, 0, 0, 170, 171, 172, 173, 174, 175, 176, 177, 0, 0, 178, 179, 180, 181, 182, 183, 0, 184, 185, 186, 187, 188, 189, 190, 191, 192, 193, 0, 0, 0, 0, 0, 0, 194, 195, 196, 197, 198, 199, 200, 201, 202, 0, 0, 0, 203, 204, 0, 0]),
  .inl (2, 1220),
  .inl (2, 1200),
  .inl (0, 2),
  .inl (0, 2),
  .inl (0, 2),
  .inl (0, 40),
  .inl (0, 40),
  .inl (0, 40),
  .inl (3, 40),
  .inl (3, 16),
  .inl (1, 16),
  .inl (0, 5),
  .inl (0, 5),
  .inl (0, 5),
  .inl (0, 40),
  .inl (0, 20),
  .inl (0, 75),
  .inl (0, 75),
  .inl (0, 6000),
  .inl (0, 6000),
  .inl (0, 80),
  .inl (0, 80),
  .inl (0, 140),
  .inl (3, 20),
  .inl (3, 5),
  .inl (1, 30),
  .inl (0, 20),
  .inl (0, 20),
  .inl (0, 20),
  .inl (0, 20),
  .inl (0, 20),
  .inl (0, 20),
  .inl (0, 20),
  .inl (3, 20),
  .inl (0, 6),
  .inl (0, 200),
  .inl (0, 200),
  .inl (0, 200),
  .inl (0, 200),
  .inl (0, 200),
  .inl (3, 200),
  .inl (3, 200),
  .inl (0, 200),
  .inl (0, 200),
  .inl (0, 200),
  .inl (0, 200),
  .inl (0, 20),
  .inl (3, 20),
  .inl (0, 8),
  .inl (0, 8),
  .inl (0, 8),
  .inl (0, 8),
  .inl (0, 8),
  .inl (0, 8),
  .inl (0, 8),
  .inl (0, 8),
  .inl (3, 8),
  .inl (3, 8),
  .inl (0, 60),
  .inl (0, 60),
  .inl (0, 60),
  .inl (0, 60),
  .inl (0, 60),
  .inl (0, 8),
  .inl (0, 8),
  .inl (0, 8),
  .inl (3, 60),
  .inl (0, 22),
  .inl (0, 22)]
set_option maxRecDepth 100000 in
theorem mv_at0 : mv_mc[0]? = some (mv_m0, mv_c0) := rfl
set_option maxRecDepth 100000 in
theorem mv_at1 : mv_mc[1]? = some (mv_m1, mv_c1) := rfl
set_option maxRecDepth 100000 in
theorem mv_at2 : mv_mc[2]? = some (mv_m2, mv_c2) := rfl
set_option maxRecDepth 100000 in
theorem mv_at3 : mv_mc[3]? = some (mv_m3, mv_c3) := rfl
set_option maxRecDepth 100000 in
theorem mv_at4 : mv_mc[4]? = some (mv_m4, mv_c4) := rfl
set_option maxRecDepth 100000 in
theorem mv_at5 : mv_mc[5]? = some (mv_m5, mv_c5) := rfl
set_option maxRecDepth 100000 in
theorem mv_at6 : mv_mc[6]? = some (mv_m6, mv_c6) := rfl
set_option maxRecDepth 100000 in
theorem mv_at7 : mv_mc[7]? = some (mv_m7, mv_c7) := rfl
set_option maxRecDepth 100000 in
theorem mv_at8 : mv_mc[8]? = some (mv_m8, mv_c8) := rfl
set_option maxRecDepth 100000 in
theorem mv_at9 : mv_mc[9]? = some (mv_m9, mv_c9) := rfl
set_option maxRecDepth 100000 in
theorem mv_at10 : mv_mc[10]? = some (mv_m10, mv_c10) := rfl
set_option maxRecDepth 100000 in
theorem mv_at11 : mv_mc[11]? = some (mv_m11, mv_c11) := rfl
set_option maxRecDepth 100000 in
theorem mv_at12 : mv_mc[12]? = some (mv_m12, mv_c12) := rfl
set_option maxRecDepth 100000 in
theorem mv_at13 : mv_mc[13]? = some (mv_m13, mv_c13) := rfl
set_option maxRecDepth 100000 in
theorem mv_at14 : mv_mc[14]? = some (mv_m14, mv_c14) := rfl
set_option maxRecDepth 100000 in
theorem mv_at15 : mv_mc[15]? = some (mv_m15, mv_c15) := rfl
set_option maxRecDepth 100000 in
theorem mv_at16 : mv_mc[16]? = some (mv_m16, mv_c16) := rfl
set_option maxRecDepth 100000 in
theorem mv_at17 : mv_mc[17]? = some (mv_m17, mv_c17) := rfl
set_option maxRecDepth 100000 in
theorem mv_at18 : mv_mc[18]? = some (mv_m18, mv_c18) := rfl
set_option maxRecDepth 100000 in
theorem mv_at19 : mv_mc[19]? = some (mv_m19, mv_c19) := rfl
set_option maxRecDepth 100000 in
theorem mv_at20 : mv_mc[20]? = some (mv_m20, mv_c20) := rfl
set_option maxRecDepth 100000 in
theorem mv_at21 : mv_mc[21]? = some (mv_m21, mv_c21) := rfl
set_option maxRecDepth 100000 in
theorem mv_at22 : mv_mc[22]? = some (mv_m22, mv_c22) := rfl
set_option maxRecDepth 100000 in
theorem mv_at23 : mv_mc[23]? = some (mv_m23, mv_c23) := rfl
set_option maxRecDepth 100000 in
theorem mv_at24 : mv_mc[24]? = some (mv_m24, mv_c24) := rfl
set_option maxRecDepth 100000 in
theorem mv_at25 : mv_mc[25]? = some (mv_m25, mv_c25) := rfl
set_option maxRecDepth 100000 in
theorem mv_at26 : mv_mc[26]? = some (mv_m26, mv_c26) := rfl
set_option maxRecDepth 100000 in
theorem mv_at27 : mv_mc[27]? = some (mv_m27, mv_c27) := rfl
set_option maxRecDepth 100000 in
theorem mv_at28 : mv_mc[28]? = some (mv_m28, mv_c28) := rfl
set_option maxRecDepth 100000 in
theorem mv_at29 : mv_mc[29]? = some (mv_m29, mv_c29) := rfl
set_option maxRecDepth 100000 in
theorem mv_at30 : mv_mc[30]? = some (mv_m30, mv_c30) := rfl
set_option maxRecDepth 100000 in
theorem mv_at31 : mv_mc[31]? = some (mv_m31, mv_c31) := rfl
set_option maxRecDepth 100000 in
theorem mv_at32 : mv_mc[32]? = some (mv_m32, mv_c32) := rfl
set_option maxRecDepth 100000 in
theorem mv_at33 : mv_mc[33]? = some (mv_m33, mv_c33) := rfl
set_option maxRecDepth 100000 in
theorem mv_at34 : mv_mc[34]? = some (mv_m34, mv_c34) := rfl
set_option maxRecDepth 100000 in
theorem mv_at35 : mv_mc[35]? = some (mv_m35, mv_c35) := rfl
set_option maxRecDepth 100000 in
theorem mv_at36 : mv_mc[36]? = some (mv_m36, mv_c36) := rfl
set_option maxRecDepth 100000 in
theorem mv_at37 : mv_mc[37]? = some (mv_m37, mv_c37) := rfl
set_option maxRecDepth 100000 in
theorem mv_at38 : mv_mc[38]? = some (mv_m38, mv_c38) := rfl
set_option maxRecDepth 100000 in
theorem mv_at39 : mv_mc[39]? = some (mv_m39, mv_c39) := rfl
set_option maxRecDepth 100000 in
theorem mv_at40 : mv_mc[40]? = some (mv_m40, mv_c40) := rfl
set_option maxRecDepth 100000 in
theorem mv_at41 : mv_mc[41]? = some (mv_m41, mv_c41) := rfl
set_option maxRecDepth 100000 in
theorem mv_at42 : mv_mc[42]? = some (mv_m42, mv_c42) := rfl
set_option maxRecDepth 100000 in
theorem mv_at43 : mv_mc[43]? = some (mv_m43, mv_c43) := rfl
set_option maxRecDepth 100000 in
theorem mv_at44 : mv_mc[44]? = some (mv_m44, mv_c44) := rfl
set_option maxRecDepth 100000 in
theorem mv_at45 : mv_mc[45]? = some (mv_m45, mv_c45) := rfl
set_option maxRecDepth 100000 in
theorem mv_at46 : mv_mc[46]? = some (mv_m46, mv_c46) := rfl
set_option maxRecDepth 100000 in
theorem mv_at47 : mv_mc[47]? = some (mv_m47, mv_c47) := rfl
set_option maxRecDepth 100000 in
theorem mv_at48 : mv_mc[48]? = some (mv_m48, mv_c48) := rfl
set_option maxRecDepth 100000 in
theorem mv_at49 : mv_mc[49]? = some (mv_m49, mv_c49) := rfl
set_option maxRecDepth 100000 in
theorem mv_at50 : mv_mc[50]? = some (mv_m50, mv_c50) := rfl
set_option maxRecDepth 100000 in
theorem mv_at51 : mv_mc[51]? = some (mv_m51, mv_c51) := rfl
set_option maxRecDepth 100000 in
theorem mv_at52 : mv_mc[52]? = some (mv_m52, mv_c52) := rfl
set_option maxRecDepth 100000 in
theorem mv_at53 : mv_mc[53]? = some (mv_m53, mv_c53) := rfl
set_option maxRecDepth 100000 in
theorem mv_at54 : mv_mc[54]? = some (mv_m54, mv_c54) := rfl
set_option maxRecDepth 100000 in
theorem mv_at55 : mv_mc[55]? = some (mv_m55, mv_c55) := rfl
set_option maxRecDepth 100000 in
theorem mv_at56 : mv_mc[56]? = some (mv_m56, mv_c56) := rfl
set_option maxRecDepth 100000 in
theorem mv_at57 : mv_mc[57]? = some (mv_m57, mv_c57) := rfl
set_option maxRecDepth 100000 in
theorem mv_at58 : mv_mc[58]? = some (mv_m58, mv_c58) := rfl
set_option maxRecDepth 100000 in
theorem mv_at59 : mv_mc[59]? = some (mv_m59, mv_c59) := rfl
set_option maxRecDepth 100000 in
theorem mv_at60 : mv_mc[60]? = some (mv_m60, mv_c60) := rfl
set_option maxRecDepth 100000 in
theorem mv_at61 : mv_mc[61]? = some (mv_m61, mv_c61) := rfl
set_option maxRecDepth 100000 in
theorem mv_at62 : mv_mc[62]? = some (mv_m62, mv_c62) := rfl
set_option maxRecDepth 100000 in
theorem mv_at63 : mv_mc[63]? = some (mv_m63, mv_c63) := rfl
set_option maxRecDepth 100000 in
theorem mv_at64 : mv_mc[64]? = some (mv_m64, mv_c64) := rfl
set_option maxRecDepth 100000 in
theorem mv_at65 : mv_mc[65]? = some (mv_m65, mv_c65) := rfl
set_option maxRecDepth 100000 in
theorem mv_at66 : mv_mc[66]? = some (mv_m66, mv_c66) := rfl
set_option maxRecDepth 100000 in
theorem mv_at67 : mv_mc[67]? = some (mv_m67, mv_c67) := rfl
set_option maxRecDepth 100000 in
theorem mv_at68 : mv_mc[68]? = some (mv_m68, mv_c68) := rfl
set_option maxRecDepth 100000 in
theorem mv_at69 : mv_mc[69]? = some (mv_m69, mv_c69) := rfl
set_option maxRecDepth 100000 in
theorem mv_at70 : mv_mc[70]? = some (mv_m70, mv_c70) := rfl
set_option maxRecDepth 100000 in
theorem mv_at71 : mv_mc[71]? = some (mv_m71, mv_c71) := rfl
set_option maxRecDepth 100000 in
theorem mv_at72 : mv_mc[72]? = some (mv_m72, mv_c72) := rfl
set_option maxRecDepth 100000 in
theorem mv_at73 : mv_mc[73]? = some (mv_m73, mv_c73) := rfl
set_option maxRecDepth 100000 in
theorem mv_at74 : mv_mc[74]? = some (mv_m74, mv_c74) := rfl
set_option maxRecDepth 100000 in
theorem mv_at75 : mv_mc[75]? = some (mv_m75, mv_c75) := rfl
set_option maxRecDepth 100000 in
theorem mv_at76 : mv_mc[76]? = some (mv_m76, mv_c76) := rfl
set_option maxRecDepth 100000 in
theorem mv_at77 : mv_mc[77]? = some (mv_m77, mv_c77) := rfl
set_option maxRecDepth 100000 in
theorem mv_at78 : mv_mc[78]? = some (mv_m78, mv_c78) := rfl
set_option maxRecDepth 100000 in
theorem mv_at79 : mv_mc[79]? = some (mv_m79, mv_c79) := rfl
set_option maxRecDepth 100000 in
theorem mv_at80 : mv_mc[80]? = some (mv_m80, mv_c80) := rfl
set_option maxRecDepth 100000 in
theorem mv_at81 : mv_mc[81]? = some (mv_m81, mv_c81) := rfl
set_option maxRecDepth 100000 in
theorem mv_at82 : mv_mc[82]? = some (mv_m82, mv_c82) := rfl
set_option maxRecDepth 100000 in
theorem mv_at83 : mv_mc[83]? = some (mv_m83, mv_c83) := rfl
set_option maxRecDepth 100000 in
theorem mv_at84 : mv_mc[84]? = some (mv_m84, mv_c84) := rfl
set_option maxRecDepth 100000 in
theorem mv_at85 : mv_mc[85]? = some (mv_m85, mv_c85) := rfl
set_option maxRecDepth 100000 in
theorem mv_at86 : mv_mc[86]? = some (mv_m86, mv_c86) := rfl
set_option maxRecDepth 100000 in
theorem mv_at87 : mv_mc[87]? = some (mv_m87, mv_c87) := rfl
set_option maxRecDepth 100000 in
theorem mv_at88 : mv_mc[88]? = some (mv_m88, mv_c88) := rfl
set_option maxRecDepth 100000 in
theorem mv_at89 : mv_mc[89]? = some (mv_m89, mv_c89) := rfl
set_option maxRecDepth 100000 in
theorem mv_at90 : mv_mc[90]? = some (mv_m90, mv_c90) := rfl
set_option maxRecDepth 100000 in
theorem mv_at91 : mv_mc[91]? = some (mv_m91, mv_c91) := rfl
set_option maxRecDepth 100000 in
theorem mv_at92 : mv_mc[92]? = some (mv_m92, mv_c92) := rfl
set_option maxRecDepth 100000 in
theorem mv_at93 : mv_mc[93]? = some (mv_m93, mv_c93) := rfl
set_option maxRecDepth 100000 in
theorem mv_at94 : mv_mc[94]? = some (mv_m94, mv_c94) := rfl
set_option maxRecDepth 100000 in
theorem mv_at95 : mv_mc[95]? = some (mv_m95, mv_c95) := rfl
set_option maxRecDepth 100000 in
theorem mv_at96 : mv_mc[96]? = some (mv_m96, mv_c96) := rfl
set_option maxRecDepth 100000 in
theorem mv_at97 : mv_mc[97]? = some (mv_m97, mv_c97) := rfl
set_option maxRecDepth 100000 in
theorem mv_at98 : mv_mc[98]? = some (mv_m98, mv_c98) := rfl
set_option maxRecDepth 100000 in
theorem mv_at99 : mv_mc[99]? = some (mv_m99, mv_c99) := rfl
set_option maxRecDepth 100000 in
theorem mv_at100 : mv_mc[100]? = some (mv_m100, mv_c100) := rfl
set_option maxRecDepth 100000 in
theorem mv_at101 : mv_mc[101]? = some (mv_m101, mv_c101) := rfl
set_option maxRecDepth 100000 in
theorem mv_at102 : mv_mc[102]? = some (mv_m102, mv_c102) := rfl
set_option maxRecDepth 100000 in
theorem mv_at103 : mv_mc[103]? = some (mv_m103, mv_c103) := rfl
set_option maxRecDepth 100000 in
theorem mv_at104 : mv_mc[104]? = some (mv_m104, mv_c104) := rfl
set_option maxRecDepth 100000 in
theorem mv_at105 : mv_mc[105]? = some (mv_m105, mv_c105) := rfl
set_option maxRecDepth 100000 in
theorem mv_at106 : mv_mc[106]? = some (mv_m106, mv_c106) := rfl
set_option maxRecDepth 100000 in
theorem mv_at107 : mv_mc[107]? = some (mv_m107, mv_c107) := rfl
set_option maxRecDepth 100000 in
theorem mv_at108 : mv_mc[108]? = some (mv_m108, mv_c108) := rfl
set_option maxRecDepth 100000 in
theorem mv_at109 : mv_mc[109]? = some (mv_m109, mv_c109) := rfl
set_option maxRecDepth 100000 in
theorem mv_at110 : mv_mc[110]? = some (mv_m110, mv_c110) := rfl
set_option maxRecDepth 100000 in
theorem mv_at111 : mv_mc[111]? = some (mv_m111, mv_c111) := rfl
set_option maxRecDepth 100000 in
theorem mv_at112 : mv_mc[112]? = some (mv_m112, mv_c112) := rfl
set_option maxRecDepth 100000 in
theorem mv_at113 : mv_mc[113]? = some (mv_m113, mv_c113) := rfl
set_option maxRecDepth 100000 in
theorem mv_at114 : mv_mc[114]? = some (mv_m114, mv_c114) := rfl
set_option maxRecDepth 100000 in
theorem mv_at115 : mv_mc[115]? = some (mv_m115, mv_c115) := rfl
set_option maxRecDepth 100000 in
theorem mv_at116 : mv_mc[116]? = some (mv_m116, mv_c116) := rfl
set_option maxRecDepth 100000 in
theorem mv_at117 : mv_mc[117]? = some (mv_m117, mv_c117) := rfl
set_option maxRecDepth 100000 in
theorem mv_at118 : mv_mc[118]? = some (mv_m118, mv_c118) := rfl
set_option maxRecDepth 100000 in
theorem mv_at119 : mv_mc[119]? = some (mv_m119, mv_c119) := rfl
set_option maxRecDepth 100000 in
theorem mv_at120 : mv_mc[120]? = some (mv_m120, mv_c120) := rfl
set_option maxRecDepth 100000 in
theorem mv_at121 : mv_mc[121]? = some (mv_m121, mv_c121) := rfl
set_option maxRecDepth 100000 in
theorem mv_at122 : mv_mc[122]? = some (mv_m122, mv_c122) := rfl
set_option maxRecDepth 100000 in
theorem mv_at123 : mv_mc[123]? = some (mv_m123, mv_c123) := rfl
set_option maxRecDepth 100000 in
theorem mv_at124 : mv_mc[124]? = some (mv_m124, mv_c124) := rfl
set_option maxRecDepth 100000 in
theorem mv_at125 : mv_mc[125]? = some (mv_m125, mv_c125) := rfl
set_option maxRecDepth 100000 in
theorem mv_at126 : mv_mc[126]? = some (mv_m126, mv_c126) := rfl
set_option maxRecDepth 100000 in
theorem mv_at127 : mv_mc[127]? = some (mv_m127, mv_c127) := rfl
set_option maxRecDepth 100000 in
theorem mv_at128 : mv_mc[128]? = some (mv_m128, mv_c128) := rfl
set_option maxRecDepth 100000 in
theorem mv_at129 : mv_mc[129]? = some (mv_m129, mv_c129) := rfl
set_option maxRecDepth 100000 in
theorem mv_at130 : mv_mc[130]? = some (mv_m130, mv_c130) := rfl
set_option maxRecDepth 100000 in
theorem mv_at131 : mv_mc[131]? = some (mv_m131, mv_c131) := rfl
set_option maxRecDepth 100000 in
theorem mv_at132 : mv_mc[132]? = some (mv_m132, mv_c132) := rfl
set_option maxRecDepth 100000 in
theorem mv_at133 : mv_mc[133]? = some (mv_m133, mv_c133) := rfl
set_option maxRecDepth 100000 in
theorem mv_at134 : mv_mc[134]? = some (mv_m134, mv_c134) := rfl
set_option maxRecDepth 100000 in
theorem mv_at135 : mv_mc[135]? = some (mv_m135, mv_c135) := rfl
set_option maxRecDepth 100000 in
theorem mv_at136 : mv_mc[136]? = some (mv_m136, mv_c136) := rfl
set_option maxRecDepth 100000 in
theorem mv_at137 : mv_mc[137]? = some (mv_m137, mv_c137) := rfl
set_option maxRecDepth 100000 in
theorem mv_at138 : mv_mc[138]? = some (mv_m138, mv_c138) := rfl
set_option maxRecDepth 100000 in
theorem mv_at139 : mv_mc[139]? = some (mv_m139, mv_c139) := rfl
set_option maxRecDepth 100000 in
theorem mv_at140 : mv_mc[140]? = some (mv_m140, mv_c140) := rfl
set_option maxRecDepth 100000 in
theorem mv_at141 : mv_mc[141]? = some (mv_m141, mv_c141) := rfl
set_option maxRecDepth 100000 in
theorem mv_at142 : mv_mc[142]? = some (mv_m142, mv_c142) := rfl
set_option maxRecDepth 100000 in
theorem mv_at143 : mv_mc[143]? = some (mv_m143, mv_c143) := rfl
set_option maxRecDepth 100000 in
theorem mv_at144 : mv_mc[144]? = some (mv_m144, mv_c144) := rfl
set_option maxRecDepth 100000 in
theorem mv_at145 : mv_mc[145]? = some (mv_m145, mv_c145) := rfl
set_option maxRecDepth 100000 in
theorem mv_at146 : mv_mc[146]? = some (mv_m146, mv_c146) := rfl
set_option maxRecDepth 100000 in
theorem mv_at147 : mv_mc[147]? = some (mv_m147, mv_c147) := rfl
set_option maxRecDepth 100000 in
theorem mv_at148 : mv_mc[148]? = some (mv_m148, mv_c148) := rfl
set_option maxRecDepth 100000 in
theorem mv_at149 : mv_mc[149]? = some (mv_m149, mv_c149) := rfl
set_option maxRecDepth 100000 in
theorem mv_at150 : mv_mc[150]? = some (mv_m150, mv_c150) := rfl
set_option maxRecDepth 100000 in
theorem mv_at151 : mv_mc[151]? = some (mv_m151, mv_c151) := rfl
set_option maxRecDepth 100000 in
theorem mv_at152 : mv_mc[152]? = some (mv_m152, mv_c152) := rfl
set_option maxRecDepth 100000 in
theorem mv_at153 : mv_mc[153]? = some (mv_m153, mv_c153) := rfl
set_option maxRecDepth 100000 in
theorem mv_at154 : mv_mc[154]? = some (mv_m154, mv_c154) := rfl
set_option maxRecDepth 100000 in
theorem mv_at155 : mv_mc[155]? = some (mv_m155, mv_c155) := rfl
set_option maxRecDepth 100000 in
theorem mv_at156 : mv_mc[156]? = some (mv_m156, mv_c156) := rfl
set_option maxRecDepth 100000 in
theorem mv_at157 : mv_mc[157]? = some (mv_m157, mv_c157) := rfl
set_option maxRecDepth 100000 in
theorem mv_at158 : mv_mc[158]? = some (mv_m158, mv_c158) := rfl
set_option maxRecDepth 100000 in
theorem mv_at159 : mv_mc[159]? = some (mv_m159, mv_c159) := rfl
set_option maxRecDepth 100000 in
theorem mv_at160 : mv_mc[160]? = some (mv_m160, mv_c160) := rfl
set_option maxRecDepth 100000 in
theorem mv_at161 : mv_mc[161]? = some (mv_m161, mv_c161) := rfl
set_option maxRecDepth 100000 in
theorem mv_at162 : mv_mc[162]? = some (mv_m162, mv_c162) := rfl
set_option maxRecDepth 100000 in
theorem mv_at163 : mv_mc[163]? = some (mv_m163, mv_c163) := rfl
set_option maxRecDepth 100000 in
theorem mv_at164 : mv_mc[164]? = some (mv_m164, mv_c164) := rfl
set_option maxRecDepth 100000 in
theorem mv_at165 : mv_mc[165]? = some (mv_m165, mv_c165) := rfl
set_option maxRecDepth 100000 in
theorem mv_at166 : mv_mc[166]? = some (mv_m166, mv_c166) := rfl
set_option maxRecDepth 100000 in
theorem mv_at167 : mv_mc[167]? = some (mv_m167, mv_c167) := rfl
set_option maxRecDepth 100000 in
theorem mv_at168 : mv_mc[168]? = some (mv_m168, mv_c168) := rfl
set_option maxRecDepth 100000 in
theorem mv_at169 : mv_mc[169]? = some (mv_m169, mv_c169) := rfl
set_option maxRecDepth 100000 in
theorem mv_at170 : mv_mc[170]? = some (mv_m170, mv_c170) := rfl
set_option maxRecDepth 100000 in
theorem mv_at171 : mv_mc[171]? = some (mv_m171, mv_c171) := rfl
set_option maxRecDepth 100000 in
theorem mv_at172 : mv_mc[172]? = some (mv_m172, mv_c172) := rfl
set_option maxRecDepth 100000 in
theorem mv_at173 : mv_mc[173]? = some (mv_m173, mv_c173) := rfl
set_option maxRecDepth 100000 in
theorem mv_at174 : mv_mc[174]? = some (mv_m174, mv_c174) := rfl
set_option maxRecDepth 100000 in
theorem mv_at175 : mv_mc[175]? = some (mv_m175, mv_c175) := rfl
set_option maxRecDepth 100000 in
theorem mv_at176 : mv_mc[176]? = some (mv_m176, mv_c176) := rfl
set_option maxRecDepth 100000 in
theorem mv_at177 : mv_mc[177]? = some (mv_m177, mv_c177) := rfl
set_option maxRecDepth 100000 in
theorem mv_at178 : mv_mc[178]? = some (mv_m178, mv_c178) := rfl
set_option maxRecDepth 100000 in
theorem mv_at179 : mv_mc[179]? = some (mv_m179, mv_c179) := rfl
set_option maxRecDepth 100000 in
theorem mv_at180 : mv_mc[180]? = some (mv_m180, mv_c180) := rfl
set_option maxRecDepth 100000 in
theorem mv_at181 : mv_mc[181]? = some (mv_m181, mv_c181) := rfl
set_option maxRecDepth 100000 in
theorem mv_at182 : mv_mc[182]? = some (mv_m182, mv_c182) := rfl
set_option maxRecDepth 100000 in
theorem mv_at183 : mv_mc[183]? = some (mv_m183, mv_c183) := rfl
set_option maxRecDepth 100000 in
theorem mv_at184 : mv_mc[184]? = some (mv_m184, mv_c184) := rfl
set_option maxRecDepth 100000 in
theorem mv_at185 : mv_mc[185]? = some (mv_m185, mv_c185) := rfl
set_option maxRecDepth 100000 in
theorem mv_at186 : mv_mc[186]? = some (mv_m186, mv_c186) := rfl
set_option maxRecDepth 100000 in
theorem mv_at187 : mv_mc[187]? = some (mv_m187, mv_c187) := rfl
set_option maxRecDepth 100000 in
theorem mv_at188 : mv_mc[188]? = some (mv_m188, mv_c188) := rfl
set_option maxRecDepth 100000 in
theorem mv_at189 : mv_mc[189]? = some (mv_m189, mv_c189) := rfl
set_option maxRecDepth 100000 in
theorem mv_at190 : mv_mc[190]? = some (mv_m190, mv_c190) := rfl
set_option maxRecDepth 100000 in
theorem mv_at191 : mv_mc[191]? = some (mv_m191, mv_c191) := rfl
set_option maxRecDepth 100000 in
theorem mv_at192 : mv_mc[192]? = some (mv_m192, mv_c192) := rfl
set_option maxRecDepth 100000 in
theorem mv_at193 : mv_mc[193]? = some (mv_m193, mv_c193) := rfl
set_option maxRecDepth 100000 in
theorem mv_at194 : mv_mc[194]? = some (mv_m194, mv_c194) := rfl
set_option maxRecDepth 100000 in
theorem mv_at195 : mv_mc[195]? = some (mv_m195, mv_c195) := rfl
set_option maxRecDepth 100000 in
theorem mv_at196 : mv_mc[196]? = some (mv_m196, mv_c196) := rfl
set_option maxRecDepth 100000 in
theorem mv_at197 : mv_mc[197]? = some (mv_m197, mv_c197) := rfl
set_option maxRecDepth 100000 in
theorem mv_at198 : mv_mc[198]? = some (mv_m198, mv_c198) := rfl
set_option maxRecDepth 100000 in
theorem mv_at199 : mv_mc[199]? = some (mv_m199, mv_c199) := rfl
set_option maxRecDepth 100000 in
theorem mv_at200 : mv_mc[200]? = some (mv_m200, mv_c200) := rfl
set_option maxRecDepth 100000 in
theorem mv_at201 : mv_mc[201]? = some (mv_m201, mv_c201) := rfl
set_option maxRecDepth 100000 in
theorem mv_at202 : mv_mc[202]? = some (mv_m202, mv_c202) := rfl
set_option maxRecDepth 100000 in
theorem mv_at203 : mv_mc[203]? = some (mv_m203, mv_c203) := rfl
set_option maxRecDepth 100000 in
theorem mv_at204 : mv_mc[204]? = some (mv_m204, mv_c204) := rfl
set_option maxRecDepth 100000 in
theorem mv_at205 : mv_mc[205]? = some (mv_m205, mv_c205) := rfl
set_option maxRecDepth 100000 in
theorem mv_at206 : mv_mc[206]? = some (mv_m206, mv_c206) := rfl
set_option maxRecDepth 100000 in
theorem mv_at207 : mv_mc[207]? = some (mv_m207, mv_c207) := rfl
set_option maxRecDepth 100000 in
theorem mv_at208 : mv_mc[208]? = some (mv_m208, mv_c208) := rfl
set_option maxRecDepth 100000 in
theorem mv_at209 : mv_mc[209]? = some (mv_m209, mv_c209) := rfl
set_option maxRecDepth 100000 in
theorem mv_at210 : mv_mc[210]? = some (mv_m210, mv_c210) := rfl
set_option maxRecDepth 100000 in
theorem mv_at211 : mv_mc[211]? = some (mv_m211, mv_c211) := rfl
set_option maxRecDepth 100000 in
theorem mv_at212 : mv_mc[212]? = some (mv_m212, mv_c212) := rfl
set_option maxRecDepth 100000 in
theorem mv_at213 : mv_mc[213]? = some (mv_m213, mv_c213) := rfl
set_option maxRecDepth 100000 in
theorem mv_at214 : mv_mc[214]? = some (mv_m214, mv_c214) := rfl
set_option maxRecDepth 100000 in
theorem mv_at215 : mv_mc[215]? = some (mv_m215, mv_c215) := rfl
set_option maxRecDepth 100000 in
theorem mv_at216 : mv_mc[216]? = some (mv_m216, mv_c216) := rfl
set_option maxRecDepth 100000 in
theorem mv_at217 : mv_mc[217]? = some (mv_m217, mv_c217) := rfl
set_option maxRecDepth 100000 in
theorem mv_at218 : mv_mc[218]? = some (mv_m218, mv_c218) := rfl
set_option maxRecDepth 100000 in
theorem mv_at219 : mv_mc[219]? = some (mv_m219, mv_c219) := rfl
set_option maxRecDepth 100000 in
theorem mv_at220 : mv_mc[220]? = some (mv_m220, mv_c220) := rfl
set_option maxRecDepth 100000 in
theorem mv_at221 : mv_mc[221]? = some (mv_m221, mv_c221) := rfl
set_option maxRecDepth 100000 in
theorem mv_at222 : mv_mc[222]? = some (mv_m222, mv_c222) := rfl
set_option maxRecDepth 100000 in
theorem mv_at223 : mv_mc[223]? = some (mv_m223, mv_c223) := rfl
set_option maxRecDepth 100000 in
theorem mv_at224 : mv_mc[224]? = some (mv_m224, mv_c224) := rfl
set_option maxRecDepth 100000 in
theorem mv_at225 : mv_mc[225]? = some (mv_m225, mv_c225) := rfl
set_option maxRecDepth 100000 in
theorem mv_at226 : mv_mc[226]? = some (mv_m226, mv_c226) := rfl
set_option maxRecDepth 100000 in
theorem mv_at227 : mv_mc[227]? = some (mv_m227, mv_c227) := rfl
set_option maxRecDepth 100000 in
theorem mv_at228 : mv_mc[228]? = some (mv_m228, mv_c228) := rfl
set_option maxRecDepth 100000 in
theorem mv_at229 : mv_mc[229]? = some (mv_m229, mv_c229) := rfl
set_option maxRecDepth 100000 in
theorem mv_at230 : mv_mc[230]? = some (mv_m230, mv_c230) := rfl
set_option maxRecDepth 100000 in
theorem mv_at231 : mv_mc[231]? = some (mv_m231, mv_c231) := rfl
set_option maxRecDepth 100000 in
theorem mv_at232 : mv_mc[232]? = some (mv_m232, mv_c232) := rfl
set_option maxRecDepth 100000 in
theorem mv_at233 : mv_mc[233]? = some (mv_m233, mv_c233) := rfl
set_option maxRecDepth 100000 in
theorem mv_at234 : mv_mc[234]? = some (mv_m234, mv_c234) := rfl
set_option maxRecDepth 100000 in
theorem mv_at235 : mv_mc[235]? = some (mv_m235, mv_c235) := rfl
set_option maxRecDepth 100000 in
theorem mv_at236 : mv_mc[236]? = some (mv_m236, mv_c236) := rfl
set_option maxRecDepth 100000 in
theorem mv_at237 : mv_mc[237]? = some (mv_m237, mv_c237) := rfl
set_option maxRecDepth 100000 in
theorem mv_at238 : mv_mc[238]? = some (mv_m238, mv_c238) := rfl
set_option maxRecDepth 100000 in
theorem mv_at239 : mv_mc[239]? = some (mv_m239, mv_c239) := rfl
set_option maxRecDepth 100000 in
theorem mv_at240 : mv_mc[240]? = some (mv_m240, mv_c240) := rfl
set_option maxRecDepth 100000 in
theorem mv_at241 : mv_mc[241]? = some (mv_m241, mv_c241) := rfl
set_option maxRecDepth 100000 in
theorem mv_at242 : mv_mc[242]? = some (mv_m242, mv_c242) := rfl
set_option maxRecDepth 100000 in
theorem mv_at243 : mv_mc[243]? = some (mv_m243, mv_c243) := rfl
set_option maxRecDepth 100000 in
theorem mv_at244 : mv_mc[244]? = some (mv_m244, mv_c244) := rfl
set_option maxRecDepth 100000 in
theorem mv_at245 : mv_mc[245]? = some (mv_m245, mv_c245) := rfl
set_option maxRecDepth 100000 in
theorem mv_at246 : mv_mc[246]? = some (mv_m246, mv_c246) := rfl
set_option maxRecDepth 100000 in
theorem mv_at247 : mv_mc[247]? = some (mv_m247, mv_c247) := rfl
set_option maxRecDepth 100000 in
theorem mv_at248 : mv_mc[248]? = some (mv_m248, mv_c248) := rfl
set_option maxRecDepth 100000 in
theorem mv_at249 : mv_mc[249]? = some (mv_m249, mv_c249) := rfl
set_option maxRecDepth 100000 in
theorem mv_at250 : mv_mc[250]? = some (mv_m250, mv_c250) := rfl
set_option maxRecDepth 100000 in
theorem mv_at251 : mv_mc[251]? = some (mv_m251, mv_c251) := rfl
set_option maxRecDepth 100000 in
theorem mv_at252 : mv_mc[252]? = some (mv_m252, mv_c252) := rfl
set_option maxRecDepth 100000 in
theorem mv_at253 : mv_mc[253]? = some (mv_m253, mv_c253) := rfl
set_option maxRecDepth 100000 in
theorem mv_at254 : mv_mc[254]? = some (mv_m254, mv_c254) := rfl
set_option maxRecDepth 100000 in
theorem mv_at255 : mv_mc[255]? = some (mv_m255, mv_c255) := rfl
set_option maxRecDepth 100000 in
theorem mv_at256 : mv_mc[256]? = some (mv_m256, mv_c256) := rfl
