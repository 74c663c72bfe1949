/-! every instruction of every method: it decodes so, and its number means what the tables say -/
def mv_any (T : List mv_Q4) (c i x : Nat) : Bool := T.any fun r => r.1 == c && (r.2.1 == i && r.2.2.1 == x)
def mv_swi (ins : ClassFile.Instr) : Bool := match ins with
  | .tableswitch _ _ _ _ => true
  | .lookupswitch _ _ => true
  | _ => false
def mv_fin (ci x : Nat) (init : Bool) : Bool := match (mv_nf (x / 256))[x % 256]? with
  | some (_, true) => init && x / 256 == ci
  | _ => true
def mv_eW (ci : Nat) (init : Bool) (ins : ClassFile.Instr) (x : Nat) : Bool := match ins with
  | .getfield i => mv_any mv_flT ci i x
  | .putfield i => mv_any mv_flT ci i x && mv_fin ci x init
  | .newarray ty => decide (mv_atT ty < 4)
  | .anewarray i => mv_any mv_anT ci i x
  | .new i => mv_any mv_clT ci i x
  | .ldc i => if x < 1099511627776 then mv_any mv_coT ci i x else ci == 10 && mv_srf.any fun r => r.1 == i && r.2.2 == x - 1099511627776
  | .ldc_w i => mv_any mv_coT ci i x
  | .ldc2_w i => mv_any mv_lcT ci i x
  | .invokevirtual i => if 1001 ≤ x then mv_any mv_naT ci i (x - 1) else decide (x < 257) && (x != 0 && mv_any mv_mlT ci i (x - 1))
  | .invokestatic i => if 1001 ≤ x then mv_any mv_naT ci i (x - 1) else decide (x < 257) && (x != 0 && mv_any mv_mlT ci i (x - 1))
  | .invokespecial i => if x = 0 then mv_any mv_oiT ci i 0 else decide (x < 257) && (mv_any mv_mlT ci i (x - 1) || (ci == 11 && mv_nst.any fun r => r.1 == i && (match mv_mc[x - 1]? with | some ((y, _), _) => decide (r.2 = y) | none => false)))
  | _ => true
def mv_eK (ci : Nat) (init : Bool) (q : Nat × ClassFile.Instr × Nat × Nat) : Bool := (q.2.2.1 == mv_il q.2.1 || mv_swi q.2.1) && mv_eW ci init q.2.1 q.2.2.2
def mv_dK (b : ByteArray) (q : Nat × ClassFile.Instr × Nat × Nat) : Bool := decide (decode b q.1 = .ok (q.2.1, q.2.2.1))
def mv_mK (m : mv_M × mv_Cd) : Prop := m.2.all (mv_dK m.1.2.1) = true ∧ m.2.all (mv_eK m.1.2.2.2.2.1 (m.1.2.2.2.2.2.2 == 2)) = true ∧ mv_cn m.1.2.2.2.2.1 = m.1.1.cls ∧ m.1.2.2.1 ≤ 80
set_option maxRecDepth 100000 in
theorem mv_d0 : mv_mK (mv_m0, mv_c0) := ⟨by decide +kernel, by decide +kernel, by decide +kernel, by decide +kernel⟩
set_option maxRecDepth 100000 in
theorem mv_d1 : mv_mK (mv_m1, mv_c1) := ⟨by decide +kernel, by decide +kernel, by decide +kernel, by decide +kernel⟩
set_option maxRecDepth 100000 in
theorem mv_d2 : mv_mK (mv_m2, mv_c2) := ⟨by decide +kernel, by decide +kernel, by decide +kernel, by decide +kernel⟩
set_option maxRecDepth 100000 in
theorem mv_d3 : mv_mK (mv_m3, mv_c3) := ⟨by decide +kernel, by decide +kernel, by decide +kernel, by decide +kernel⟩
set_option maxRecDepth 100000 in
theorem mv_d4 : mv_mK (mv_m4, mv_c4) := ⟨by decide +kernel, by decide +kernel, by decide +kernel, by decide +kernel⟩
set_option maxRecDepth 100000 in
theorem mv_d5 : mv_mK (mv_m5, mv_c5) := ⟨by decide +kernel, by decide +kernel, by decide +kernel, by decide +kernel⟩
set_option maxRecDepth 100000 in
theorem mv_d6 : mv_mK (mv_m6, mv_c6) := ⟨by decide +kernel, by decide +kernel, by decide +kernel, by decide +kernel⟩
set_option maxRecDepth 100000 in
theorem mv_d7 : mv_mK (mv_m7, mv_c7) := ⟨by decide +kernel, by decide +kernel, by decide +kernel, by decide +kernel⟩
set_option maxRecDepth 100000 in
theorem mv_d8 : mv_mK (mv_m8, mv_c8) := ⟨by decide +kernel, by decide +kernel, by decide +kernel, by decide +kernel⟩
set_option maxRecDepth 100000 in
theorem mv_d9 : mv_mK (mv_m9, mv_c9) := ⟨by decide +kernel, by decide +kernel, by decide +kernel, by decide +kernel⟩
set_option maxRecDepth 100000 in
theorem mv_d10 : mv_mK (mv_m10, mv_c10) := ⟨by decide +kernel, by decide +kernel, by decide +kernel, by decide +kernel⟩
set_option maxRecDepth 100000 in
theorem mv_d11 : mv_mK (mv_m11, mv_c11) := ⟨by decide +kernel, by decide +kernel, by decide +kernel, by decide +kernel⟩
set_option maxRecDepth 100000 in
theorem mv_d12 : mv_mK (mv_m12, mv_c12) := ⟨by decide +kernel, by decide +kernel, by decide +kernel, by decide +kernel⟩
set_option maxRecDepth 100000 in
theorem mv_d13 : mv_mK (mv_m13, mv_c13) := ⟨by decide +kernel, by decide +kernel, by decide +kernel, by decide +kernel⟩
set_option maxRecDepth 100000 in
theorem mv_d14 : mv_mK (mv_m14, mv_c14) := ⟨by decide +kernel, by decide +kernel, by decide +kernel, by decide +kernel⟩
set_option maxRecDepth 100000 in
theorem mv_d15 : mv_mK (mv_m15, mv_c15) := ⟨by decide +kernel, by decide +kernel, by decide +kernel, by decide +kernel⟩
set_option maxRecDepth 100000 in
theorem mv_d16 : mv_mK (mv_m16, mv_c16) := ⟨by decide +kernel, by decide +kernel, by decide +kernel, by decide +kernel⟩
set_option maxRecDepth 100000 in
theorem mv_d17 : mv_mK (mv_m17, mv_c17) := ⟨by decide +kernel, by decide +kernel, by decide +kernel, by decide +kernel⟩
set_option maxRecDepth 100000 in
theorem mv_d18 : mv_mK (mv_m18, mv_c18) := ⟨by decide +kernel, by decide +kernel, by decide +kernel, by decide +kernel⟩
set_option maxRecDepth 100000 in
theorem mv_d19 : mv_mK (mv_m19, mv_c19) := ⟨by decide +kernel, by decide +kernel, by decide +kernel, by decide +kernel⟩
set_option maxRecDepth 100000 in
theorem mv_d20 : mv_mK (mv_m20, mv_c20) := ⟨by decide +kernel, by decide +kernel, by decide +kernel, by decide +kernel⟩
set_option maxRecDepth 100000 in
theorem mv_d21 : mv_mK (mv_m21, mv_c21) := ⟨by decide +kernel, by decide +kernel, by decide +kernel, by decide +kernel⟩
set_option maxRecDepth 100000 in
theorem mv_d22 : mv_mK (mv_m22, mv_c22) := ⟨by decide +kernel, by decide +kernel, by decide +kernel, by decide +kernel⟩
set_option maxRecDepth 100000 in
theorem mv_d23 : mv_mK (mv_m23, mv_c23) := ⟨by decide +kernel, by decide +kernel, by decide +kernel, by decide +kernel⟩
set_option maxRecDepth 100000 in
theorem mv_d24 : mv_mK (mv_m24, mv_c24) := ⟨by decide +kernel, by decide +kernel, by decide +kernel, by decide +kernel⟩
set_option maxRecDepth 100000 in
theorem mv_d25 : mv_mK (mv_m25, mv_c25) := ⟨by decide +kernel, by decide +kernel, by decide +kernel, by decide +kernel⟩
set_option maxRecDepth 100000 in
theorem mv_d26 : mv_mK (mv_m26, mv_c26) := ⟨by decide +kernel, by decide +kernel, by decide +kernel, by decide +kernel⟩
set_option maxRecDepth 100000 in
theorem mv_d27 : mv_mK (mv_m27, mv_c27) := ⟨by decide +kernel, by decide +kernel, by decide +kernel, by decide +kernel⟩
set_option maxRecDepth 100000 in
theorem mv_d28 : mv_mK (mv_m28, mv_c28) := ⟨by decide +kernel, by decide +kernel, by decide +kernel, by decide +kernel⟩
set_option maxRecDepth 100000 in
theorem mv_d29 : mv_mK (mv_m29, mv_c29) := ⟨by decide +kernel, by decide +kernel, by decide +kernel, by decide +kernel⟩
set_option maxRecDepth 100000 in
theorem mv_d30 : mv_mK (mv_m30, mv_c30) := ⟨by decide +kernel, by decide +kernel, by decide +kernel, by decide +kernel⟩
set_option maxRecDepth 100000 in
theorem mv_d31 : mv_mK (mv_m31, mv_c31) := ⟨by decide +kernel, by decide +kernel, by decide +kernel, by decide +kernel⟩
set_option maxRecDepth 100000 in
theorem mv_d32 : mv_mK (mv_m32, mv_c32) := ⟨by decide +kernel, by decide +kernel, by decide +kernel, by decide +kernel⟩
set_option maxRecDepth 100000 in
theorem mv_d33 : mv_mK (mv_m33, mv_c33) := ⟨by decide +kernel, by decide +kernel, by decide +kernel, by decide +kernel⟩
set_option maxRecDepth 100000 in
theorem mv_d34 : mv_mK (mv_m34, mv_c34) := ⟨by decide +kernel, by decide +kernel, by decide +kernel, by decide +kernel⟩
set_option maxRecDepth 100000 in
theorem mv_d35 : mv_mK (mv_m35, mv_c35) := ⟨by decide +kernel, by decide +kernel, by decide +kernel, by decide +kernel⟩
set_option maxRecDepth 100000 in
theorem mv_d36 : mv_mK (mv_m36, mv_c36) := ⟨by decide +kernel, by decide +kernel, by decide +kernel, by decide +kernel⟩
set_option maxRecDepth 100000 in
theorem mv_d37 : mv_mK (mv_m37, mv_c37) := ⟨by decide +kernel, by decide +kernel, by decide +kernel, by decide +kernel⟩
set_option maxRecDepth 100000 in
theorem mv_d38 : mv_mK (mv_m38, mv_c38) := ⟨by decide +kernel, by decide +kernel, by decide +kernel, by decide +kernel⟩
set_option maxRecDepth 100000 in
theorem mv_d39 : mv_mK (mv_m39, mv_c39) := ⟨by decide +kernel, by decide +kernel, by decide +kernel, by decide +kernel⟩
set_option maxRecDepth 100000 in
theorem mv_d40 : mv_mK (mv_m40, mv_c40) := ⟨by decide +kernel, by decide +kernel, by decide +kernel, by decide +kernel⟩
set_option maxRecDepth 100000 in
theorem mv_d41 : mv_mK (mv_m41, mv_c41) := ⟨by decide +kernel, by decide +kernel, by decide +kernel, by decide +kernel⟩
set_option maxRecDepth 100000 in
theorem mv_d42 : mv_mK (mv_m42, mv_c42) := ⟨by decide +kernel, by decide +kernel, by decide +kernel, by decide +kernel⟩
set_option maxRecDepth 100000 in
theorem mv_d43 : mv_mK (mv_m43, mv_c43) := ⟨by decide +kernel, by decide +kernel, by decide +kernel, by decide +kernel⟩
set_option maxRecDepth 100000 in
theorem mv_d44 : mv_mK (mv_m44, mv_c44) := ⟨by decide +kernel, by decide +kernel, by decide +kernel, by decide +kernel⟩
set_option maxRecDepth 100000 in
theorem mv_d45 : mv_mK (mv_m45, mv_c45) := ⟨by decide +kernel, by decide +kernel, by decide +kernel, by decide +kernel⟩
set_option maxRecDepth 100000 in
theorem mv_d46 : mv_mK (mv_m46, mv_c46) := ⟨by decide +kernel, by decide +kernel, by decide +kernel, by decide +kernel⟩
set_option maxRecDepth 100000 in
theorem mv_d47 : mv_mK (mv_m47, mv_c47) := ⟨by decide +kernel, by decide +kernel, by decide +kernel, by decide +kernel⟩
set_option maxRecDepth 100000 in
theorem mv_d48 : mv_mK (mv_m48, mv_c48) := ⟨by decide +kernel, by decide +kernel, by decide +kernel, by decide +kernel⟩
set_option maxRecDepth 100000 in
theorem mv_d49 : mv_mK (mv_m49, mv_c49) := ⟨by decide +kernel, by decide +kernel, by decide +kernel, by decide +kernel⟩
set_option maxRecDepth 100000 in
theorem mv_d50 : mv_mK (mv_m50, mv_c50) := ⟨by decide +kernel, by decide +kernel, by decide +kernel, by decide +kernel⟩
set_option maxRecDepth 100000 in
theorem mv_d51 : mv_mK (mv_m51, mv_c51) := ⟨by decide +kernel, by decide +kernel, by decide +kernel, by decide +kernel⟩
set_option maxRecDepth 100000 in
theorem mv_d52 : mv_mK (mv_m52, mv_c52) := ⟨by decide +kernel, by decide +kernel, by decide +kernel, by decide +kernel⟩
set_option maxRecDepth 100000 in
theorem mv_d53 : mv_mK (mv_m53, mv_c53) := ⟨by decide +kernel, by decide +kernel, by decide +kernel, by decide +kernel⟩
set_option maxRecDepth 100000 in
theorem mv_d54 : mv_mK (mv_m54, mv_c54) := ⟨by decide +kernel, by decide +kernel, by decide +kernel, by decide +kernel⟩
set_option maxRecDepth 100000 in
theorem mv_d55 : mv_mK (mv_m55, mv_c55) := ⟨by decide +kernel, by decide +kernel, by decide +kernel, by decide +kernel⟩
set_option maxRecDepth 100000 in
theorem mv_d56 : mv_mK (mv_m56, mv_c56) := ⟨by decide +kernel, by decide +kernel, by decide +kernel, by decide +kernel⟩
set_option maxRecDepth 100000 in
theorem mv_d57 : mv_mK (mv_m57, mv_c57) := ⟨by decide +kernel, by decide +kernel, by decide +kernel, by decide +kernel⟩
set_option maxRecDepth 100000 in
theorem mv_d58 : mv_mK (mv_m58, mv_c58) := ⟨by decide +kernel, by decide +kernel, by decide +kernel, by decide +kernel⟩
set_option maxRecDepth 100000 in
theorem mv_d59 : mv_mK (mv_m59, mv_c59) := ⟨by decide +kernel, by decide +kernel, by decide +kernel, by decide +kernel⟩
set_option maxRecDepth 100000 in
theorem mv_d60 : mv_mK (mv_m60, mv_c60) := ⟨by decide +kernel, by decide +kernel, by decide +kernel, by decide +kernel⟩
set_option maxRecDepth 100000 in
theorem mv_d61 : mv_mK (mv_m61, mv_c61) := ⟨by decide +kernel, by decide +kernel, by decide +kernel, by decide +kernel⟩
set_option maxRecDepth 100000 in
theorem mv_d62 : mv_mK (mv_m62, mv_c62) := ⟨by decide +kernel, by decide +kernel, by decide +kernel, by decide +kernel⟩
set_option maxRecDepth 100000 in
theorem mv_d63 : mv_mK (mv_m63, mv_c63) := ⟨by decide +kernel, by decide +kernel, by decide +kernel, by decide +kernel⟩
set_option maxRecDepth 100000 in
theorem mv_d64 : mv_mK (mv_m64, mv_c64) := ⟨by decide +kernel, by decide +kernel, by decide +kernel, by decide +kernel⟩
set_option maxRecDepth 100000 in
theorem mv_d65 : mv_mK (mv_m65, mv_c65) := ⟨by decide +kernel, by decide +kernel, by decide +kernel, by decide +kernel⟩
set_option maxRecDepth 100000 in
theorem mv_d66 : mv_mK (mv_m66, mv_c66) := ⟨by decide +kernel, by decide +kernel, by decide +kernel, by decide +kernel⟩
set_option maxRecDepth 100000 in
theorem mv_d67 : mv_mK (mv_m67, mv_c67) := ⟨by decide +kernel, by decide +kernel, by decide +kernel, by decide +kernel⟩
set_option maxRecDepth 100000 in
theorem mv_d68 : mv_mK (mv_m68, mv_c68) := ⟨by decide +kernel, by decide +kernel, by decide +kernel, by decide +kernel⟩
set_option maxRecDepth 100000 in
theorem mv_d69 : mv_mK (mv_m69, mv_c69) := ⟨by decide +kernel, by decide +kernel, by decide +kernel, by decide +kernel⟩
set_option maxRecDepth 100000 in
theorem mv_d70 : mv_mK (mv_m70, mv_c70) := ⟨by decide +kernel, by decide +kernel, by decide +kernel, by decide +kernel⟩
set_option maxRecDepth 100000 in
theorem mv_d71 : mv_mK (mv_m71, mv_c71) := ⟨by decide +kernel, by decide +kernel, by decide +kernel, by decide +kernel⟩
set_option maxRecDepth 100000 in
theorem mv_d72 : mv_mK (mv_m72, mv_c72) := ⟨by decide +kernel, by decide +kernel, by decide +kernel, by decide +kernel⟩
set_option maxRecDepth 100000 in
theorem mv_d73 : mv_mK (mv_m73, mv_c73) := ⟨by decide +kernel, by decide +kernel, by decide +kernel, by decide +kernel⟩
set_option maxRecDepth 100000 in
theorem mv_d74 : mv_mK (mv_m74, mv_c74) := ⟨by decide +kernel, by decide +kernel, by decide +kernel, by decide +kernel⟩
set_option maxRecDepth 100000 in
theorem mv_d75 : mv_mK (mv_m75, mv_c75) := ⟨by decide +kernel, by decide +kernel, by decide +kernel, by decide +kernel⟩
set_option maxRecDepth 100000 in
theorem mv_d76 : mv_mK (mv_m76, mv_c76) := ⟨by decide +kernel, by decide +kernel, by decide +kernel, by decide +kernel⟩
set_option maxRecDepth 100000 in
theorem mv_d77 : mv_mK (mv_m77, mv_c77) := ⟨by decide +kernel, by decide +kernel, by decide +kernel, by decide +kernel⟩
set_option maxRecDepth 100000 in
theorem mv_d78 : mv_mK (mv_m78, mv_c78) := ⟨by decide +kernel, by decide +kernel, by decide +kernel, by decide +kernel⟩
set_option maxRecDepth 100000 in
theorem mv_d79 : mv_mK (mv_m79, mv_c79) := ⟨by decide +kernel, by decide +kernel, by decide +kernel, by decide +kernel⟩
set_option maxRecDepth 100000 in
theorem mv_d80 : mv_mK (mv_m80, mv_c80) := ⟨by decide +kernel, by decide +kernel, by decide +kernel, by decide +kernel⟩
set_option maxRecDepth 100000 in
theorem mv_d81 : mv_mK (mv_m81, mv_c81) := ⟨by decide +kernel, by decide +kernel, by decide +kernel, by decide +kernel⟩
set_option maxRecDepth 100000 in
theorem mv_d82 : mv_mK (mv_m82, mv_c82) := ⟨by decide +kernel, by decide +kernel, by decide +kernel, by decide +kernel⟩
set_option maxRecDepth 100000 in
theorem mv_d83 : mv_mK (mv_m83, mv_c83) := ⟨by decide +kernel, by decide +kernel, by decide +kernel, by decide +kernel⟩
set_option maxRecDepth 100000 in
theorem mv_d84 : mv_mK (mv_m84, mv_c84) := ⟨by decide +kernel, by decide +kernel, by decide +kernel, by decide +kernel⟩
set_option maxRecDepth 100000 in
theorem mv_d85 : mv_mK (mv_m85, mv_c85) := ⟨by decide +kernel, by decide +kernel, by decide +kernel, by decide +kernel⟩
