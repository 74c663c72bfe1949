-- the words that the frames take: those of lw_tbl that last
def mv_tbl : List Cond := lw_tbl.filter goodWord
theorem mv_tbl_of {k : Nat} {w : Cond} (h : lw_tbl[k]? = some w) (hg : goodWord w = true) : w ∈ mv_tbl := List.mem_filter.mpr ⟨List.mem_of_getElem? h, hg⟩
theorem mv_tbl_in : ∀ w ∈ mv_tbl, w ∈ lw_tbl := fun _ h => (List.mem_filter.mp h).1
theorem mv_tbl_good : GoodIn mv_tbl mv_tbl := fun _ h => ⟨h, good_of_word (List.mem_filter.mp h).2⟩
def mv_cn (c : Nat) : String := (mv_cns[c]?).getD ""
abbrev mv_Q4 : Type := Nat × Nat × Nat × Nat
def mv_flK (q : mv_Q4) : Bool := match vwCl[q.2.2.1 / 256]? with
  | some (_, T, _) => decide (lw_tbl[q.2.2.2]? = some (Cond.fieldLink (mv_cn q.1) q.2.1 (T (q.2.2.1 % 256)).1 (T (q.2.2.1 % 256)).2.1 (T (q.2.2.1 % 256)).2.2.1))
  | none => false
def mv_mlK (q : mv_Q4) : Bool := match mv_mc[q.2.2.1]? with
  | some ((y, _), _) => decide (lw_tbl[q.2.2.2]? = some (Cond.methodLink (mv_cn q.1) q.2.1 y))
  | none => false
def mv_nay (j : Nat) : MethodName := if j = 1000 then ⟨"java/lang/String", "length", "()I"⟩ else if j = 1001 then ⟨"java/lang/String", "charAt", "(I)C"⟩ else if j = 1002 then ⟨"java/lang/String", "indexOf", "(I)I"⟩ else if j = 1003 then Lib.Math.abs.name else if j = 1004 then Lib.Math.max.name else Lib.Math.min.name
def mv_naK (q : mv_Q4) : Bool := decide (lw_tbl[q.2.2.2]? = some (Cond.methodLink (mv_cn q.1) q.2.1 (mv_nay q.2.2.1)))
def mv_oiK (q : mv_Q4) : Bool := decide (lw_tbl[q.2.2.2]? = some (Cond.methodLink (mv_cn q.1) q.2.1 Lib.objectInit))
def mv_coK (q : mv_Q4) : Bool := decide (lw_tbl[q.2.2.2]? = some (Cond.constant (mv_cn q.1) q.2.1 (Int32.ofNat q.2.2.1)))
def mv_lcK (q : mv_Q4) : Bool := decide (lw_tbl[q.2.2.2]? = some (Cond.constantLong (mv_cn q.1) q.2.1 (Int64.ofNat q.2.2.1)))
def mv_clK (q : mv_Q4) : Bool := match vwCl[q.2.2.1]? with
  | some (C, _, _) => decide (lw_tbl[q.2.2.2]? = some (Cond.classLink (mv_cn q.1) q.2.1 C))
  | none => false
def mv_anK (q : mv_Q4) : Bool := decide (lw_tbl[q.2.2.2]? = some (Cond.classLink (mv_cn q.1) q.2.1 (if q.2.2.1 = 4 then "StraitHouse$Convention" else "StraitHouse$Ship")))
/-- of a method: its code, its class, what kind of method it is -/
def mv_mwK (m : mv_M) (q : mv_Q4) : Bool := match m with
  | (y, b, nl, rt, _, na, kd) => decide (lw_tbl[q.1]? = some (Cond.code y b nl rt)) && decide (lw_tbl[q.2.1]? = some (Cond.initialized y.cls)) && (decide (lw_tbl[q.2.2.1]? = some (if kd = 0 then Cond.static y else Cond.instanceMethod y))) && (kd != 1 || decide (lw_tbl[q.2.2.2]? = some (Cond.selects y.cls y y))) && (kd != 2 || decide (y.name = "<init>" ∧ rt = none))
      && plainName y.cls && decide (y.cls ≠ "java/lang/invoke/MethodHandle") && decide (y.cls ≠ "java/lang/invoke/VarHandle") && decide ((parseMethodDescriptor y.desc).map (fun d => d.parameters.length) = some (if kd = 0 then na else na - 1)) && (kd == 0 || 0 < na)
def mv_cwK (c : vw_C) (q : Nat × Nat) : Bool := decide (lw_tbl[q.1]? = some (Cond.instantiable c.1 c.2.2)) && decide (lw_tbl[q.2]? = some (Cond.initialized c.1))
theorem mv_all_app {α : Type} {f : α → Bool} {a b : List α} (h1 : a.all f = true) (h2 : b.all f = true) : (a ++ b).all f = true := by rw [List.all_append, h1, h2]; rfl
set_option maxRecDepth 100000 in
theorem mv_fl_k0 : mv_flT_0.all mv_flK = true := by decide +kernel
set_option maxRecDepth 100000 in
theorem mv_fl_k1 : mv_flT_1.all mv_flK = true := by decide +kernel
set_option maxRecDepth 100000 in
theorem mv_fl_k2 : mv_flT_2.all mv_flK = true := by decide +kernel
set_option maxRecDepth 100000 in
theorem mv_fl_k3 : mv_flT_3.all mv_flK = true := by decide +kernel
set_option maxRecDepth 100000 in
theorem mv_fl_k4 : mv_flT_4.all mv_flK = true := by decide +kernel
set_option maxRecDepth 100000 in
theorem mv_fl_k5 : mv_flT_5.all mv_flK = true := by decide +kernel
set_option maxRecDepth 100000 in
theorem mv_fl_k6 : mv_flT_6.all mv_flK = true := by decide +kernel
set_option maxRecDepth 100000 in
theorem mv_fl_k7 : mv_flT_7.all mv_flK = true := by decide +kernel
set_option maxRecDepth 100000 in
theorem mv_fl_k8 : mv_flT_8.all mv_flK = true := by decide +kernel
theorem mv_fl_ok : mv_flT.all mv_flK = true := mv_all_app mv_fl_k0 (mv_all_app mv_fl_k1 (mv_all_app mv_fl_k2 (mv_all_app mv_fl_k3 (mv_all_app mv_fl_k4 (mv_all_app mv_fl_k5 (mv_all_app mv_fl_k6 (mv_all_app mv_fl_k7 (mv_fl_k8))))))))
set_option maxRecDepth 100000 in
theorem mv_ml_k0 : mv_mlT_0.all mv_mlK = true := by decide +kernel
set_option maxRecDepth 100000 in
theorem mv_ml_k1 : mv_mlT_1.all mv_mlK = true := by decide +kernel
set_option maxRecDepth 100000 in
theorem mv_ml_k2 : mv_mlT_2.all mv_mlK = true := by decide +kernel
set_option maxRecDepth 100000 in
theorem mv_ml_k3 : mv_mlT_3.all mv_mlK = true := by decide +kernel
set_option maxRecDepth 100000 in
theorem mv_ml_k4 : mv_mlT_4.all mv_mlK = true := by decide +kernel
set_option maxRecDepth 100000 in
theorem mv_ml_k5 : mv_mlT_5.all mv_mlK = true := by decide +kernel
set_option maxRecDepth 100000 in
theorem mv_ml_k6 : mv_mlT_6.all mv_mlK = true := by decide +kernel
theorem mv_ml_ok : mv_mlT.all mv_mlK = true := mv_all_app mv_ml_k0 (mv_all_app mv_ml_k1 (mv_all_app mv_ml_k2 (mv_all_app mv_ml_k3 (mv_all_app mv_ml_k4 (mv_all_app mv_ml_k5 (mv_ml_k6))))))
set_option maxRecDepth 100000 in
theorem mv_na_k0 : mv_naT_0.all mv_naK = true := by decide +kernel
theorem mv_na_ok : mv_naT.all mv_naK = true := mv_na_k0
set_option maxRecDepth 100000 in
theorem mv_oi_k0 : mv_oiT_0.all mv_oiK = true := by decide +kernel
theorem mv_oi_ok : mv_oiT.all mv_oiK = true := mv_oi_k0
set_option maxRecDepth 100000 in
theorem mv_co_k0 : mv_coT_0.all mv_coK = true := by decide +kernel
theorem mv_co_ok : mv_coT.all mv_coK = true := mv_co_k0
set_option maxRecDepth 100000 in
theorem mv_lc_k0 : mv_lcT_0.all mv_lcK = true := by decide +kernel
theorem mv_lc_ok : mv_lcT.all mv_lcK = true := mv_lc_k0
set_option maxRecDepth 100000 in
theorem mv_cl_k0 : mv_clT_0.all mv_clK = true := by decide +kernel
theorem mv_cl_ok : mv_clT.all mv_clK = true := mv_cl_k0
set_option maxRecDepth 100000 in
theorem mv_an_k0 : mv_anT_0.all mv_anK = true := by decide +kernel
theorem mv_an_ok : mv_anT.all mv_anK = true := mv_an_k0
set_option maxRecDepth 100000 in
theorem mv_cw_ok : (vwCl.zip mv_cwT).all (fun q => mv_cwK q.1 q.2) = true := by decide +kernel
theorem mv_ac0 : lw_tbl[234]? = some (Cond.arrayClass .int) := by decide +kernel
theorem mv_ac1 : lw_tbl[235]? = some (Cond.arrayClass .long) := by decide +kernel
theorem mv_ac2 : lw_tbl[236]? = some (Cond.arrayClass .byte) := by decide +kernel
theorem mv_ac3 : lw_tbl[295]? = some (Cond.arrayClass .boolean) := by decide +kernel
theorem mv_ob0 : lw_tbl[141]? = some (Cond.instanceMethod Lib.objectInit) := by decide +kernel
theorem mv_ob1 : lw_tbl[142]? = some (Cond.code Lib.objectInit ⟨#[0xb1]⟩ 1 none) := by decide +kernel
theorem mv_ma0 : (∃ k : Nat, lw_tbl[k]? = some (Cond.static Lib.Math.abs.name)) ∧ ∃ k : Nat, lw_tbl[k]? = some (Cond.code Lib.Math.abs.name Lib.Math.abs.code 1 (some .int)) := ⟨⟨1319, by decide +kernel⟩, ⟨1320, by decide +kernel⟩⟩
theorem mv_ma1 : (∃ k : Nat, lw_tbl[k]? = some (Cond.static Lib.Math.max.name)) ∧ ∃ k : Nat, lw_tbl[k]? = some (Cond.code Lib.Math.max.name Lib.Math.max.code 2 (some .int)) := ⟨⟨430, by decide +kernel⟩, ⟨431, by decide +kernel⟩⟩
theorem mv_ma2 : (∃ k : Nat, lw_tbl[k]? = some (Cond.static Lib.Math.min.name)) ∧ ∃ k : Nat, lw_tbl[k]? = some (Cond.code Lib.Math.min.name Lib.Math.min.code 2 (some .int)) := ⟨⟨844, by decide +kernel⟩, ⟨845, by decide +kernel⟩⟩
theorem mv_maI0 : lw_tbl[125]? = some (Cond.initialized "java/lang/Math") := by decide +kernel
