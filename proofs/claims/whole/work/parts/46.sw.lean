/-! switches; a reference put into an array -/
section MSW
variable {d : Nat} {code : mv_Cd} {rt : Option FieldType} {pc pc1 x a L : Nat} {xs : Nat → Int32} {lo : mv_L} {st : List Value} {h hE : mv_H} {r : Option Value} {S S1 : ms_S}
/-- at a case -/
theorem mw_case {ins : ClassFile.Instr} {len : Nat} {y c : Int32} (hf : mv_find pc code = some (ins, len, x)) (hy : y = c) (hv : mv_jmp ins pc (.int c :: st) = some (pc1, st)) (k : mw d code rt pc1 lo st h r hE) : mw d code rt pc lo (.int y :: st) h r hE := by
  subst hy
  exact mw_jmp hf hv k
theorem mw_tab {len : Nat} {dflt lw hi : Int} {offs : Array Int} {y : Int32} (hf : mv_find pc code = some (.tableswitch dflt lw hi offs, len, x)) (hy : y.toInt < lw ∨ hi < y.toInt) (hv : mv_tgt pc dflt = some pc1) (k : mw d code rt pc1 lo st h r hE) : mw d code rt pc lo (.int y :: st) h r hE := by
  refine mw_jmp (pc1 := pc1) (st1 := st) hf ?_ k
  simp only [mv_jmp, mv_off, if_pos hy, hv]
theorem mw_look {len : Nat} {dflt : Int} {ps : Array (Int × Int)} {y : Int32} (hf : mv_find pc code = some (.lookupswitch dflt ps, len, x)) (ho : (ps.toList.zip (ps.toList.drop 1)).all (fun (a, next) => a.1 < next.1) = true) (hy : Op.lookupswitch.offset ps.toList dflt y.toInt = dflt) (hv : mv_tgt pc dflt = some pc1) (k : mw d code rt pc1 lo st h r hE) : mw d code rt pc lo (.int y :: st) h r hE := by
  refine mw_jmp (pc1 := pc1) (st1 := st) hf ?_ k
  simp only [mv_jmp, mv_off, if_pos ho, hy, hv]
theorem sw_ne {y c : Int32} (h : ¬ y = c) : y.toInt ≠ c.toInt := fun q => h (Int32.toInt_inj.mp q)
theorem mw_sQ {n t : Nat} {j : Int32} {v : Nat} {u : Unit} {fs : List Nat} (hf : mv_find pc code = some (.aastore, 1, x)) (h4 : 4 ≤ a) (he : ms_lay[a - 4]? = some (.inl (t, n))) (ht : t = 4 ∨ t = 5) (h4v : 4 ≤ v) (hev : ms_lay[v - 4]? = some (.inr (mv_el t, fs))) (hp : pc + 1 = pc1) (hq : sQ a n j v S = some (u, S1)) (kk : mw d code rt pc1 lo st (ms_mk L xs S1) r hE) : mw d code rt pc lo (.ref v :: .int j :: .ref a :: st) (ms_mk L xs S) r hE := by
  unfold sQ at hq
  split at hq
  case isFalse => cases hq
  rename_i hin
  cases hq
  refine mw_heap hf ?_ hp kk
  show mv_put1 (mv_aas v j a (ms_mk L xs S)) st = _
  have e1 : ∀ S : ms_S, ms_ar S a t = .inr (.inr (ms_Q S a)) := by
    intro S
    rcases ht with rfl | rfl <;> rfl
  have e2 : (ms_mk L xs S)[a]? = some (.inl (t, n, .inr (.inr (ms_Q S a)))) := by rw [ms_get h4 he]; simp only [ms_cell, e1]
  have e3 : ∃ g, (ms_mk L xs S)[v]? = some (.inr (mv_el t, g)) := ⟨_, ms_get h4v hev⟩
  obtain ⟨g, e3⟩ := e3
  have e4 : ms_Q (ms_setQ S a j.toNatClampNeg (some v)) a = mv_up (ms_Q S a) j.toNatClampNeg (some v) := ms_up_at
  simp only [mv_aas, e2, e3]
  rw [if_pos (by exact ⟨ht, h4, h4v, trivial, hin⟩)]
  rw [show (.inl (t, n, .inr (.inr (mv_up (ms_Q S a) j.toNatClampNeg (some v)))) : mv_E) = ms_cell (ms_setQ S a j.toNatClampNeg (some v)) a (.inl (t, n)) from by simp only [ms_cell, e1, e4], ms_set h4 he (fun b e hb => ms_c_setQ hb)]
  rfl
end MSW
