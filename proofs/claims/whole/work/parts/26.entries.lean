/-! what the checked tables give at an instruction -/
theorem mv_any_of {T : List mv_Q4} {c i x : Nat} (h : mv_any T c i x = true) : ∃ k, (c, i, x, k) ∈ T := by
  unfold mv_any at h
  obtain ⟨⟨c1, i1, x1, k⟩, hm, hq⟩ := List.any_eq_true.mp h
  simp only [Bool.and_eq_true, beq_iff_eq] at hq
  obtain ⟨rfl, rfl, rfl⟩ := hq
  exact ⟨k, hm⟩
theorem mv_fl_of {c i x N : Nat} {C : String} {T : u_T} (h : mv_any mv_flT c i x = true) (hc : vwCl[x / 256]? = some (C, T, N)) : Cond.fieldLink (mv_cn c) i (T (x % 256)).1 (T (x % 256)).2.1 (T (x % 256)).2.2.1 ∈ mv_tbl := by
  obtain ⟨k, hk⟩ := mv_any_of h
  have h1 := List.all_eq_true.mp mv_fl_ok _ hk
  simp only [mv_flK, hc, decide_eq_true_eq] at h1
  exact mv_tbl_of h1 rfl
theorem mv_ml_of {c i j : Nat} {m : mv_M} {cd : mv_Cd} (h : mv_any mv_mlT c i j = true) (hj : mv_mc[j]? = some (m, cd)) : Cond.methodLink (mv_cn c) i m.1 ∈ mv_tbl := by
  obtain ⟨k, hk⟩ := mv_any_of h
  have h1 := List.all_eq_true.mp mv_ml_ok _ hk
  simp only [mv_mlK, hj, decide_eq_true_eq] at h1
  exact mv_tbl_of h1 rfl
theorem mv_na_of {c i j : Nat} (h : mv_any mv_naT c i j = true) : Cond.methodLink (mv_cn c) i (mv_nay j) ∈ mv_tbl := by
  obtain ⟨k, hk⟩ := mv_any_of h
  have h1 := List.all_eq_true.mp mv_na_ok _ hk
  simp only [mv_naK, decide_eq_true_eq] at h1
  exact mv_tbl_of h1 rfl
theorem mv_oi_of {c i : Nat} (h : mv_any mv_oiT c i 0 = true) : Cond.methodLink (mv_cn c) i Lib.objectInit ∈ mv_tbl := by
  obtain ⟨k, hk⟩ := mv_any_of h
  have h1 := List.all_eq_true.mp mv_oi_ok _ hk
  simp only [mv_oiK, decide_eq_true_eq] at h1
  exact mv_tbl_of h1 rfl
theorem mv_co_of {c i x : Nat} (h : mv_any mv_coT c i x = true) : Cond.constant (mv_cn c) i (Int32.ofNat x) ∈ mv_tbl := by
  obtain ⟨k, hk⟩ := mv_any_of h
  have h1 := List.all_eq_true.mp mv_co_ok _ hk
  simp only [mv_coK, decide_eq_true_eq] at h1
  exact mv_tbl_of h1 rfl
theorem mv_lc_of {c i x : Nat} (h : mv_any mv_lcT c i x = true) : Cond.constantLong (mv_cn c) i (Int64.ofNat x) ∈ mv_tbl := by
  obtain ⟨k, hk⟩ := mv_any_of h
  have h1 := List.all_eq_true.mp mv_lc_ok _ hk
  simp only [mv_lcK, decide_eq_true_eq] at h1
  exact mv_tbl_of h1 rfl
theorem mv_cl_of {c i x N : Nat} {C : String} {T : u_T} (h : mv_any mv_clT c i x = true) (hc : vwCl[x]? = some (C, T, N)) : Cond.classLink (mv_cn c) i C ∈ mv_tbl := by
  obtain ⟨k, hk⟩ := mv_any_of h
  have h1 := List.all_eq_true.mp mv_cl_ok _ hk
  simp only [mv_clK, hc, decide_eq_true_eq] at h1
  exact mv_tbl_of h1 rfl
theorem mv_an_of {c i x : Nat} (h : mv_any mv_anT c i x = true) : Cond.classLink (mv_cn c) i (if x = 4 then "StraitHouse$Convention" else "StraitHouse$Ship") ∈ mv_tbl := by
  obtain ⟨k, hk⟩ := mv_any_of h
  have h1 := List.all_eq_true.mp mv_an_ok _ hk
  simp only [mv_anK, decide_eq_true_eq] at h1
  exact mv_tbl_of h1 rfl
theorem mv_cw_of {ci N : Nat} {C : String} {T : u_T} (hc : vwCl[ci]? = some (C, T, N)) : Cond.instantiable C N ∈ mv_tbl ∧ Cond.initialized C ∈ mv_tbl := by
  have hlt : ci < 13 := (List.getElem?_eq_some_iff.mp hc).1
  obtain ⟨q, hq⟩ : ∃ q, mv_cwT[ci]? = some q := ⟨mv_cwT[ci]'hlt, List.getElem?_eq_getElem hlt⟩
  have hz : (vwCl.zip mv_cwT)[ci]? = some ((C, T, N), q) := by rw [List.getElem?_zip_eq_some]; exact ⟨hc, hq⟩
  have h1 := List.all_eq_true.mp mv_cw_ok _ (List.mem_of_getElem? hz)
  simp only [mv_cwK, Bool.and_eq_true, decide_eq_true_eq] at h1
  exact ⟨mv_tbl_of h1.1 rfl, mv_tbl_of h1.2 rfl⟩
/-- the words of the worlds' classes are among the frames' -/
theorem mv_lay_good (C : String) (T : u_T) (k : Nat) : goodWord (u_lay C T k) = true := by
  unfold u_lay
  split <;> rfl
/-- what the words say of a method -/
theorem mv_mw_of {j : Nat} {y : MethodName} {b : ByteArray} {nl ci na kd : Nat} {rt : Option FieldType} (h : mv_mW j (y, b, nl, rt, ci, na, kd)) : Cond.code y b nl rt ∈ mv_tbl ∧ Cond.initialized y.cls ∈ mv_tbl ∧ (kd = 0 → Cond.static y ∈ mv_tbl) ∧ (kd ≠ 0 → Cond.instanceMethod y ∈ mv_tbl ∧ 0 < na) ∧ (kd = 1 → Cond.selects y.cls y y ∈ mv_tbl) ∧ (kd = 2 → y.name = "<init>" ∧ rt = none) ∧ plainName y.cls = true ∧ (y.cls ≠ "java/lang/invoke/MethodHandle" ∧ y.cls ≠ "java/lang/invoke/VarHandle" ∧ (parseMethodDescriptor y.desc).map (fun d => d.parameters.length) = some (if kd = 0 then na else na - 1)) := by
  obtain ⟨⟨k1, h1⟩, ⟨k2, h2⟩, ⟨k3, h3⟩, h4, hB⟩ := h
  simp only [mv_mwB, Bool.and_eq_true, decide_eq_true_eq, Bool.or_eq_true, bne_iff_ne, ne_eq, beq_iff_eq] at hB
  obtain ⟨⟨⟨⟨⟨h5, h6⟩, h7⟩, h8⟩, h9⟩, h10⟩ := hB
  refine ⟨mv_tbl_of h1 rfl, mv_tbl_of h2 rfl, fun hk => ?_, fun hk => ⟨?_, ?_⟩, fun hk => ?_, fun hk => ?_, h6, h7, h8, h9⟩
  · rw [if_pos hk] at h3
    exact mv_tbl_of h3 rfl
  · rw [if_neg hk] at h3
    exact mv_tbl_of h3 rfl
  · exact h10.resolve_left hk
  · obtain ⟨k4, h4⟩ := h4 hk
    exact mv_tbl_of h4 rfl
  · exact h5.resolve_left (fun q => q hk)
theorem mv_find_mem {pc : Nat} {code : mv_Cd} {q : ClassFile.Instr × Nat × Nat} (h : mv_find pc code = some q) : (pc, q) ∈ code := by
  induction code with
  | nil => cases h
  | cons r code ih =>
    unfold mv_find at h
    split at h
    · rename_i hr
      cases h
      subst hr
      exact List.mem_cons_self
    · exact List.mem_cons_of_mem _ (ih h)
section MVE
variable {args : Array Value} {s : State} {D : va_G} {cA : Nat → ClassId} {base : Nat} {oa : Nat → Nat} {L : Nat} {xs : Nat → Int32} {ci x : Nat} {init : Bool} {ins : ClassFile.Instr}
theorem mv_kst_of (hts : ∀ w ∈ mv_tbl, w.before args s = true) (hF : mv_Fr D cA base oa L xs s) (h : mv_eW ci init ins x = true) : mv_kst (mv_cn ci) args s (mv_ad base oa) ins x := by
  unfold mv_kst
  split
  · rename_i i
    simp only [mv_eW] at h
    split at h
    · rename_i hlt
      rw [if_pos hlt]
      exact hts _ (mv_co_of h)
    · rename_i hlt
      rw [if_neg hlt]
      simp only [Bool.and_eq_true, beq_iff_eq, List.any_eq_true] at h
      obtain ⟨rfl, r, hr, h1, h2⟩ := h
      have := hF.2.2.2.2.2.2.1 r hr
      rw [h1, h2] at this
      have h4 : x - 1099511627776 < 4 := by
        rw [← h2]
        have key : ∀ r ∈ mv_srf, r.2.2 < 4 := by decide
        exact key r hr
      refine ⟨r.2.1, ?_⟩
      show vk_R RX10 i r.2.1 (mv_ad base oa (x - 1099511627776)) s
      simpa only [mv_ad, if_pos h4] using this
  · exact hts _ (mv_co_of h)
  · exact hts _ (mv_lc_of h)
  · trivial
end MVE
