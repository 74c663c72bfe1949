/-! from the law's loop over the first state to mv_Pure -/
def szL (e : ms_Lay) : Nat := match e with
  | .inl (_, n) => n
  | .inr (_, fs) => fs.length
theorem ms_sl {L : Nat} {xs : Nat → Int32} {S : ms_S} : mv_sl (ms_mk L xs S) = L + (ms_lay.map szL).sum := by
  have e : (ms_lay.mapIdx fun i e => ms_cell S (i + 4) e).map mv_sz = ms_lay.map szL := by
    apply List.ext_getElem?
    intro i
    rw [List.getElem?_map, List.getElem?_map, List.getElem?_mapIdx]
    cases ms_lay[i]? with
    | none => rfl
    | some e =>
      simp only [Option.map_some]
      congr 1
      unfold ms_cell
      split
      · rfl
      · simp [mv_sz, szL]
  unfold mv_sl ms_mk
  rw [List.map_append, e, List.sum_append]
  simp [mv_sz]
theorem ms_szc : (ms_lay.map szL).sum ≤ 7302250 ∧ ms_lay.length ≤ 600000 := by decide +kernel
set_option maxRecDepth 100000 in
set_option maxHeartbeats 4000000 in
theorem pure_of {N0 : Nat} {S1 S2 S3 S4 S5 : ms_S} (h0 : f174 N0 0 s1 = some ((), S1)) (h1 : f174 N0 1 S1 = some ((), S2)) (h2 : f174 N0 2 S2 = some ((), S3)) (h3 : f174 N0 3 S3 = some ((), S4)) (h4 : f174 N0 4 S4 = some ((), S5)) (hrun : ∀ (L : Nat) (xs : Nat → Int32), L ≤ 4608 → ∃ (N : Nat) (SE : ms_S), f256 N L xs S5 = some (1, SE)) : mv_Pure 4608 := by
  intro L xs hL
  obtain ⟨N, SE, h⟩ := hrun L xs hL
  have hd : mw_Does 207 256 [.ref 0] (mv_h0 L xs) (some (.int 1)) (ms_mk L xs SE) := by
    refine mw_enter mv_at256 rfl (Nat.le_of_ble_eq_true rfl) ?_
    show mw _ _ _ 0 [some (.ref 0), none, none, none] [] _ _ _
    rw [show mv_h0 L xs = mv_h0 L xs ++ [] from (List.append_nil _).symm]
    refine mw_newO (n := 0) (A := 4) (t1 := [.inr (11, [.null, .int 0, .null, .null, .null, .null, .null, .null, .null, .int 0, .null, .null, .null, .null, .null, .null, .null, .int 0, .int 0, .int 0, .int 0])]) rfl (by decide) rfl rfl rfl rfl rfl ?_
    refine mw_stk (st1 := [.ref 4, .ref 4]) rfl rfl rfl ?_
    refine mw_initN (j := 108) (A := 4) (d2 := 4) (t0 := []) (t2 := kHouse) (t1 := kHouse) (as := []) (rest := [.ref 4]) rfl (by decide) rfl mv_at108 rfl rfl (by decide) rfl rfl (Nat.le_of_ble_eq_true rfl) (fun h hh => kH_ok h hh) (by decide) rfl rfl ?_
    refine mw_sto (lo1 := [some (.ref 0), some (.ref 4), none, none]) rfl rfl rfl ?_
    rw [show mv_h0 L xs ++ kHouse = (mv_h0 L xs ++ kHouse) ++ [] from (List.append_nil _).symm]
    refine mw_newO (n := 0) (A := 131) (t1 := [.inr (12, [.null, .null, .int 0, .int 0, .int 0, .int 0, .int 0, .int 0, .int 0, .int 0, .long 0, .null, .null, .null, .null, .null, .null, .null, .null, .null, .int 0, .int 0, .null, .null, .null, .null, .null, .null, .null, .null, .null, .null, .null, .null, .null, .null, .null, .int 0, .int 0, .int 0, .int 0, .int 0, .null, .null, .null, .null, .null, .null, .null, .null, .int 0, .int 0, .int 0, .int 0, .int 0, .int 0, .int 0, .int 0, .int 0, .int 0, .int 0, .int 0, .int 0, .null, .null, .null, .null, .null, .null, .null, .null, .int 0, .int 0, .null, .null, .null, .null, .null, .null, .int 0, .null, .null, .null, .null, .null, .null, .null, .null, .null, .null, .int 0, .int 0, .int 0, .int 0, .int 0, .int 0, .null, .null, .null, .null, .null, .null, .null, .null, .null, .int 0, .int 0, .int 0, .null, .null, .int 0, .int 0])]) rfl (by decide) rfl rfl rfl rfl rfl ?_
    refine mw_stk (st1 := [.ref 131, .ref 131]) rfl rfl rfl ?_
    refine mw_call (j := 175) (r1 := none) rfl rfl (by decide) (mk_argV (k := 0) (a := 131) (as := []) (rest := [.ref 131]) mv_at175 rfl rfl (by decide) rfl rfl rfl (Nat.le_of_ble_eq_true rfl)) ((kMo_ok h0 h1 h2 h3 h4).up (by decide)) rfl ?_
    refine mw_sto (lo1 := [some (.ref 0), some (.ref 4), some (.ref 131), none]) rfl rfl rfl ?_
    exact f256_ok h
  obtain ⟨N1, hN⟩ := hd
  refine ⟨N1, 207, _, by decide, hN, ?_, ?_⟩
  · rw [ms_len]; have := ms_szc.2; omega
  · rw [ms_sl]; have := ms_szc.1; omega
