set_option maxHeartbeats 4000000 in
theorem ns_iof (l : Launch) {base : Nat} {oa : Nat → Nat} {i v : Nat} (hi : i < 3) {ch : Int32} : Met l ny_iof (.code ny_iof nc_iof 4 (some .int) :: mv_tbl) (ns_rm 2) (ns_Pv base oa i v [.ref v, .int ch, .int 0, .int (Int32.ofNat ((mv_txt.map List.length).getD i 0))]) (ns_Qc (some (.int (if ch < 0 ∨ ch > 255 then -1 else mv_ixf ch.toInt8.toInt32 (mv_txt.getD i []) 0)))) 0 0 (fun _ => False) := by
  refine Met.ofW (cc := nc_iof) (maxL := 4) (ret := (some .int)) (by decide +kernel) rfl ?_
  intro p e s m args below meth c s₁ B hml hv
  obtain ⟨⟨rfl, hStr, hbs⟩, hV⟩ := hv
  obtain ⟨cell, t1, t2, t3, t4, t5, t6, t7⟩ := id hV
  have hx := B.exec
  have hb := B.bytes
  have hr := B.returns
  have hts : ∀ w ∈ mv_tbl, w.before _ s = true := fun w hw => atoms_spec (ws := .code ny_iof nc_iof 4 (some .int) :: mv_tbl) B.pre w (List.mem_cons_of_mem _ hw)
  have hown : s.vm.findClass RJ1 = some m.cls := findClass_of_methodNamed B.named
  have hlocks := B.notSynchronized
  have hS : va_S (fun q => base ≤ q) s.heap s.heap [] := va_S.rf
  have hl := lv_entry ([.ref v, .int ch, .int 0, .int (Int32.ofNat ((mv_txt.map List.length).getD i 0))]) (n := 4) (Nat.le_of_ble_eq_true rfl)
  rw [lg_entry_eq]
  generalize (lg_sl ([.ref v, .int ch, .int 0, .int (Int32.ofNat ((mv_txt.map List.length).getD i 0))]) ++ List.replicate (4 - (lg_sl ([.ref v, .int ch, .int 0, .int (Int32.ofNat ((mv_txt.map List.length).getD i 0))])).length) Slot.unset).toArray = ls at hl ⊢
  have hl : lv_has ls 4 [(0, .ref v), (1, .int ch), (2, .int 0), (3, .int (Int32.ofNat ((mv_txt.map List.length).getD i 0)))] := hl
  refine lv_iload_n hx hb nd_iof_0 rfl (lv_at hl 1 rfl) ?_
  refine W.callX (W.runS (As := [.int ch]) (rest := []) ⟨hx, hb, hml, hown, hts⟩ (ns_can l) ⟨callB_of 1 hts (mv_tbl_code nw_code_can) rfl rfl rfl (hts _ nw_ini_RJ1) (hts _ nw_ml_RJ1_88) ⟨by decide +kernel, by decide +kernel, by decide +kernel⟩ ⟨by decide, by decide⟩, hts _ nw_kind_can⟩ ⟨ns_blind, fun U hU hW => ⟨rfl, ns_str hStr hU hW, by rw [hU]; exact hbs⟩⟩ rfl rfl hl.1 rfl (lv_room (by simp [Value.category])) nd_iof_1 ⟨Nat.zero_le _, Nat.zero_le _⟩) (fun _ h => h.elim) (fun v st₀ t e0 hq => ?_)
  obtain ⟨hv, hh⟩ := hq
  cases hv
  rw [hh, e0]
  refine W.eq (g2 := F0 m 4 ls [.int (if ch < 0 ∨ ch > 255 then 0 else 1)]) rfl ?_
  refine lv_if_ne (tgt := 9) hx hb nd_iof_4 (by decide) (fun hq => ?_) (fun hq => ?_)
  · have hnc : ¬ (ch < 0 ∨ ch > 255) := fun q => hq (by rw [if_pos q])
    rw [if_neg hnc]
    refine lv_iload_n hx hb nd_iof_9 rfl (lv_at hl 2 rfl) ?_
    refine lv_iconst (v := 0) hx hb nd_iof_10 (by decide) ?_
    obtain ⟨⟨k1, w1⟩, k2, w2⟩ := mv_ma1
    refine va_mmax hx hb (hml.trans hl.1.symm) hown (hts _ nw_ml_RJ1_92) (hts _ (mv_tbl_of w1 rfl)) (hts _ (mv_tbl_of mv_maI0 rfl)) (hts _ (mv_tbl_of w2 rfl)) (by decide) (by decide) (by decide) (by decide) nd_iof_11 ?_
    rw [show (if (0 : Int32) < 0 then (0 : Int32) else 0) = 0 by decide]
    refine lv_istore_n (lv' := [(2, .int 0), (0, .ref v), (1, .int ch), (3, .int (Int32.ofNat ((mv_txt.map List.length).getD i 0)))]) hx hb nd_iof_14 rfl hl (by decide) rfl (fun ls hl => ?_)
    refine lv_iload_n hx hb nd_iof_15 rfl (lv_at hl 3 rfl) ?_
    refine lv_aload_n hx hb nd_iof_16 rfl (lv_at hl 1 rfl) ?_
    refine W.alen (n := Int32.ofNat ((mv_txt.map List.length).getD i 0)) hx hb t1 t2 t5 rfl rfl nd_iof_17 ?_
    refine W.eq (g2 := F0 m 18 ls [.int (Int32.ofNat ((mv_txt.map List.length).getD i 0)), .int (Int32.ofNat ((mv_txt.map List.length).getD i 0))]) rfl ?_
    obtain ⟨⟨k1, w1⟩, k2, w2⟩ := mv_ma2
    refine va_mmin hx hb (hml.trans hl.1.symm) hown (hts _ nw_ml_RJ1_38) (hts _ (mv_tbl_of w1 rfl)) (hts _ (mv_tbl_of mv_maI0 rfl)) (hts _ (mv_tbl_of w2 rfl)) (by decide) (by decide) (by decide) (by decide) nd_iof_18 ?_
    rw [ite_self]
    refine lv_istore_n (lv' := [(3, .int (Int32.ofNat ((mv_txt.map List.length).getD i 0))), (2, .int 0), (0, .ref v), (1, .int ch)]) hx hb nd_iof_21 rfl hl (by decide) rfl (fun ls hl => ?_)
    refine lv_iload_n hx hb nd_iof_22 rfl (lv_at hl 1 rfl) ?_
    refine lv_iload_n hx hb nd_iof_23 rfl (lv_at hl 0 rfl) ?_
    refine lv_icmp_lt (tgt := 29) hx hb nd_iof_24 (by decide) (fun _ => ?_) (fun h => absurd (ns_pos0 hi) h)
    refine lv_aload_n hx hb nd_iof_29 rfl (lv_at hl 2 rfl) ?_
    refine lv_iload_n hx hb nd_iof_30 rfl (lv_at hl 3 rfl) ?_
    refine lv_iload_n hx hb nd_iof_31 rfl (lv_at hl 1 rfl) ?_
    refine lv_iload_n hx hb nd_iof_32 rfl (lv_at hl 0 rfl) ?_
    refine W.callX (W.runS (As := [.ref v, .int ch, .int 0, .int (Int32.ofNat ((mv_txt.map List.length).getD i 0))]) (rest := []) ⟨hx, hb, hml, hown, hts⟩ (ns_ioc l hi) ⟨callB_of 4 hts (mv_tbl_code nw_code_ioc) rfl rfl rfl (hts _ nw_ini_RJ1) (hts _ nw_ml_RJ1_95) ⟨by decide +kernel, by decide +kernel, by decide +kernel⟩ ⟨by decide, by decide⟩, hts _ nw_kind_ioc⟩ ⟨ns_blindv, fun U hU hW => ⟨⟨rfl, ns_str hStr hU hW, by rw [hU]; exact hbs⟩, by unfold ns_V; rw [hU]; exact va_T.moved hW.alike hV⟩⟩ rfl rfl hl.1 rfl (lv_room (by simp [Value.category])) nd_iof_33 ⟨Nat.zero_le _, Nat.zero_le _⟩) (fun _ h => h.elim) (fun v st₀ t e0 hq => ?_)
    obtain ⟨hv, hh⟩ := hq
    cases hv
    rw [hh, e0]
    refine W.eq (g2 := F0 m 36 ls [.int (mv_ixf ch.toInt8.toInt32 (mv_txt.getD i []) 0)]) rfl ?_
    exact W.iret hx hb hr (fun t ht _ => ⟨rfl, ht⟩) (fun _ h => by cases h) nd_iof_36 hlocks
  · have hnc : ch < 0 ∨ ch > 255 := Classical.byContradiction fun q => absurd hq (by rw [if_neg q]; decide)
    rw [if_pos hnc]
    refine lv_iconst (v := -1) hx hb nd_iof_7 (by decide) ?_
    exact W.iret hx hb hr (fun t ht _ => ⟨rfl, ht⟩) (fun _ h => by cases h) nd_iof_8 hlocks

set_option maxHeartbeats 4000000 in
theorem ns_ioII (l : Launch) {base : Nat} {oa : Nat → Nat} {i : Nat} (hi : i < 3) {ch : Int32} : Met l ny_ioII (.code ny_ioII nc_ioII 3 (some .int) :: mv_tbl) (ns_rm 3) (ns_Pc base oa [.ref (oa (i + 1)), .int ch, .int 0]) (ns_Qc (some (.int (if ch < 0 ∨ ch > 255 then -1 else mv_ixf ch.toInt8.toInt32 (mv_txt.getD i []) 0)))) 0 0 (fun _ => False) := by
  refine Met.ofW (cc := nc_ioII) (maxL := 3) (ret := (some .int)) (by decide +kernel) rfl ?_
  intro p e s m args below meth c s₁ B hml hv
  obtain ⟨rfl, hStr, hbs⟩ := hv
  have hx := B.exec
  have hb := B.bytes
  have hr := B.returns
  have hts : ∀ w ∈ mv_tbl, w.before _ s = true := fun w hw => atoms_spec (ws := .code ny_ioII nc_ioII 3 (some .int) :: mv_tbl) B.pre w (List.mem_cons_of_mem _ hw)
  have hown : s.vm.findClass RJ0 = some m.cls := findClass_of_methodNamed B.named
  have hlocks := B.notSynchronized
  have hS : va_S (fun q => base ≤ q) s.heap s.heap [] := va_S.rf
  have hl := lv_entry ([.ref (oa (i + 1)), .int ch, .int 0]) (n := 3) (Nat.le_of_ble_eq_true rfl)
  rw [lg_entry_eq]
  generalize (lg_sl ([.ref (oa (i + 1)), .int ch, .int 0]) ++ List.replicate (3 - (lg_sl ([.ref (oa (i + 1)), .int ch, .int 0])).length) Slot.unset).toArray = ls at hl ⊢
  have hl : lv_has ls 3 [(0, .ref (oa (i + 1))), (1, .int ch), (2, .int 0)] := hl
  obtain ⟨⟨adV, h8⟩, h9, h10, h11⟩ := id hStr
  refine lv_aload_n hx hb nd_ioII_0 rfl (lv_at hl 0 rfl) ?_
  refine W.callX (W.runV (C := ny_lat1.cls) (b := oa (i + 1)) (As := []) (rest := []) ⟨hx, hb, hml, hown, hts⟩ (ns_lat1 l hi) ⟨callB_of 0 hts (mv_tbl_code nw_code_lat1) rfl rfl rfl (hts _ nw_ini_RJ0) (hts _ nw_ml_RJ0_492) ⟨by decide +kernel, by decide +kernel, by decide +kernel⟩ ⟨by decide, by decide⟩, hts _ nw_kind_lat1, hts _ nw_sel_lat1⟩ ⟨ns_blind, ns_recv hStr hi, fun U hU hW => ⟨rfl, ns_str hStr hU hW, by rw [hU]; exact hbs⟩⟩ rfl rfl hl.1 rfl (lv_room (by simp [Value.category])) nd_ioII_1 ⟨Nat.zero_le _, Nat.zero_le _⟩) (fun _ h => h.elim) (fun v st₀ t e0 hq => ?_)
  obtain ⟨hv, hh⟩ := hq
  cases hv
  rw [hh, e0]
  refine W.eq (g2 := F0 m 4 ls [.int 1]) rfl ?_
  refine lv_if_eq (tgt := 23) hx hb nd_ioII_4 (by decide) (fun h => absurd h (by decide)) (fun _ => ?_)
  refine lv_aload_n hx hb nd_ioII_7 rfl (lv_at hl 0 rfl) ?_
  refine vk_getf hx hb (h8.1 i hi).2.2.1 hS hown (hts _ nw_fl_RJ0_9) (fun _ h => h) nd_ioII_8 ?_
  refine lv_iload_n hx hb nd_ioII_11 rfl (lv_at hl 1 rfl) ?_
  refine lv_iload_n hx hb nd_ioII_12 rfl (lv_at hl 2 rfl) ?_
  refine lv_aload_n hx hb nd_ioII_13 rfl (lv_at hl 0 rfl) ?_
  refine W.callX (W.runV (C := ny_len.cls) (b := oa (i + 1)) (As := []) (rest := [.int 0, .int ch, .ref (adV i)]) ⟨hx, hb, hml, hown, hts⟩ (ns_len l hi) ⟨callB_of 0 hts (mv_tbl_code nw_code_len) rfl rfl rfl (hts _ nw_ini_RJ0) (hts _ nw_ml_RJ0_505) ⟨by decide +kernel, by decide +kernel, by decide +kernel⟩ ⟨by decide, by decide⟩, hts _ nw_kind_len, hts _ nw_sel_len⟩ ⟨ns_blind, ns_recv hStr hi, fun U hU hW => ⟨rfl, ns_str hStr hU hW, by rw [hU]; exact hbs⟩⟩ rfl rfl hl.1 rfl (lv_room (by simp [Value.category])) nd_ioII_14 ⟨Nat.zero_le _, Nat.zero_le _⟩) (fun _ h => h.elim) (fun v st₀ t e0 hq => ?_)
  obtain ⟨hv, hh⟩ := hq
  cases hv
  rw [hh, e0]
  refine W.eq (g2 := F0 m 17 ls [.int (Int32.ofNat ((mv_txt.map List.length).getD i 0)), .int 0, .int ch, .ref (adV i)]) rfl ?_
  refine W.callX (W.runS (As := [.ref (adV i), .int ch, .int 0, .int (Int32.ofNat ((mv_txt.map List.length).getD i 0))]) (rest := []) ⟨hx, hb, hml, hown, hts⟩ (ns_iof l hi) ⟨callB_of 4 hts (mv_tbl_code nw_code_iof) rfl rfl rfl (hts _ nw_ini_RJ1) (hts _ nw_ml_RJ0_637) ⟨by decide +kernel, by decide +kernel, by decide +kernel⟩ ⟨by decide, by decide⟩, hts _ nw_kind_iof⟩ ⟨ns_blindv, fun U hU hW => ⟨⟨rfl, ns_str hStr hU hW, by rw [hU]; exact hbs⟩, by unfold ns_V; rw [hU]; exact va_T.moved hW.alike (h8.1 i hi).2.2.2⟩⟩ rfl rfl hl.1 rfl (lv_room (by simp [Value.category])) nd_ioII_17 ⟨Nat.zero_le _, Nat.zero_le _⟩) (fun _ h => h.elim) (fun v st₀ t e0 hq => ?_)
  obtain ⟨hv, hh⟩ := hq
  cases hv
  rw [hh, e0]
  refine W.eq (g2 := F0 m 20 ls [.int (if ch < 0 ∨ ch > 255 then -1 else mv_ixf ch.toInt8.toInt32 (mv_txt.getD i []) 0)]) rfl ?_
  refine lv_goto (tgt := 36) hx hb nd_ioII_20 (by decide) ?_
  exact W.iret hx hb hr (fun t ht _ => ⟨rfl, ht⟩) (fun _ h => by cases h) nd_ioII_36 hlocks

set_option maxHeartbeats 4000000 in
theorem ns_ioI (l : Launch) {base : Nat} {oa : Nat → Nat} {i : Nat} (hi : i < 3) {ch : Int32} : Met l ny_ioI (.code ny_ioI nc_ioI 2 (some .int) :: mv_tbl) (ns_rm 4) (ns_Pc base oa [.ref (oa (i + 1)), .int ch]) (ns_Qc (some (.int (if ch < 0 ∨ ch > 255 then -1 else mv_ixf ch.toInt8.toInt32 (mv_txt.getD i []) 0)))) 0 0 (fun _ => False) := by
  refine Met.ofW (cc := nc_ioI) (maxL := 2) (ret := (some .int)) (by decide +kernel) rfl ?_
  intro p e s m args below meth c s₁ B hml hv
  obtain ⟨rfl, hStr, hbs⟩ := hv
  have hx := B.exec
  have hb := B.bytes
  have hr := B.returns
  have hts : ∀ w ∈ mv_tbl, w.before _ s = true := fun w hw => atoms_spec (ws := .code ny_ioI nc_ioI 2 (some .int) :: mv_tbl) B.pre w (List.mem_cons_of_mem _ hw)
  have hown : s.vm.findClass RJ0 = some m.cls := findClass_of_methodNamed B.named
  have hlocks := B.notSynchronized
  have hS : va_S (fun q => base ≤ q) s.heap s.heap [] := va_S.rf
  have hl := lv_entry ([.ref (oa (i + 1)), .int ch]) (n := 2) (Nat.le_of_ble_eq_true rfl)
  rw [lg_entry_eq]
  generalize (lg_sl ([.ref (oa (i + 1)), .int ch]) ++ List.replicate (2 - (lg_sl ([.ref (oa (i + 1)), .int ch])).length) Slot.unset).toArray = ls at hl ⊢
  have hl : lv_has ls 2 [(0, .ref (oa (i + 1))), (1, .int ch)] := hl
  refine lv_aload_n hx hb nd_ioI_0 rfl (lv_at hl 0 rfl) ?_
  refine lv_iload_n hx hb nd_ioI_1 rfl (lv_at hl 1 rfl) ?_
  refine lv_iconst (v := 0) hx hb nd_ioI_2 (by decide) ?_
  refine W.callX (W.runV (C := ny_ioII.cls) (b := oa (i + 1)) (As := [.int ch, .int 0]) (rest := []) ⟨hx, hb, hml, hown, hts⟩ (ns_ioII l hi) ⟨callB_of 2 hts (mv_tbl_code nw_code_ioII) rfl rfl rfl (hts _ nw_ini_RJ0) (hts _ nw_ml_RJ0_633) ⟨by decide +kernel, by decide +kernel, by decide +kernel⟩ ⟨by decide, by decide⟩, hts _ nw_kind_ioII, hts _ nw_sel_ioII⟩ ⟨ns_blind, ns_recv hStr hi, fun U hU hW => ⟨rfl, ns_str hStr hU hW, by rw [hU]; exact hbs⟩⟩ rfl rfl hl.1 rfl (lv_room (by simp [Value.category])) nd_ioI_3 ⟨Nat.zero_le _, Nat.zero_le _⟩) (fun _ h => h.elim) (fun v st₀ t e0 hq => ?_)
  obtain ⟨hv, hh⟩ := hq
  cases hv
  rw [hh, e0]
  refine W.eq (g2 := F0 m 6 ls [.int (if ch < 0 ∨ ch > 255 then -1 else mv_ixf ch.toInt8.toInt32 (mv_txt.getD i []) 0)]) rfl ?_
  exact W.iret hx hb hr (fun t ht _ => ⟨rfl, ht⟩) (fun _ h => by cases h) nd_ioI_6 hlocks

