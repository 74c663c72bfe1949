/-! String's own methods on the constants, walked: contracts -/
def ns_rm (k : Nat) : Room := { frames := k, cells := 0, slots := 0, locals := 100 * k }
def ns_Pc (base : Nat) (oa : Nat → Nat) (as : List Value) : Array Value → State → Prop := fun v U => v = as.toArray ∧ mv_Str base oa U ∧ base ≤ U.heap.size
def ns_Qc (r : Option Value) : Array Value → State → Outcome → State → Prop := fun _ st o t => o = .returned r ∧ t.heap = st.heap
theorem ns_str {base : Nat} {oa : Nat → Nat} {s U : State} (h : mv_Str base oa s) (hU : U.heap = s.heap) (hW : s.WarmedH U.vm) : mv_Str base oa U := by
  obtain ⟨⟨adV, h8⟩, h9, h10, h11⟩ := h
  exact ⟨⟨adV, by rw [hU]; exact h8.moved hW.alike⟩, fun q hq => (h9 q hq).warm hW, by rw [hU]; exact h10.moved hW.alike, by rw [hU]; exact h11.moved hW.alike⟩
theorem ns_same {base : Nat} {oa : Nat → Nat} {s U : State} (h : mv_Str base oa s) (hU : U.heap = s.heap) (hv : U.vm = s.vm) : mv_Str base oa U := by
  obtain ⟨⟨adV, h8⟩, h9, h10, h11⟩ := h
  have ha : s.vm.Alike U.vm := by rw [hv]; exact Vm.Alike.refl _
  exact ⟨⟨adV, by rw [hU]; exact h8.moved ha⟩, fun q hq => (h9 q hq).same hv, by rw [hU]; exact h10.moved ha, by rw [hU]; exact h11.moved ha⟩
theorem ns_blind {base : Nat} {oa : Nat → Nat} {as : List Value} : FrameBlind (ns_Pc base oa as) := by
  intro a U g mk hq
  obtain ⟨h1, h2, h3⟩ := hq
  exact ⟨h1, ns_same h2 rfl rfl, h3⟩
theorem ns_recv {base : Nat} {oa : Nat → Nat} {s : State} {i : Nat} (h : mv_Str base oa s) (hi : i < 3) : ∃ cell : Cell, s.heap[oa (i + 1)]? = some cell ∧ cell.vm.isStatics = false ∧ s.vm.findClass "java/lang/String" = some cell.cls := by
  obtain ⟨⟨adV, h8⟩, -⟩ := h
  exact vk_recv (adK := fun i => oa (i + 1)) (i := i) h8 hi va_S.rf
theorem ns_shr (x : Int32) : x >>> ((0 : Int32) &&& 31) = x := by
  rw [show (0 : Int32) &&& 31 = 0 by decide]
  exact Int32.shiftRight_zero

set_option maxHeartbeats 4000000 in
theorem ns_coder (l : Launch) {base : Nat} {oa : Nat → Nat} {i : Nat} (hi : i < 3) : Met l ny_coder (.code ny_coder nc_coder 1 (some .byte) :: mv_tbl) (ns_rm 1) (ns_Pc base oa [.ref (oa (i + 1))]) (ns_Qc (some (.int 0))) 0 0 (fun _ => False) := by
  refine Met.ofW (cc := nc_coder) (maxL := 1) (ret := (some .byte)) (by decide +kernel) rfl ?_
  intro p e s m args below meth c s₁ B hml hv
  obtain ⟨rfl, hStr, hbs⟩ := hv
  have hx := B.exec
  have hb := B.bytes
  have hr := B.returns
  have hts : ∀ w ∈ mv_tbl, w.before _ s = true := fun w hw => atoms_spec (ws := .code ny_coder nc_coder 1 (some .byte) :: mv_tbl) B.pre w (List.mem_cons_of_mem _ hw)
  have hown : s.vm.findClass RJ0 = some m.cls := findClass_of_methodNamed B.named
  have hlocks := B.notSynchronized
  have hS : va_S (fun q => base ≤ q) s.heap s.heap [] := va_S.rf
  have hl := lv_entry ([.ref (oa (i + 1))]) (n := 1) (Nat.le_of_ble_eq_true rfl)
  rw [lg_entry_eq]
  generalize (lg_sl ([.ref (oa (i + 1))]) ++ List.replicate (1 - (lg_sl ([.ref (oa (i + 1))])).length) Slot.unset).toArray = ls at hl ⊢
  have hl : lv_has ls 1 [(0, .ref (oa (i + 1)))] := hl
  obtain ⟨⟨adV, h8⟩, h9, h10, h11⟩ := id hStr
  refine va_gets hx hb h10 hS hown (hts _ nw_fl_RJ0_38) (fun _ h => h) nd_coder_0 ?_
  refine lv_if_eq (tgt := 13) hx hb nd_coder_3 (by decide) (fun h => absurd h (by decide)) (fun _ => ?_)
  refine lv_aload_n hx hb nd_coder_6 rfl (lv_at hl 0 rfl) ?_
  refine vk_getf hx hb (h8.1 i hi).2.1 hS hown (hts _ nw_fl_RJ0_15) (fun _ h => h) nd_coder_7 ?_
  refine lv_goto (tgt := 14) hx hb nd_coder_10 (by decide) ?_
  exact W.zret hx hb hr (by decide) (fun t ht _ => ⟨rfl, ht⟩) (fun _ h => by cases h) nd_coder_14 hlocks

set_option maxHeartbeats 4000000 in
theorem ns_lat1 (l : Launch) {base : Nat} {oa : Nat → Nat} {i : Nat} (hi : i < 3) : Met l ny_lat1 (.code ny_lat1 nc_lat1 1 (some .boolean) :: mv_tbl) (ns_rm 1) (ns_Pc base oa [.ref (oa (i + 1))]) (ns_Qc (some (.int 1))) 0 0 (fun _ => False) := by
  refine Met.ofW (cc := nc_lat1) (maxL := 1) (ret := (some .boolean)) (by decide +kernel) rfl ?_
  intro p e s m args below meth c s₁ B hml hv
  obtain ⟨rfl, hStr, hbs⟩ := hv
  have hx := B.exec
  have hb := B.bytes
  have hr := B.returns
  have hts : ∀ w ∈ mv_tbl, w.before _ s = true := fun w hw => atoms_spec (ws := .code ny_lat1 nc_lat1 1 (some .boolean) :: mv_tbl) B.pre w (List.mem_cons_of_mem _ hw)
  have hown : s.vm.findClass RJ0 = some m.cls := findClass_of_methodNamed B.named
  have hlocks := B.notSynchronized
  have hS : va_S (fun q => base ≤ q) s.heap s.heap [] := va_S.rf
  have hl := lv_entry ([.ref (oa (i + 1))]) (n := 1) (Nat.le_of_ble_eq_true rfl)
  rw [lg_entry_eq]
  generalize (lg_sl ([.ref (oa (i + 1))]) ++ List.replicate (1 - (lg_sl ([.ref (oa (i + 1))])).length) Slot.unset).toArray = ls at hl ⊢
  have hl : lv_has ls 1 [(0, .ref (oa (i + 1)))] := hl
  obtain ⟨⟨adV, h8⟩, h9, h10, h11⟩ := id hStr
  refine va_gets hx hb h10 hS hown (hts _ nw_fl_RJ0_38) (fun _ h => h) nd_lat1_0 ?_
  refine lv_if_eq (tgt := 17) hx hb nd_lat1_3 (by decide) (fun h => absurd h (by decide)) (fun _ => ?_)
  refine lv_aload_n hx hb nd_lat1_6 rfl (lv_at hl 0 rfl) ?_
  refine vk_getf hx hb (h8.1 i hi).2.1 hS hown (hts _ nw_fl_RJ0_15) (fun _ h => h) nd_lat1_7 ?_
  refine lv_if_ne (tgt := 17) hx hb nd_lat1_10 (by decide) (fun h => absurd rfl h) (fun _ => ?_)
  refine lv_iconst (v := 1) hx hb nd_lat1_13 (by decide) ?_
  refine lv_goto (tgt := 18) hx hb nd_lat1_14 (by decide) ?_
  exact W.zret hx hb hr (by decide) (fun t ht _ => ⟨rfl, ht⟩) (fun _ h => by cases h) nd_lat1_18 hlocks

set_option maxHeartbeats 4000000 in
theorem ns_len (l : Launch) {base : Nat} {oa : Nat → Nat} {i : Nat} (hi : i < 3) : Met l ny_len (.code ny_len nc_len 1 (some .int) :: mv_tbl) (ns_rm 2) (ns_Pc base oa [.ref (oa (i + 1))]) (ns_Qc (some (.int (Int32.ofNat ((mv_txt.map List.length).getD i 0))))) 0 0 (fun _ => False) := by
  refine Met.ofW (cc := nc_len) (maxL := 1) (ret := (some .int)) (by decide +kernel) rfl ?_
  intro p e s m args below meth c s₁ B hml hv
  obtain ⟨rfl, hStr, hbs⟩ := hv
  have hx := B.exec
  have hb := B.bytes
  have hr := B.returns
  have hts : ∀ w ∈ mv_tbl, w.before _ s = true := fun w hw => atoms_spec (ws := .code ny_len nc_len 1 (some .int) :: mv_tbl) B.pre w (List.mem_cons_of_mem _ hw)
  have hown : s.vm.findClass RJ0 = some m.cls := findClass_of_methodNamed B.named
  have hlocks := B.notSynchronized
  have hS : va_S (fun q => base ≤ q) s.heap s.heap [] := va_S.rf
  have hl := lv_entry ([.ref (oa (i + 1))]) (n := 1) (Nat.le_of_ble_eq_true rfl)
  rw [lg_entry_eq]
  generalize (lg_sl ([.ref (oa (i + 1))]) ++ List.replicate (1 - (lg_sl ([.ref (oa (i + 1))])).length) Slot.unset).toArray = ls at hl ⊢
  have hl : lv_has ls 1 [(0, .ref (oa (i + 1)))] := hl
  obtain ⟨⟨adV, h8⟩, h9, h10, h11⟩ := id hStr
  obtain ⟨cell, t1, t2, t3, t4, t5, t6, t7⟩ := (h8.1 i hi).2.2.2
  refine lv_aload_n hx hb nd_len_0 rfl (lv_at hl 0 rfl) ?_
  refine vk_getf hx hb (h8.1 i hi).2.2.1 hS hown (hts _ nw_fl_RJ0_9) (fun _ h => h) nd_len_1 ?_
  refine W.alen (n := Int32.ofNat ((mv_txt.map List.length).getD i 0)) hx hb t1 t2 t5 rfl rfl nd_len_4 ?_
  refine lv_aload_n hx hb nd_len_5 rfl (lv_at hl 0 rfl) ?_
  refine W.callX (W.runV (C := ny_coder.cls) (b := oa (i + 1)) (As := []) (rest := [.int (Int32.ofNat ((mv_txt.map List.length).getD i 0))]) ⟨hx, hb, hml, hown, hts⟩ (ns_coder l hi) ⟨callB_of 0 hts (mv_tbl_code nw_code_coder) rfl rfl rfl (hts _ nw_ini_RJ0) (hts _ nw_ml_RJ0_335) ⟨by decide +kernel, by decide +kernel, by decide +kernel⟩ ⟨by decide, by decide⟩, hts _ nw_kind_coder, hts _ nw_sel_coder⟩ ⟨ns_blind, ns_recv hStr hi, fun U hU hW => ⟨rfl, ns_str hStr hU hW, by rw [hU]; exact hbs⟩⟩ rfl rfl hl.1 rfl (lv_room (by simp [Value.category])) nd_len_6 ⟨Nat.zero_le _, Nat.zero_le _⟩) (fun _ h => h.elim) (fun v st₀ t e0 hq => ?_)
  obtain ⟨hv, hh⟩ := hq
  cases hv
  rw [hh, e0]
  refine W.eq (g2 := F0 m 9 ls [.int 0, .int (Int32.ofNat ((mv_txt.map List.length).getD i 0))]) rfl ?_
  refine lv_ishr hx hb nd_len_9 ?_
  rw [ns_shr]
  exact W.iret hx hb hr (fun t ht _ => ⟨rfl, ht⟩) (fun _ h => by cases h) nd_len_10 hlocks

set_option maxHeartbeats 4000000 in
theorem ns_pchk (l : Launch) {base : Nat} {oa : Nat → Nat} {a n : Int32} {fv : Value} (hf : fv.category = 1) (h1 : ¬ a < 0) (h2 : a < n) : Met l ny_pchk (.code ny_pchk nc_pchk 3 (some .int) :: mv_tbl) (ns_rm 1) (ns_Pc base oa [.int a, .int n, fv]) (ns_Qc (some (.int a))) 0 0 (fun _ => False) := by
  refine Met.ofW (cc := nc_pchk) (maxL := 3) (ret := (some .int)) (by decide +kernel) rfl ?_
  intro p e s m args below meth c s₁ B hml hv
  obtain ⟨rfl, hStr, hbs⟩ := hv
  have hx := B.exec
  have hb := B.bytes
  have hr := B.returns
  have hts : ∀ w ∈ mv_tbl, w.before _ s = true := fun w hw => atoms_spec (ws := .code ny_pchk nc_pchk 3 (some .int) :: mv_tbl) B.pre w (List.mem_cons_of_mem _ hw)
  have hown : s.vm.findClass RJ3 = some m.cls := findClass_of_methodNamed B.named
  have hlocks := B.notSynchronized
  have hS : va_S (fun q => base ≤ q) s.heap s.heap [] := va_S.rf
  have hl := lv_entry ([.int a, .int n, fv]) (n := 3) (by have e1 : (Value.int a).category = 1 := rfl; have e2 : (Value.int n).category = 1 := rfl; simp [lg_sl, hf, e1, e2])
  rw [lg_entry_eq]
  generalize (lg_sl ([.int a, .int n, fv]) ++ List.replicate (3 - (lg_sl ([.int a, .int n, fv])).length) Slot.unset).toArray = ls at hl ⊢
  have hl : lv_has ls 3 [(0, .int a), (1, .int n), (2, fv)] := hl
  refine lv_iload_n hx hb nd_pchk_0 rfl (lv_at hl 0 rfl) ?_
  refine lv_if_lt (tgt := 9) hx hb nd_pchk_1 (by decide) (fun h => absurd h h1) (fun _ => ?_)
  refine lv_iload_n hx hb nd_pchk_4 rfl (lv_at hl 0 rfl) ?_
  refine lv_iload_n hx hb nd_pchk_5 rfl (lv_at hl 1 rfl) ?_
  refine lv_icmp_lt (tgt := 16) hx hb nd_pchk_6 (by decide) (fun _ => ?_) (fun h => absurd h2 h)
  refine lv_iload_n hx hb nd_pchk_16 rfl (lv_at hl 0 rfl) ?_
  exact W.iret hx hb hr (fun t ht _ => ⟨rfl, ht⟩) (fun _ h => by cases h) nd_pchk_17 hlocks

set_option maxHeartbeats 4000000 in
theorem ns_schk (l : Launch) {base : Nat} {oa : Nat → Nat} {a n : Int32} (h1 : ¬ a < 0) (h2 : a < n) : Met l ny_schk (.code ny_schk nc_schk 2 none :: mv_tbl) (ns_rm 2) (ns_Pc base oa [.int a, .int n]) (ns_Qc none) 0 0 (fun _ => False) := by
  refine Met.ofW (cc := nc_schk) (maxL := 2) (ret := none) (by decide +kernel) rfl ?_
  intro p e s m args below meth c s₁ B hml hv
  obtain ⟨rfl, hStr, hbs⟩ := hv
  have hx := B.exec
  have hb := B.bytes
  have hr := B.returns
  have hts : ∀ w ∈ mv_tbl, w.before _ s = true := fun w hw => atoms_spec (ws := .code ny_schk nc_schk 2 none :: mv_tbl) B.pre w (List.mem_cons_of_mem _ hw)
  have hown : s.vm.findClass RJ0 = some m.cls := findClass_of_methodNamed B.named
  have hlocks := B.notSynchronized
  have hS : va_S (fun q => base ≤ q) s.heap s.heap [] := va_S.rf
  have hl := lv_entry ([.int a, .int n]) (n := 2) (Nat.le_of_ble_eq_true rfl)
  rw [lg_entry_eq]
  generalize (lg_sl ([.int a, .int n]) ++ List.replicate (2 - (lg_sl ([.int a, .int n])).length) Slot.unset).toArray = ls at hl ⊢
  have hl : lv_has ls 2 [(0, .int a), (1, .int n)] := hl
  obtain ⟨⟨adV, h8⟩, h9, h10, h11⟩ := id hStr
  refine lv_iload_n hx hb nd_schk_0 rfl (lv_at hl 0 rfl) ?_
  refine lv_iload_n hx hb nd_schk_1 rfl (lv_at hl 1 rfl) ?_
  obtain ⟨fv, hfc, hZ⟩ : ∃ fv : Value, fv.category = 1 ∧ va_Z "jdk/internal/util/Preconditions" "SIOOBE_FORMATTER" "Ljava/util/function/BiFunction;" fv (fun q => base ≤ q) s s.heap := by
    rcases h11 with h | ⟨t, h⟩
    · exact ⟨.null, rfl, h⟩
    · exact ⟨.ref t, rfl, h⟩
  refine va_gets hx hb hZ hS hown (hts _ nw_fl_RJ0_1053) (fun _ h => h) nd_schk_2 ?_
  refine W.callX (W.runS (As := [.int a, .int n, fv]) (rest := []) ⟨hx, hb, hml, hown, hts⟩ (ns_pchk l hfc h1 h2) ⟨callB_of 3 hts (mv_tbl_code nw_code_pchk) rfl rfl rfl (hts _ nw_ini_RJ3) (hts _ nw_ml_RJ0_1059) ⟨by decide +kernel, by decide +kernel, by decide +kernel⟩ ⟨by decide, by decide⟩, hts _ nw_kind_pchk⟩ ⟨ns_blind, fun U hU hW => ⟨rfl, ns_str hStr hU hW, by rw [hU]; exact hbs⟩⟩ rfl rfl hl.1 rfl (lv_room (by simp [Value.category])) nd_schk_5 ⟨Nat.zero_le _, Nat.zero_le _⟩) (fun _ h => h.elim) (fun v st₀ t e0 hq => ?_)
  obtain ⟨hv, hh⟩ := hq
  cases hv
  rw [hh, e0]
  refine W.eq (g2 := F0 m 8 ls [.int a]) rfl ?_
  refine lv_pop hx hb nd_schk_8 rfl ?_
  exact W.vret hx hb hr (fun t ht _ => ⟨rfl, ht⟩) (fun _ h => by cases h) nd_schk_9 hlocks

