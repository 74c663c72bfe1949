/-- the byte array of a constant, at an address -/
def ns_V (base : Nat) (i v : Nat) (U : State) : Prop := va_T .byte v ((mv_txt.map List.length).getD i 0) (fun j => .int ((mv_txt.getD i []).getD j 0)) (fun q => base ≤ q) U U.heap
def ns_Pv (base : Nat) (oa : Nat → Nat) (i v : Nat) (as : List Value) : Array Value → State → Prop := fun w U => ns_Pc base oa as w U ∧ ns_V base i v U
theorem ns_blindv {base : Nat} {oa : Nat → Nat} {i v : Nat} {as : List Value} : FrameBlind (ns_Pv base oa i v as) := by
  intro a U g mk hq
  refine ⟨ns_blind a U g mk hq.1, ?_⟩
  exact va_T.moved (u := U) (U := U.calling g mk a) (Vm.Alike.refl U.vm) hq.2

set_option maxHeartbeats 4000000 in
theorem ns_lchar (l : Launch) {base : Nat} {oa : Nat → Nat} {i v : Nat} {a : Int32} (h1 : ¬ a < 0) (h2 : a < Int32.ofNat ((mv_txt.map List.length).getD i 0)) (h3 : a.toNatClampNeg < (mv_txt.map List.length).getD i 0) (h4 : narrow .char (.int (((mv_txt.getD i []).getD a.toNatClampNeg 0 &&& 255).toUInt32 % 65536).toInt32) = .int (((mv_txt.getD i []).getD a.toNatClampNeg 0 &&& 255).toUInt32 % 65536).toInt32) : Met l ny_lchar (.code ny_lchar nc_lchar 2 (some .char) :: mv_tbl) (ns_rm 3) (ns_Pv base oa i v [.ref v, .int a]) (ns_Qc (some (.int (((mv_txt.getD i []).getD a.toNatClampNeg 0 &&& 255).toUInt32 % 65536).toInt32))) 0 0 (fun _ => False) := by
  refine Met.ofW (cc := nc_lchar) (maxL := 2) (ret := (some .char)) (by decide +kernel) rfl ?_
  intro p e s m args below meth c s₁ B hml hv
  obtain ⟨⟨rfl, hStr, hbs⟩, hV⟩ := hv
  obtain ⟨cell, t1, t2, t3, t4, t5, t6, t7⟩ := id hV
  have hx := B.exec
  have hb := B.bytes
  have hr := B.returns
  have hts : ∀ w ∈ mv_tbl, w.before _ s = true := fun w hw => atoms_spec (ws := .code ny_lchar nc_lchar 2 (some .char) :: mv_tbl) B.pre w (List.mem_cons_of_mem _ hw)
  have hown : s.vm.findClass RJ1 = some m.cls := findClass_of_methodNamed B.named
  have hlocks := B.notSynchronized
  have hS : va_S (fun q => base ≤ q) s.heap s.heap [] := va_S.rf
  have hl := lv_entry ([.ref v, .int a]) (n := 2) (Nat.le_of_ble_eq_true rfl)
  rw [lg_entry_eq]
  generalize (lg_sl ([.ref v, .int a]) ++ List.replicate (2 - (lg_sl ([.ref v, .int a])).length) Slot.unset).toArray = ls at hl ⊢
  have hl : lv_has ls 2 [(0, .ref v), (1, .int a)] := hl
  refine lv_iload_n hx hb nd_lchar_0 rfl (lv_at hl 1 rfl) ?_
  refine lv_aload_n hx hb nd_lchar_1 rfl (lv_at hl 0 rfl) ?_
  refine W.alen (n := Int32.ofNat ((mv_txt.map List.length).getD i 0)) hx hb t1 t2 t5 rfl rfl nd_lchar_2 ?_
  refine W.callX (W.runS (As := [.int a, .int (Int32.ofNat ((mv_txt.map List.length).getD i 0))]) (rest := []) ⟨hx, hb, hml, hown, hts⟩ (ns_schk l h1 h2) ⟨callB_of 2 hts (mv_tbl_code nw_code_schk) rfl rfl rfl (hts _ nw_ini_RJ0) (hts _ nw_ml_RJ1_9) ⟨by decide +kernel, by decide +kernel, by decide +kernel⟩ ⟨by decide, by decide⟩, hts _ nw_kind_schk⟩ ⟨ns_blind, fun U hU hW => ⟨rfl, ns_str hStr hU hW, by rw [hU]; exact hbs⟩⟩ rfl rfl hl.1 rfl (lv_room (by simp [Value.category])) nd_lchar_3 ⟨Nat.zero_le _, Nat.zero_le _⟩) (fun _ h => h.elim) (fun v st₀ t e0 hq => ?_)
  obtain ⟨hv, hh⟩ := hq
  cases hv
  rw [hh, e0]
  refine W.eq (g2 := F0 m 6 ls []) rfl ?_
  refine lv_aload_n hx hb nd_lchar_6 rfl (lv_at hl 0 rfl) ?_
  refine lv_iload_n hx hb nd_lchar_7 rfl (lv_at hl 1 rfl) ?_
  refine W.bald hx hb t1 t2 t3 (fun q => q.elim h1 (fun q => by omega)) (t6 _ h3) rfl rfl nd_lchar_8 ?_
  refine lv_sipush (v := 255) hx hb nd_lchar_9 (by decide) ?_
  refine lv_iand hx hb nd_lchar_12 ?_
  refine lv_i2c hx hb nd_lchar_13 rfl ?_
  exact W.zret hx hb hr h4 (fun t ht _ => ⟨rfl, ht⟩) (fun _ h => by cases h) nd_lchar_14 hlocks

set_option maxHeartbeats 4000000 in
theorem ns_char (l : Launch) {base : Nat} {oa : Nat → Nat} {i : Nat} (hi : i < 3) {a : Int32} (h1 : ¬ a < 0) (h2 : a < Int32.ofNat ((mv_txt.map List.length).getD i 0)) (h3 : a.toNatClampNeg < (mv_txt.map List.length).getD i 0) (h4 : narrow .char (.int (((mv_txt.getD i []).getD a.toNatClampNeg 0 &&& 255).toUInt32 % 65536).toInt32) = .int (((mv_txt.getD i []).getD a.toNatClampNeg 0 &&& 255).toUInt32 % 65536).toInt32) : Met l ny_char (.code ny_char nc_char 2 (some .char) :: mv_tbl) (ns_rm 4) (ns_Pc base oa [.ref (oa (i + 1)), .int a]) (ns_Qc (some (.int (((mv_txt.getD i []).getD a.toNatClampNeg 0 &&& 255).toUInt32 % 65536).toInt32))) 0 0 (fun _ => False) := by
  refine Met.ofW (cc := nc_char) (maxL := 2) (ret := (some .char)) (by decide +kernel) rfl ?_
  intro p e s m args below meth c s₁ B hml hv
  obtain ⟨rfl, hStr, hbs⟩ := hv
  have hx := B.exec
  have hb := B.bytes
  have hr := B.returns
  have hts : ∀ w ∈ mv_tbl, w.before _ s = true := fun w hw => atoms_spec (ws := .code ny_char nc_char 2 (some .char) :: mv_tbl) B.pre w (List.mem_cons_of_mem _ hw)
  have hown : s.vm.findClass RJ0 = some m.cls := findClass_of_methodNamed B.named
  have hlocks := B.notSynchronized
  have hS : va_S (fun q => base ≤ q) s.heap s.heap [] := va_S.rf
  have hl := lv_entry ([.ref (oa (i + 1)), .int a]) (n := 2) (Nat.le_of_ble_eq_true rfl)
  rw [lg_entry_eq]
  generalize (lg_sl ([.ref (oa (i + 1)), .int a]) ++ List.replicate (2 - (lg_sl ([.ref (oa (i + 1)), .int a])).length) Slot.unset).toArray = ls at hl ⊢
  have hl : lv_has ls 2 [(0, .ref (oa (i + 1))), (1, .int a)] := hl
  obtain ⟨⟨adV, h8⟩, h9, h10, h11⟩ := id hStr
  refine lv_aload_n hx hb nd_char_0 rfl (lv_at hl 0 rfl) ?_
  refine W.callX (W.runV (C := ny_lat1.cls) (b := oa (i + 1)) (As := []) (rest := []) ⟨hx, hb, hml, hown, hts⟩ (ns_lat1 l hi) ⟨callB_of 0 hts (mv_tbl_code nw_code_lat1) rfl rfl rfl (hts _ nw_ini_RJ0) (hts _ nw_ml_RJ0_492) ⟨by decide +kernel, by decide +kernel, by decide +kernel⟩ ⟨by decide, by decide⟩, hts _ nw_kind_lat1, hts _ nw_sel_lat1⟩ ⟨ns_blind, ns_recv hStr hi, fun U hU hW => ⟨rfl, ns_str hStr hU hW, by rw [hU]; exact hbs⟩⟩ rfl rfl hl.1 rfl (lv_room (by simp [Value.category])) nd_char_1 ⟨Nat.zero_le _, Nat.zero_le _⟩) (fun _ h => h.elim) (fun v st₀ t e0 hq => ?_)
  obtain ⟨hv, hh⟩ := hq
  cases hv
  rw [hh, e0]
  refine W.eq (g2 := F0 m 4 ls [.int 1]) rfl ?_
  refine lv_if_eq (tgt := 16) hx hb nd_char_4 (by decide) (fun h => absurd h (by decide)) (fun _ => ?_)
  refine lv_aload_n hx hb nd_char_7 rfl (lv_at hl 0 rfl) ?_
  refine vk_getf hx hb (h8.1 i hi).2.2.1 hS hown (hts _ nw_fl_RJ0_9) (fun _ h => h) nd_char_8 ?_
  refine lv_iload_n hx hb nd_char_11 rfl (lv_at hl 1 rfl) ?_
  refine W.callX (W.runS (As := [.ref (adV i), .int a]) (rest := []) ⟨hx, hb, hml, hown, hts⟩ (ns_lchar l h1 h2 h3 h4) ⟨callB_of 2 hts (mv_tbl_code nw_code_lchar) rfl rfl rfl (hts _ nw_ini_RJ1) (hts _ nw_ml_RJ0_495) ⟨by decide +kernel, by decide +kernel, by decide +kernel⟩ ⟨by decide, by decide⟩, hts _ nw_kind_lchar⟩ ⟨ns_blindv, fun U hU hW => ⟨⟨rfl, ns_str hStr hU hW, by rw [hU]; exact hbs⟩, by unfold ns_V; rw [hU]; exact va_T.moved hW.alike (h8.1 i hi).2.2.2⟩⟩ rfl rfl hl.1 rfl (lv_room (by simp [Value.category])) nd_char_12 ⟨Nat.zero_le _, Nat.zero_le _⟩) (fun _ h => h.elim) (fun v st₀ t e0 hq => ?_)
  obtain ⟨hv, hh⟩ := hq
  cases hv
  rw [hh, e0]
  refine W.eq (g2 := F0 m 15 ls [.int (((mv_txt.getD i []).getD a.toNatClampNeg 0 &&& 255).toUInt32 % 65536).toInt32]) rfl ?_
  exact W.zret hx hb hr h4 (fun t ht _ => ⟨rfl, ht⟩) (fun _ h => by cases h) nd_char_15 hlocks

set_option maxHeartbeats 4000000 in
theorem ns_can (l : Launch) {base : Nat} {oa : Nat → Nat} {a : Int32} : Met l ny_can (.code ny_can nc_can 1 (some .boolean) :: mv_tbl) (ns_rm 1) (ns_Pc base oa [.int a]) (ns_Qc (some (.int (if a < 0 ∨ a > 255 then 0 else 1)))) 0 0 (fun _ => False) := by
  refine Met.ofW (cc := nc_can) (maxL := 1) (ret := (some .boolean)) (by decide +kernel) rfl ?_
  intro p e s m args below meth c s₁ B hml hv
  obtain ⟨rfl, hStr, hbs⟩ := hv
  have hx := B.exec
  have hb := B.bytes
  have hr := B.returns
  have hts : ∀ w ∈ mv_tbl, w.before _ s = true := fun w hw => atoms_spec (ws := .code ny_can nc_can 1 (some .boolean) :: mv_tbl) B.pre w (List.mem_cons_of_mem _ hw)
  have hown : s.vm.findClass RJ1 = some m.cls := findClass_of_methodNamed B.named
  have hlocks := B.notSynchronized
  have hS : va_S (fun q => base ≤ q) s.heap s.heap [] := va_S.rf
  have hl := lv_entry ([.int a]) (n := 1) (Nat.le_of_ble_eq_true rfl)
  rw [lg_entry_eq]
  generalize (lg_sl ([.int a]) ++ List.replicate (1 - (lg_sl ([.int a])).length) Slot.unset).toArray = ls at hl ⊢
  have hl : lv_has ls 1 [(0, .int a)] := hl
  have he : W p l e (headSpec (.code ny_can nc_can 1 (some .boolean) :: mv_tbl) (ns_rm 1)).room s m [Value.int a].toArray below meth c s.heap [] 0 0 (MQ below (ns_Qc (some (.int (if a < 0 ∨ a > 255 then 0 else 1)))) [Value.int a].toArray s 0 0 (fun _ => False)) (F0 m 0 ls []) := by
    refine lv_iload_n hx hb nd_can_0 rfl (lv_at hl 0 rfl) ?_
    refine lv_if_lt (tgt := 15) hx hb nd_can_1 (by decide) (fun q => ?_) (fun q => ?_)
    · rw [if_pos (Or.inl q)]
      refine lv_iconst (v := 0) hx hb nd_can_15 (by decide) ?_
      exact W.zret hx hb hr (by decide) (fun t ht _ => ⟨rfl, ht⟩) (fun _ h => by cases h) nd_can_16 hlocks
    · refine lv_iload_n hx hb nd_can_4 rfl (lv_at hl 0 rfl) ?_
      refine lv_sipush (v := 255) hx hb nd_can_5 (by decide) ?_
      refine lv_icmp_gt (tgt := 15) hx hb nd_can_8 (by decide) (fun q2 => ?_) (fun q2 => ?_)
      · rw [if_pos (Or.inr q2)]
        refine lv_iconst (v := 0) hx hb nd_can_15 (by decide) ?_
        exact W.zret hx hb hr (by decide) (fun t ht _ => ⟨rfl, ht⟩) (fun _ h => by cases h) nd_can_16 hlocks
      · rw [if_neg (fun h => h.elim q q2)]
        refine lv_iconst (v := 1) hx hb nd_can_11 (by decide) ?_
        refine lv_goto (tgt := 16) hx hb nd_can_12 (by decide) ?_
        exact W.zret hx hb hr (by decide) (fun t ht _ => ⟨rfl, ht⟩) (fun _ h => by cases h) nd_can_16 hlocks
  exact he

theorem ns_tlen {i : Nat} (hi : i < 3) : (mv_txt.map List.length).getD i 0 = (mv_txt.getD i []).length := by
  match i, hi with
  | 0, _ => rfl
  | 1, _ => rfl
  | 2, _ => rfl
theorem ns_drop {l : List Int32} {j : Nat} (hj : j < l.length) : l.drop j = l.getD j 0 :: l.drop (j + 1) := by
  rw [List.drop_eq_getElem_cons hj]
  congr 1
  rw [List.getD_eq_getElem?_getD, List.getElem?_eq_getElem hj]
  rfl
theorem ns_mem {l : List Int32} {z : Nat} (h : z < l.length) : l.getD z 0 ∈ l := by
  rw [List.getD_eq_getElem?_getD, List.getElem?_eq_getElem h]
  exact List.getElem_mem h
theorem ns_pos0 {i : Nat} (hi : i < 3) : (0 : Int32) < Int32.ofNat ((mv_txt.map List.length).getD i 0) := by
  match i, hi with
  | 0, _ => decide
  | 1, _ => decide
  | 2, _ => decide
theorem ns_tpos {i : Nat} (hi : i < 3) : 0 < (mv_txt.getD i []).length ∧ (mv_txt.getD i []).length < 200 := by
  match i, hi with
  | 0, _ => decide
  | 1, _ => decide
  | 2, _ => decide

set_option maxHeartbeats 4000000 in
theorem ns_ioc (l : Launch) {base : Nat} {oa : Nat → Nat} {i v : Nat} (hi : i < 3) {ch : Int32} : Met l ny_ioc (.code ny_ioc nc_ioc 6 (some .int) :: mv_tbl) (ns_rm 1) (ns_Pv base oa i v [.ref v, .int ch, .int 0, .int (Int32.ofNat ((mv_txt.map List.length).getD i 0))]) (ns_Qc (some (.int (mv_ixf ch.toInt8.toInt32 (mv_txt.getD i []) 0)))) 0 0 (fun _ => False) := by
  refine Met.ofW (cc := nc_ioc) (maxL := 6) (ret := (some .int)) (by decide +kernel) rfl ?_
  intro p e s m args below meth c s₁ B hml hv
  obtain ⟨⟨rfl, hStr, hbs⟩, hV⟩ := hv
  obtain ⟨cell, t1, t2, t3, t4, t5, t6, t7⟩ := id hV
  have hx := B.exec
  have hb := B.bytes
  have hr := B.returns
  have hts : ∀ w ∈ mv_tbl, w.before _ s = true := fun w hw => atoms_spec (ws := .code ny_ioc nc_ioc 6 (some .int) :: mv_tbl) B.pre w (List.mem_cons_of_mem _ hw)
  have hown : s.vm.findClass RJ1 = some m.cls := findClass_of_methodNamed B.named
  have hlocks := B.notSynchronized
  have hS : va_S (fun q => base ≤ q) s.heap s.heap [] := va_S.rf
  have hl := lv_entry ([.ref v, .int ch, .int 0, .int (Int32.ofNat ((mv_txt.map List.length).getD i 0))]) (n := 6) (Nat.le_of_ble_eq_true rfl)
  rw [lg_entry_eq]
  generalize (lg_sl ([.ref v, .int ch, .int 0, .int (Int32.ofNat ((mv_txt.map List.length).getD i 0))]) ++ List.replicate (6 - (lg_sl ([.ref v, .int ch, .int 0, .int (Int32.ofNat ((mv_txt.map List.length).getD i 0))])).length) Slot.unset).toArray = ls at hl ⊢
  have hl : lv_has ls 6 [(0, .ref v), (1, .int ch), (2, .int 0), (3, .int (Int32.ofNat ((mv_txt.map List.length).getD i 0)))] := hl
  have hlen := ns_tlen hi
  obtain ⟨hp1, hp2⟩ := ns_tpos hi
  rw [hlen] at t4 t5 t6 hl
  have hloop : ∀ (n j : Nat) (ls : Array Slot), j ≤ (mv_txt.getD i []).length → (mv_txt.getD i []).length ≤ j + n → mv_ixf ch.toInt8.toInt32 ((mv_txt.getD i []).drop j) j = mv_ixf ch.toInt8.toInt32 (mv_txt.getD i []) 0 → lv_has ls 6 [(5, .int (nI j)), (4, .int ch.toInt8.toInt32), (0, .ref v), (3, .int (nI (mv_txt.getD i []).length))] →
      W p l e (headSpec (.code ny_ioc nc_ioc 6 (some .int) :: mv_tbl) (ns_rm 1)).room s m [Value.ref v, .int ch, .int 0, .int (Int32.ofNat ((mv_txt.map List.length).getD i 0))].toArray below meth c s.heap [] 0 0 (MQ below (ns_Qc (some (.int (mv_ixf ch.toInt8.toInt32 (mv_txt.getD i []) 0)))) [Value.ref v, .int ch, .int 0, .int (Int32.ofNat ((mv_txt.map List.length).getD i 0))].toArray s 0 0 (fun _ => False)) (F0 m 7 ls []) := by
    intro n
    induction n with
    | zero =>
      intro j ls h1 h2 h3 hl
      have hj : j = (mv_txt.getD i []).length := by omega
      refine lv_iload hx hb nd_ioc_7 (lv_at hl 0 rfl) ?_
      refine lv_iload_n hx hb nd_ioc_9 rfl (lv_at hl 3 rfl) ?_
      refine lv_icmp_ge (tgt := 31) hx hb nd_ioc_10 (by decide) (fun _ => ?_) (fun h => absurd (by rw [hj]; exact nI_le (Nat.le_refl _) (by omega)) h)
      refine lv_iconst (v := -1) hx hb nd_ioc_31 (by decide) ?_
      have hz : mv_ixf ch.toInt8.toInt32 (mv_txt.getD i []) 0 = -1 := by
        rw [← h3, hj, List.drop_length]
        rfl
      rw [hz]
      exact W.iret hx hb hr (fun t ht _ => ⟨rfl, ht⟩) (fun _ h => by cases h) nd_ioc_32 hlocks
    | succ n ih =>
      intro j ls h1 h2 h3 hl
      refine lv_iload hx hb nd_ioc_7 (lv_at hl 0 rfl) ?_
      refine lv_iload_n hx hb nd_ioc_9 rfl (lv_at hl 3 rfl) ?_
      by_cases hj : j < (mv_txt.getD i []).length
      · refine lv_icmp_ge (tgt := 31) hx hb nd_ioc_10 (by decide) (fun h => absurd h (nI_ge hj (by omega))) (fun _ => ?_)
        refine lv_aload_n hx hb nd_ioc_13 rfl (lv_at hl 2 rfl) ?_
        refine lv_iload hx hb nd_ioc_14 (lv_at hl 0 rfl) ?_
        have hcl : (nI j).toNatClampNeg = j := nI_clamp (by omega)
        refine W.bald (v := .int ((mv_txt.getD i []).getD j 0)) hx hb t1 t2 t3 (fun q => ?_) (by rw [hcl]; exact t6 j hj) rfl rfl nd_ioc_16 ?_
        · rcases q with q | q
          · exact nI_pos (by omega) q
          · rw [hcl] at q
            omega
        refine W.eq (g2 := F0 m 17 ls [.int ((mv_txt.getD i []).getD j 0)]) rfl ?_
        have hd := ns_drop hj
        rw [hd, mv_ixf] at h3
        refine lv_iload hx hb nd_ioc_17 (lv_at hl 1 rfl) ?_
        refine lv_icmp_ne (tgt := 25) hx hb nd_ioc_19 (by decide) (fun h => ?_) (fun h => ?_)
        · rw [if_neg h] at h3
          refine lv_iinc (v := nI (j + 1)) (lv' := [(5, .int (nI (j + 1))), (4, .int ch.toInt8.toInt32), (0, .ref v), (3, .int (nI (mv_txt.getD i []).length))]) hx hb nd_ioc_25 hl (k := 0) rfl (nI_1 j) (by decide) rfl (fun ls hl => ?_)
          refine lv_goto (tgt := 7) hx hb nd_ioc_28 (by decide) ?_
          exact ih (j + 1) ls (by omega) (by omega) h3 hl
        · rw [if_pos h] at h3
          refine lv_iload hx hb nd_ioc_22 (lv_at hl 0 rfl) ?_
          rw [← h3]
          exact W.iret hx hb hr (fun t ht _ => ⟨rfl, ht⟩) (fun _ h => by cases h) nd_ioc_24 hlocks
      · have hj : j = (mv_txt.getD i []).length := by omega
        refine lv_icmp_ge (tgt := 31) hx hb nd_ioc_10 (by decide) (fun _ => ?_) (fun h => absurd (by rw [hj]; exact nI_le (Nat.le_refl _) (by omega)) h)
        refine lv_iconst (v := -1) hx hb nd_ioc_31 (by decide) ?_
        have hz : mv_ixf ch.toInt8.toInt32 (mv_txt.getD i []) 0 = -1 := by
          rw [← h3, hj, List.drop_length]
          rfl
        rw [hz]
        exact W.iret hx hb hr (fun t ht _ => ⟨rfl, ht⟩) (fun _ h => by cases h) nd_ioc_32 hlocks
  refine lv_iload_n hx hb nd_ioc_0 rfl (lv_at hl 1 rfl) ?_
  refine lv_i2b hx hb nd_ioc_1 rfl ?_
  refine lv_istore (lv' := [(4, .int ch.toInt8.toInt32), (0, .ref v), (1, .int ch), (2, .int 0), (3, .int (Int32.ofNat (mv_txt.getD i []).length))]) hx hb nd_ioc_2 hl (by decide) rfl (fun ls hl => ?_)
  refine lv_iload_n hx hb nd_ioc_4 rfl (lv_at hl 3 rfl) ?_
  refine lv_istore (lv' := [(5, .int 0), (4, .int ch.toInt8.toInt32), (0, .ref v), (1, .int ch), (2, .int 0), (3, .int (Int32.ofNat (mv_txt.getD i []).length))]) hx hb nd_ioc_5 hl (by decide) rfl (fun ls hl => ?_)
  exact hloop (mv_txt.getD i []).length 0 ls (Nat.zero_le _) (by omega) rfl (lv_sub hl [0, 1, 2, 5] rfl)

