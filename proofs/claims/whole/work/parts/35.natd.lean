def ns_D : List Int32 := [32, 40, 41, 42, 43, 45, 59, 60, 61, 62, 97, 98, 99, 100, 101, 102, 103, 104, 105, 107, 108, 109, 110, 111, 112, 114, 115, 116, 117, 119, 121]
theorem ns_inD : ∀ i, i < 3 → ∀ b ∈ mv_txt.getD i [], b ∈ ns_D := by decide +kernel
theorem ns_D1 : ∀ b ∈ ns_D, ∀ k, k < 256 → decide (b = (Int32.ofNat k).toInt8.toInt32) = decide (b = Int32.ofNat k) := by decide +kernel
theorem ns_D2 : ∀ b ∈ ns_D, ((b &&& 255).toUInt32 % 65536).toInt32 = b ∧ narrow .char (.int b) = .int b ∧ ¬ b < 0 ∧ ¬ b > 255 := by decide +kernel
theorem ns_ix_congr {c1 c2 : Int32} : ∀ (l : List Int32) (k : Nat), (∀ b ∈ l, b = c1 ↔ b = c2) → mv_ixf c1 l k = mv_ixf c2 l k := by
  intro l
  induction l with
  | nil => intro k _; rfl
  | cons b l ih =>
    intro k h
    have h1 := h b List.mem_cons_self
    have h2 := ih (k + 1) (fun b hb => h b (List.mem_cons_of_mem _ hb))
    unfold mv_ixf
    by_cases hb : b = c1
    · rw [if_pos hb, if_pos (h1.mp hb)]
    · rw [if_neg hb, if_neg (fun q => hb (h1.mpr q)), h2]
theorem ns_ix_out {c : Int32} : ∀ (l : List Int32) (k : Nat), (∀ b ∈ l, ¬ b = c) → mv_ixf c l k = -1 := by
  intro l
  induction l with
  | nil => intro k _; rfl
  | cons b l ih =>
    intro k h
    unfold mv_ixf
    rw [if_neg (h b List.mem_cons_self)]
    exact ih (k + 1) (fun b hb => h b (List.mem_cons_of_mem _ hb))
theorem ns_ix {i : Nat} (hi : i < 3) (ch : Int32) : (if ch < 0 ∨ ch > 255 then -1 else mv_ixf ch.toInt8.toInt32 (mv_txt.getD i []) 0) = mv_ixf ch (mv_txt.getD i []) 0 := by
  by_cases hc : ch < 0 ∨ ch > 255
  · rw [if_pos hc]
    refine (ns_ix_out _ _ (fun b hb e => ?_)).symm
    subst e
    have := ns_D2 b (ns_inD i hi b hb)
    exact hc.elim this.2.2.1 this.2.2.2
  · rw [if_neg hc]
    have h1 : ¬ ch < 0 := fun q => hc (Or.inl q)
    have h2 : ch ≤ 255 := Int32.not_lt.mp (fun q => hc (Or.inr q))
    obtain ⟨k, hk, rfl⟩ := nI_of2 (M := 255) (n := 255) (by decide) h1 h2
    refine ns_ix_congr _ _ (fun b hb => ?_)
    have := ns_D1 b (ns_inD i hi b hb) k (by omega)
    exact decide_eq_decide.mp this
theorem ns_tx (i : Nat) : mv_tx (i + 1) = mv_txt.getD i [] := by
  unfold mv_tx
  rw [show i + 1 - 1 = i by omega, List.getD_eq_getElem?_getD]
theorem ns_ad {base a : Nat} {oa : Nat → Nat} (h : a ≤ 3) : mv_ad base oa a = oa a := by
  unfold mv_ad
  rw [if_pos (by omega)]
set_option maxHeartbeats 4000000 in
theorem mv_natH (l : Launch) (base : Nat) (oa : Nat → Nat) : mv_NatH l base oa := by
  intro p e R s m args below meth c H locs cells slots Q cc pc i ci j ls st st1 hx hb hml hown hts hStr hbs hS hdg hlk hfr hlo hc hs h8 hn k
  have hU : ∀ U : State, U.heap = H → s.WarmedH U.vm → mv_Str base oa U ∧ base ≤ U.heap.size := by
    intro U hU hW
    obtain ⟨⟨adV, h8⟩, h9, h10, h11⟩ := hStr
    have hk : ∀ q : Nat, q < s.heap.size → ¬ base ≤ q → U.heap[q]? = s.heap[q]? := by rw [hU]; exact hS.2.1
    exact ⟨⟨⟨adV, (h8.moved hW.alike).kept hk⟩, fun q hq => (h9 q hq).warm hW, (h10.moved hW.alike).kept hk, (h11.moved hW.alike).kept hk⟩, by rw [hU]; exact Nat.le_trans hbs hS.1⟩
  have hrec : ∀ q : Nat, q < 3 → ∃ cell : Cell, H[oa (q + 1)]? = some cell ∧ cell.vm.isStatics = false ∧ s.vm.findClass "java/lang/String" = some cell.cls := by
    intro q hq
    obtain ⟨⟨adV, h8⟩, -⟩ := hStr
    exact vk_recv (adK := fun i => oa (i + 1)) (i := q) h8 hq hS
  unfold mv_nat at hn
  split at hn
  · rename_i hj
    subst hj
    split at hn
    · rename_i a st2
      split at hn
      · rename_i ha
        cases hn
        obtain ⟨q, rfl⟩ := Nat.exists_eq_add_of_le' ha.1
        have hq : q < 3 := Nat.lt_of_succ_le ha.2
        refine W.eq (g2 := F0 m pc ls (.ref (oa (q + 1)) :: st2.map (mv_tr (mv_ad base oa)))) (by show F0 m pc ls (.ref (mv_ad base oa (q + 1)) :: _) = _; rw [ns_ad ha.2]) ?_
        refine W.callX (W.runV (C := ny_len.cls) (b := oa (q + 1)) (As := []) (rest := st2.map (mv_tr (mv_ad base oa))) ⟨hx, hb, hml, hown, hts⟩ (ns_len l hq) ⟨callB_of 0 hts (mv_tbl_code nw_code_len) rfl rfl rfl (hts _ nw_ini_RJ0) (hts _ hlk) ⟨by decide +kernel, by decide +kernel, by decide +kernel⟩ ⟨by simp only [ns_rm]; omega, by simp only [ns_rm]; omega⟩, hts _ nw_kind_len, hts _ nw_sel_len⟩ ⟨ns_blind, hrec q hq, fun U h1 h2 => ⟨rfl, hU U h1 h2⟩⟩ rfl rfl rfl rfl (lv_room (by rw [mv_sum_tr]; rw [List.map_cons, List.sum_cons] at h8; omega)) hdg ⟨hc, hs⟩) (fun _ h => h.elim) (fun v st₀ t e0 hq2 => ?_)
        obtain ⟨hv, hh⟩ := hq2
        cases hv
        rw [hh, e0]
        have hk2 := k
        rw [ns_tx, ← ns_tlen hq] at hk2
        exact hk2
      · cases hn
    · cases hn
  · split at hn
    · rename_i hj
      subst hj
      split at hn
      · rename_i iv a st2
        split at hn
        · rename_i ha
          cases hn
          obtain ⟨q, rfl⟩ := Nat.exists_eq_add_of_le' ha.1
          have hq : q < 3 := Nat.lt_of_succ_le ha.2.1
          obtain ⟨-, ha3, hin⟩ := ha
          rw [ns_tx] at hin k
          have g1 : ¬ iv < 0 := fun z => hin (Or.inl z)
          have g3 : iv.toNatClampNeg < (mv_txt.getD q []).length := Nat.not_le.mp fun z => hin (Or.inr z)
          obtain ⟨z, hz, rfl⟩ := nI_of g1
          rw [nI_clamp hz] at g3
          have g2 : nI z < Int32.ofNat ((mv_txt.map List.length).getD q 0) := by rw [ns_tlen hq]; exact nI_lt g3 (by have := ns_tpos hq; omega)
          have hb2 : (mv_txt.getD q []).getD z 0 ∈ ns_D := ns_inD q hq _ (ns_mem g3)
          obtain ⟨d1, d2, -⟩ := ns_D2 _ hb2
          refine W.eq (g2 := F0 m pc ls (.int (nI z) :: .ref (oa (q + 1)) :: st2.map (mv_tr (mv_ad base oa)))) (by show F0 m pc ls (.int (nI z) :: .ref (mv_ad base oa (q + 1)) :: _) = _; rw [ns_ad ha3]) ?_
          refine W.callX (W.runV (C := ny_char.cls) (b := oa (q + 1)) (As := [.int (nI z)]) (rest := st2.map (mv_tr (mv_ad base oa))) ⟨hx, hb, hml, hown, hts⟩ (ns_char l hq g1 g2 (by rw [nI_clamp hz, ns_tlen hq]; exact g3) (by rw [nI_clamp hz, d1]; exact d2)) ⟨callB_of 1 hts (mv_tbl_code nw_code_char) rfl rfl rfl (hts _ nw_ini_RJ0) (hts _ hlk) ⟨by decide +kernel, by decide +kernel, by decide +kernel⟩ ⟨by simp only [ns_rm]; omega, by simp only [ns_rm]; omega⟩, hts _ nw_kind_char, hts _ nw_sel_char⟩ ⟨ns_blind, hrec q hq, fun U h1 h2 => ⟨rfl, hU U h1 h2⟩⟩ rfl rfl rfl rfl (lv_room (by rw [mv_sum_tr]; rw [List.map_cons, List.sum_cons, List.map_cons, List.sum_cons] at h8; omega)) hdg ⟨hc, hs⟩) (fun _ h => h.elim) (fun v st₀ t e0 hq2 => ?_)
          obtain ⟨hv, hh⟩ := hq2
          cases hv
          rw [hh, e0, nI_clamp hz, d1]
          have hk2 := k
          rw [nI_clamp hz] at hk2
          exact hk2
        · cases hn
      · cases hn
    · split at hn
      · rename_i hj
        subst hj
        split at hn
        · rename_i ch a st2
          split at hn
          · rename_i ha
            cases hn
            obtain ⟨q, rfl⟩ := Nat.exists_eq_add_of_le' ha.1
            have hq : q < 3 := Nat.lt_of_succ_le ha.2
            rw [ns_tx] at k
            refine W.eq (g2 := F0 m pc ls (.int ch :: .ref (oa (q + 1)) :: st2.map (mv_tr (mv_ad base oa)))) (by show F0 m pc ls (.int ch :: .ref (mv_ad base oa (q + 1)) :: _) = _; rw [ns_ad ha.2]) ?_
            refine W.callX (W.runV (C := ny_ioI.cls) (b := oa (q + 1)) (As := [.int ch]) (rest := st2.map (mv_tr (mv_ad base oa))) ⟨hx, hb, hml, hown, hts⟩ (ns_ioI l hq) ⟨callB_of 1 hts (mv_tbl_code nw_code_ioI) rfl rfl rfl (hts _ nw_ini_RJ0) (hts _ hlk) ⟨by decide +kernel, by decide +kernel, by decide +kernel⟩ ⟨by simp only [ns_rm]; omega, by simp only [ns_rm]; omega⟩, hts _ nw_kind_ioI, hts _ nw_sel_ioI⟩ ⟨ns_blind, hrec q hq, fun U h1 h2 => ⟨rfl, hU U h1 h2⟩⟩ rfl rfl rfl rfl (lv_room (by rw [mv_sum_tr]; rw [List.map_cons, List.sum_cons, List.map_cons, List.sum_cons] at h8; omega)) hdg ⟨hc, hs⟩) (fun _ h => h.elim) (fun v st₀ t e0 hq2 => ?_)
            obtain ⟨hv, hh⟩ := hq2
            cases hv
            rw [hh, e0, ns_ix hq]
            exact k
          · cases hn
        · cases hn
      · cases hn

