/-! what holds of a convention while it is read -/
def CwG (X : Nat → Int32) (L : Nat) (w : Cw) : Prop := (wK w).length ≤ 6 ∧ (wM w).length ≤ 8 ∧ wT w < 32 ∧ (gd (wSg w) = true → (idx (wSg w) < tkN X L ∧ wU w ≤ 100 ∧ ccW w ≤ 2 * wU w + ntk X L (idx (wSg w))) ∧ (∀ i, i < (wK w).length → okL ((wK w).getD i ([], [])).2 0 = some 1 ∧ okN ((wK w).getD i ([], [])).2 ∧ ∀ q ∈ ((wK w).getD i ([], [])).2, (q.1 < 108 ∨ 110 < q.1) ∧ (q.1 = 111 → q.2 < Int32.ofNat i)) ∧ (∀ i, i < (wM w).length → okL ((wM w).getD i (0, [])).2 0 = some 1 ∧ okN ((wM w).getD i (0, [])).2) ∧ ((Nat.testBit (wT w) 4 = true ∧ okL (wD w) 0 = some 1) ∨ (Nat.testBit (wT w) 4 = false ∧ wD w = [])) ∧ okN (wD w) ∧ ∀ k, k < 4 → 0 ≤ wL w k ∧ wL w k ≤ (if k < 2 then 9999 else 99))
section CWG
variable {X : Nat → Int32} {L : Nat} {kl : Bool} {kn ln : List (List Int32)}
theorem exW {σ : Sg} {u : Nat} {r : Px} (hb : TxB X L) (hk : kn.length ≤ 6) (hln : ln.length ≤ 8) (hin : InT X L σ) (hu : u ≤ 100) (hr : r = pE X L kl kn ln 100 0 0 (σ, [], u)) (hg : gd (dm X L 59 r.1) = true) : gd σ = true ∧ idx σ < idx (dm X L 59 r.1) ∧ idx (dm X L 59 r.1) < tkN X L ∧ r.2.2 ≤ 100 ∧ okL r.2.1 0 = some 1 ∧ okN r.2.1 ∧ (∀ q ∈ r.2.1, (kl = true → q.1 < 108 ∨ 110 < q.1) ∧ (q.1 = 111 → q.2 < Int32.ofNat kn.length)) ∧ ∀ c0, c0 ≤ 2 * u + ntk X L (idx σ) → c0 + r.2.1.length ≤ 2 * r.2.2 + ntk X L (idx (dm X L 59 r.1)) := by
  have okR := ok_pE (kl := kl) (kn := kn) (ln := ln) hb hk hln 100 0 0 (σ, [], u) (by omega) (by omega) (by decide) hin
  rw [← hr] at okR
  obtain ⟨d1, d2, d3⟩ := gd_dm hg
  obtain ⟨k1, k2, k3, k4, ⟨m, e1, w1, w2⟩, k6⟩ := okR d1
  have k2 : idx σ < idx r.1 := k2
  have i3 := idx_dm hg
  have e1 : r.2.1 = m := e1
  refine ⟨k1, by omega, inT_dm hb (fun _ => k3) (by decide) hg, k4 hu, by rw [e1]; exact w1 0 (by decide), fun q hq => ?_, fun q hq => ?_, fun c0 hc => ?_⟩
  · rw [e1] at hq; exact (w2 q hq).1
  · rw [e1] at hq; exact (w2 q hq).2
  · have p := k6 0 c0 (by
      unfold Pot
      show c0 + 0 + 0 ≤ 2 * u + ntk X L (idx σ)
      omega)
    unfold Pot at p
    have := ntk_le (X := X) (L := L) (show idx r.1 ≤ idx (dm X L 59 r.1) by omega)
    omega
theorem cwg_bad {w : Cw} {σ : Sg} (h : CwG X L w) (hg : gd σ = false) : CwG X L (σ, w.2) := ⟨h.1, h.2.1, h.2.2.1, (fun z => by have z : gd σ = true := z; rw [hg] at z; cases z)⟩
theorem knW_len {w : Cw} : (knW w).length = (wK w).length := by unfold knW; rw [List.length_map]
theorem or_32 {t k : Nat} (h : t < 32) (hk : k ≤ 4) : t ||| 2 ^ k < 32 := by
  have h2 : 2 ^ k < 2 ^ 5 := Nat.pow_lt_pow_right (by decide) (by omega)
  exact Nat.or_lt_two_pow (n := 5) h h2
theorem cwg_k {w : Cw} (hb : TxB X L) (hln : ln.length ≤ 8) (h : CwG X L w) (hg : gd (wSg w) = true) (h0 : sTy X L (wSg w) ≠ 0) : CwG X L (kLn X L ln w) ∧ (gd (wSg (kLn X L ln w)) = true → idx (wSg w) < idx (wSg (kLn X L ln w))) := by
  unfold kLn
  by_cases h6 : 6 ≤ (wK w).length
  · rw [if_pos h6]
    exact ⟨cwg_bad h gd_rf, fun z => by have z : gd (rf X L 2 (wSg w)) = true := z; rw [gd_rf] at z; cases z⟩
  · rw [if_neg h6]
    obtain ⟨a1, a2, a3, a4⟩ := h
    obtain ⟨⟨b1, b2, b3⟩, b4, b5, b6, b7, b8⟩ := a4 hg
    have hlen : (wK w ++ [(nmV X L (nx (wSg w)), (kEx X L ln w).2.1)]).length = (wK w).length + 1 := by rw [List.length_append]; rfl
    have hin : InT X L (dm X L 122 (nwN X L (knW w) (nx (wSg w)))) := inT_dm hb (inT_nw hb (inT_nx hb (fun _ => b1) h0)) (by decide)
    have key : gd (dm X L 59 (kEx X L ln w).1) = true → _ := fun z => exW (kl := true) (kn := knW w) (ln := ln) (r := kEx X L ln w) hb (by rw [knW_len]; omega) hln hin b2 rfl z
    have hidx : gd (dm X L 122 (nwN X L (knW w) (nx (wSg w)))) = true → idx (wSg w) ≤ idx (dm X L 122 (nwN X L (knW w) (nx (wSg w)))) := fun z => by
      have c1 := idx_dm z
      obtain ⟨_, _, _, c2⟩ := gd_nw (gd_dm z).1
      have c3 : idx (nwN X L (knW w) (nx (wSg w))) = idx (wSg w) + 1 + 1 := by rw [c2, idx_nx (by rw [gd_nx]; exact hg), idx_nx hg]
      omega
    refine ⟨⟨by show (wK w ++ [(nmV X L (nx (wSg w)), (kEx X L ln w).2.1)]).length ≤ 6; omega, a2, a3, fun z => ?_⟩, fun z => ?_⟩
    · have z : gd (dm X L 59 (kEx X L ln w).1) = true := z
      obtain ⟨k1, k2, k3, k4, k5, k6, k7, k8⟩ := key z
      have hi := hidx k1
      refine ⟨⟨k3, k4, ?_⟩, fun i hi' => ?_, b5, b6, b7, b8⟩
      · show ccK (wK w ++ [(nmV X L (nx (wSg w)), (kEx X L ln w).2.1)]) + ccM (wM w) + (wD w).length ≤ 2 * (kEx X L ln w).2.2 + ntk X L (idx (dm X L 59 (kEx X L ln w).1))
        rw [ccK_app]
        have := k8 (ccW w) (by
          have := ntk_le (X := X) (L := L) hi
          omega)
        unfold ccW at this
        show ccK (wK w) + (kEx X L ln w).2.1.length + ccM (wM w) + (wD w).length ≤ _
        omega
      · have hi' : i < (wK w ++ [(nmV X L (nx (wSg w)), (kEx X L ln w).2.1)]).length := hi'
        rw [hlen] at hi'
        show okL ((wK w ++ [(nmV X L (nx (wSg w)), (kEx X L ln w).2.1)]).getD i ([], [])).2 0 = some 1 ∧ okN ((wK w ++ [(nmV X L (nx (wSg w)), (kEx X L ln w).2.1)]).getD i ([], [])).2 ∧ ∀ q ∈ ((wK w ++ [(nmV X L (nx (wSg w)), (kEx X L ln w).2.1)]).getD i ([], [])).2, _
        rw [getD_snoc]
        by_cases e : i < (wK w).length
        · rw [if_pos e]; exact b4 i e
        · rw [if_neg e, if_pos (show i = (wK w).length by omega)]
          refine ⟨k5, k6, fun q hq => ⟨(k7 q hq).1 rfl, fun hq1 => ?_⟩⟩
          have := (k7 q hq).2 hq1
          rw [knW_len] at this
          rw [show i = (wK w).length by omega]
          exact this
    · have z : gd (dm X L 59 (kEx X L ln w).1) = true := z
      obtain ⟨k1, k2, _⟩ := key z
      have := hidx k1
      show idx (wSg w) < idx (dm X L 59 (kEx X L ln w).1)
      omega
theorem cwg_m {w : Cw} (hb : TxB X L) (hln : ln.length ≤ 8) (h : CwG X L w) (hg : gd (wSg w) = true) (h0 : sTy X L (wSg w) ≠ 0) : CwG X L (mLn X L ln w) ∧ (gd (wSg (mLn X L ln w)) = true → idx (wSg w) < idx (wSg (mLn X L ln w))) := by
  unfold mLn
  by_cases h8 : 8 ≤ (wM w).length
  · rw [if_pos h8]
    exact ⟨cwg_bad h gd_rf, fun z => by have z : gd (rf X L 2 (wSg w)) = true := z; rw [gd_rf] at z; cases z⟩
  · rw [if_neg h8]
    obtain ⟨a1, a2, a3, a4⟩ := h
    obtain ⟨⟨b1, b2, b3⟩, b4, b5, b6, b7, b8⟩ := a4 hg
    have hlen : (wM w ++ [(mV X L (nx (wSg w)), (mEx X L ln w).2.1)]).length = (wM w).length + 1 := by rw [List.length_append]; rfl
    have hin : InT X L (dm X L 124 (mC X L (nx (wSg w)))) := inT_dm hb (inT_mC hb (inT_nx hb (fun _ => b1) h0)) (by decide)
    have key : gd (dm X L 59 (mEx X L ln w).1) = true → _ := fun z => exW (kl := false) (kn := knW w) (ln := ln) (r := mEx X L ln w) hb (by rw [knW_len]; omega) hln hin b2 rfl z
    have hidx : gd (dm X L 124 (mC X L (nx (wSg w)))) = true → idx (wSg w) ≤ idx (dm X L 124 (mC X L (nx (wSg w)))) := fun z => by
      have c1 := idx_dm z
      obtain ⟨_, c2, _⟩ := gd_mC (gd_dm z).1
      have c3 : idx (mC X L (nx (wSg w))) = idx (wSg w) + 1 + 1 := by rw [c2, idx_nx (by rw [gd_nx]; exact hg), idx_nx hg]
      omega
    refine ⟨⟨a1, by show (wM w ++ [(mV X L (nx (wSg w)), (mEx X L ln w).2.1)]).length ≤ 8; omega, a3, fun z => ?_⟩, fun z => ?_⟩
    · have z : gd (dm X L 59 (mEx X L ln w).1) = true := z
      obtain ⟨k1, k2, k3, k4, k5, k6, k7, k8⟩ := key z
      have hi := hidx k1
      refine ⟨⟨k3, k4, ?_⟩, b4, fun i hi' => ?_, b6, b7, b8⟩
      · show ccK (wK w) + ccM (wM w ++ [(mV X L (nx (wSg w)), (mEx X L ln w).2.1)]) + (wD w).length ≤ 2 * (mEx X L ln w).2.2 + ntk X L (idx (dm X L 59 (mEx X L ln w).1))
        rw [ccM_app]
        have := k8 (ccW w) (by
          have := ntk_le (X := X) (L := L) hi
          omega)
        unfold ccW at this
        show ccK (wK w) + (ccM (wM w) + (mEx X L ln w).2.1.length) + (wD w).length ≤ _
        omega
      · have hi' : i < (wM w ++ [(mV X L (nx (wSg w)), (mEx X L ln w).2.1)]).length := hi'
        rw [hlen] at hi'
        show okL ((wM w ++ [(mV X L (nx (wSg w)), (mEx X L ln w).2.1)]).getD i (0, [])).2 0 = some 1 ∧ okN ((wM w ++ [(mV X L (nx (wSg w)), (mEx X L ln w).2.1)]).getD i (0, [])).2
        rw [getD_snoc]
        by_cases e : i < (wM w).length
        · rw [if_pos e]; exact b5 i e
        · rw [if_neg e, if_pos (show i = (wM w).length by omega)]
          exact ⟨k5, k6⟩
    · have z : gd (dm X L 59 (mEx X L ln w).1) = true := z
      obtain ⟨k1, k2, _⟩ := key z
      have := hidx k1
      show idx (wSg w) < idx (dm X L 59 (mEx X L ln w).1)
      omega
theorem cwg_l {w : Cw} {k : Nat} (hb : TxB X L) (h : CwG X L w) (hg : gd (wSg w) = true) (h0 : sTy X L (wSg w) ≠ 0) (hk : k < 4) : CwG X L (lLn X L k w) ∧ (gd (wSg (lLn X L k w)) = true → idx (wSg w) < idx (wSg (lLn X L k w))) := by
  unfold lLn
  by_cases ht : Nat.testBit (wT w) k = true
  · rw [if_pos ht]
    exact ⟨cwg_bad h gd_rf, fun z => by have z : gd (rf X L 2 (wSg w)) = true := z; rw [gd_rf] at z; cases z⟩
  · rw [if_neg ht]
    obtain ⟨a1, a2, a3, a4⟩ := h
    obtain ⟨⟨b1, b2, b3⟩, b4, b5, b6, b7, b8⟩ := a4 hg
    have key : gd (dm X L 59 (nb X L 0 (if k < 2 then 9999 else 99) (nx (wSg w)))) = true → idx (dm X L 59 (nb X L 0 (if k < 2 then 9999 else 99) (nx (wSg w)))) = idx (wSg w) + 3 ∧ (0 ≤ nuV X L (nx (wSg w)) ∧ nuV X L (nx (wSg w)) ≤ (if k < 2 then 9999 else 99)) := fun z => by
      have g1 := (gd_dm z).1
      have x1 := idx_dm z
      have x2 := idx_nb g1
      have x3 := idx_nx hg
      exact ⟨by omega, (gd_nb g1).2.2.1⟩
    have hin : InT X L (dm X L 59 (nb X L 0 (if k < 2 then 9999 else 99) (nx (wSg w)))) := by
      refine inT_dm hb ?_ (by decide)
      intro z
      obtain ⟨q1, q2, _, q3⟩ := gd_nb z
      rw [q3] at z ⊢
      exact inT_nx hb (inT_nx hb (fun _ => b1) h0) (by have := of_decide_eq_true q2; omega) z
    refine ⟨⟨a1, a2, or_32 a3 (by omega), fun z => ?_⟩, fun z => ?_⟩
    · have z : gd (dm X L 59 (nb X L 0 (if k < 2 then 9999 else 99) (nx (wSg w)))) = true := z
      obtain ⟨x1, x2⟩ := key z
      refine ⟨⟨hin z, b2, ?_⟩, b4, b5, ?_, b7, fun i hi => ?_⟩
      · show ccW w ≤ 2 * wU w + ntk X L (idx (dm X L 59 (nb X L 0 (if k < 2 then 9999 else 99) (nx (wSg w)))))
        have := ntk_le (X := X) (L := L) (show idx (wSg w) ≤ idx (dm X L 59 (nb X L 0 (if k < 2 then 9999 else 99) (nx (wSg w)))) by omega)
        omega
      · show (Nat.testBit (wT w ||| 2 ^ k) 4 = true ∧ _) ∨ (Nat.testBit (wT w ||| 2 ^ k) 4 = false ∧ _)
        have e : Nat.testBit (wT w ||| 2 ^ k) 4 = Nat.testBit (wT w) 4 := by
          have hh := tb_or (t := wT w) (p := k) (a := 4)
          cases q : Nat.testBit (wT w) 4 with
          | false => exact hh.2 ⟨q, by omega⟩
          | true =>
            cases q2 : Nat.testBit (wT w ||| 2 ^ k) 4 with
            | true => rfl
            | false => have := (hh.1 q2).1; rw [q] at this; cases this
        rw [e]
        exact b6
      · show 0 ≤ (if i = k then nuV X L (nx (wSg w)) else wL w i) ∧ (if i = k then nuV X L (nx (wSg w)) else wL w i) ≤ _
        by_cases e : i = k
        · rw [if_pos e, e]; exact x2
        · rw [if_neg e]; exact b8 i hi
    · have z : gd (dm X L 59 (nb X L 0 (if k < 2 then 9999 else 99) (nx (wSg w)))) = true := z
      obtain ⟨x1, _⟩ := key z
      show idx (wSg w) < idx (dm X L 59 (nb X L 0 (if k < 2 then 9999 else 99) (nx (wSg w))))
      omega
theorem cwg_d {w : Cw} (hb : TxB X L) (hln : ln.length ≤ 8) (h : CwG X L w) (hg : gd (wSg w) = true) (h0 : sTy X L (wSg w) ≠ 0) : CwG X L (dLn X L ln w) ∧ (gd (wSg (dLn X L ln w)) = true → idx (wSg w) < idx (wSg (dLn X L ln w))) := by
  unfold dLn
  by_cases ht : Nat.testBit (wT w) 4 = true
  · rw [if_pos ht]
    exact ⟨cwg_bad h gd_rf, fun z => by have z : gd (rf X L 2 (wSg w)) = true := z; rw [gd_rf] at z; cases z⟩
  · rw [if_neg ht]
    obtain ⟨a1, a2, a3, a4⟩ := h
    obtain ⟨⟨b1, b2, b3⟩, b4, b5, b6, b7, b8⟩ := a4 hg
    have hin : InT X L (nx (wSg w)) := inT_nx hb (fun _ => b1) h0
    have key : gd (dm X L 59 (dE X L ln w).1) = true → _ := fun z => exW (kl := false) (kn := knW w) (ln := ln) (r := dE X L ln w) hb (by rw [knW_len]; omega) hln hin b2 rfl z
    have hD : wD w = [] := by
      rcases b6 with q | q
      · exact absurd q.1 ht
      · exact q.2
    have hix := idx_nx hg
    refine ⟨⟨a1, a2, or_32 a3 (by omega), fun z => ?_⟩, fun z => ?_⟩
    · have z : gd (dm X L 59 (dE X L ln w).1) = true := z
      obtain ⟨k1, k2, k3, k4, k5, k6, k7, k8⟩ := key z
      refine ⟨⟨k3, k4, ?_⟩, b4, b5, Or.inl ⟨?_, k5⟩, k6, b8⟩
      · show ccK (wK w) + ccM (wM w) + (dE X L ln w).2.1.length ≤ 2 * (dE X L ln w).2.2 + ntk X L (idx (dm X L 59 (dE X L ln w).1))
        have := k8 (ccW w) (by
          have := ntk_le (X := X) (L := L) (show idx (wSg w) ≤ idx (nx (wSg w)) by omega)
          omega)
        unfold ccW at this
        rw [hD] at this
        have this : ccK (wK w) + ccM (wM w) + 0 + (dE X L ln w).2.1.length ≤ _ := this
        omega
      · show Nat.testBit (wT w ||| 2 ^ 4) 4 = true
        cases q : Nat.testBit (wT w ||| 2 ^ 4) 4 with
        | true => rfl
        | false => exact absurd rfl ((tb_or (t := wT w) (p := 4) (a := 4)).1 q).2
    · have z : gd (dm X L 59 (dE X L ln w).1) = true := z
      obtain ⟨k1, k2, _⟩ := key z
      show idx (wSg w) < idx (dm X L 59 (dE X L ln w).1)
      omega
theorem cwg_1 {w : Cw} (hb : TxB X L) (hln : ln.length ≤ 8) (h : CwG X L w) (hg : gd (wSg w) = true) (h0 : sTy X L (wSg w) ≠ 0) : CwG X L (ln1 X L ln w) ∧ (gd (wSg (ln1 X L ln w)) = true → idx (wSg w) < idx (wSg (ln1 X L ln w))) := by
  unfold ln1
  split
  · exact cwg_k hb hln h hg h0
  · split
    · exact cwg_m hb hln h hg h0
    · split
      · rename_i hk; exact cwg_l hb h hg h0 hk
      · split
        · exact cwg_d hb hln h hg h0
        · exact ⟨cwg_bad h gd_rf, fun z => by have z : gd (rf X L 2 (wSg w)) = true := z; rw [gd_rf] at z; cases z⟩
theorem cwg_up {w : Cw} (h : CwG X L w) : CwG X L (upN w) := h
theorem cwg_0 (hb : TxB X L) : CwG X L w0 := by
  refine ⟨Nat.zero_le _, Nat.zero_le _, by decide, fun _ => ⟨⟨(tkJ_0 hb).2, Nat.zero_le _, Nat.zero_le _⟩, fun i hi => absurd hi (Nat.not_lt_zero i), fun i hi => absurd hi (Nat.not_lt_zero i), Or.inr ⟨by decide, rfl⟩, (fun q hq => by cases hq), fun k hk => ?_⟩⟩
  rcases (show k = 0 ∨ k = 1 ∨ k = 2 ∨ k = 3 by omega) with rfl | rfl | rfl | rfl <;> decide
theorem cwg_R (hb : TxB X L) (hln : ln.length ≤ 8) : ∀ f w, CwG X L w → CwG X L (cvR X L ln f w) := by
  intro f
  induction f with
  | zero => intro w h; exact h
  | succ f ih =>
    intro w h
    unfold cvR
    split
    · exact h
    · rename_i h0
      refine ih _ (cwg_up (cwg_1 hb hln h ?_ h0).1)
      cases hq : wSg w with
      | inr j => rfl
      | inl e => rw [hq] at h0; exact absurd rfl h0
end CWG
