/-! a text read: within bounds -/
def okC (c : Cl) : Prop := 1 ≤ c.1 ∧ c.1 ≤ 99 ∧ 0 ≤ c.2.1 ∧ c.2.1 ≤ 9 ∧ -9 ≤ c.2.2.1 ∧ c.2.2.1 ≤ 9 ∧ (c.2.2.2 = 0 ∨ c.2.2.2 = 1)
def okD (l : Ld) : Prop := (l.2 = 0 ∨ l.2 = 1) ∧ 1 ≤ l.1.length ∧ l.1.length ≤ 8 ∧ ∀ c ∈ l.1, 97 ≤ c ∧ c ≤ 122
def StOk (q : St) : Prop := (∀ i, i < q.2.1.length → okC (q.2.1.getD i zC)) ∧ (∀ i, i < q.2.2.1.length → okD (q.2.2.1.getD i zL))
section WST
variable {X : Nat → Int32} {L : Nat}
theorem nm_ok {σ : Sg} (hb : TxB X L) (h : isT X L 2 σ = true) : ltw (nmV X L σ) ∧ 1 ≤ (nmV X L σ).length := by
  have h := of_decide_eq_true h
  cases σ with
  | inl e => exact absurd h (show ¬ (0 : Nat) = 2 by decide)
  | inr j =>
    have h : tTy (tkJ X L j) = 2 := h
    show ltw (tNm (tkJ X L j)) ∧ 1 ≤ (tNm (tkJ X L j)).length
    by_cases hj : j < tkN X L
    · have k := tkJ_ok hb hj
      unfold TkOK at k
      rw [h] at k
      rcases k with k | ⟨_, _, _, k | k | k | k⟩
      · exact absurd k.1 (by decide)
      · exact absurd k (by decide)
      · exact ⟨k.2.1, k.2.2.1⟩
      · exact absurd k.1 (by decide)
      · exact absurd k.1 (by decide)
    · have e : tkJ X L j = tEnd 0 := by
        unfold tkJ
        rw [List.getD_eq_getElem?_getD, List.getElem?_eq_none (by unfold tkN at hj; omega)]
        rfl
      rw [e] at h
      exact absurd h (by decide)
theorem cell_ok {σ : Sg} (h : gd (c9 X L σ) = true) : okC (cellV X L σ) := by
  obtain ⟨_, _, _, _, h1, h2, h3, _⟩ := gd_c9 h
  refine ⟨h1.1, h1.2, h2.1, h2.2, ?_, ?_, ?_⟩
  · show -9 ≤ (if isT X L 120 (c5 X L σ) = true then -(nuV X L (c6 X L σ)) else nuV X L (c6 X L σ))
    generalize nuV X L (c6 X L σ) = t at *
    split <;> grind
  · show (if isT X L 120 (c5 X L σ) = true then -(nuV X L (c6 X L σ)) else nuV X L (c6 X L σ)) ≤ 9
    generalize nuV X L (c6 X L σ) = t at *
    split <;> grind
  · show (if isT X L 121 (c7 X L σ) = true then (1 : Int32) else 0) = 0 ∨ (if isT X L 121 (c7 X L σ) = true then (1 : Int32) else 0) = 1
    split
    · exact Or.inr rfl
    · exact Or.inl rfl
theorem land_ok {σ : Sg} {nl : List (List Int32)} (hb : TxB X L) (h : gd (l4 X L nl σ) = true) : okD (landV X L nl σ) := by
  have h1 := gd_dm h
  have h2 : gd (l2 X L nl σ) = true := by rw [← gd_ac (X := X) (L := L) (ty := 107)]; exact h1.1
  have h3 := gd_nw (show gd (nwN X L nl (nx σ)) = true from h2)
  obtain ⟨k1, k2⟩ := nm_ok hb h3.2.1
  refine ⟨?_, k2, k1.1, k1.2⟩
  show (if isT X L 107 (l2 X L nl σ) = true then (1 : Int32) else 0) = 0 ∨ (if isT X L 107 (l2 X L nl σ) = true then (1 : Int32) else 0) = 1
  split
  · exact Or.inr rfl
  · exact Or.inl rfl
theorem stp_ok {q : St} (hb : TxB X L) (hg : gd (stp1 X L q).1 = true) (h : StOk q) : StOk (stp1 X L q) := by
  unfold stp1 at hg ⊢
  by_cases c1 : sTy X L q.1 = 116 ∧ q.2.1.length < 20
  · rw [if_pos c1] at hg ⊢
    refine ⟨fun i hi => ?_, h.2⟩
    have hi : i < (q.2.1 ++ [cellV X L q.1]).length := hi
    show okC ((q.2.1 ++ [cellV X L q.1]).getD i zC)
    rw [List.length_append] at hi
    have hi : i < q.2.1.length + 1 := hi
    rw [getD_snoc]
    by_cases z : i < q.2.1.length
    · rw [if_pos z]; exact h.1 i z
    · rw [if_neg z, if_pos (by omega)]; exact cell_ok hg
  · rw [if_neg c1] at hg ⊢
    by_cases c2 : sTy X L q.1 = 112 ∧ q.2.2.1.length < 8
    · rw [if_pos c2] at hg ⊢
      refine ⟨h.1, fun i hi => ?_⟩
      have hi : i < (q.2.2.1 ++ [landV X L (q.2.2.1.map (·.1)) q.1]).length := hi
      show okD ((q.2.2.1 ++ [landV X L (q.2.2.1.map (·.1)) q.1]).getD i zL)
      rw [List.length_append] at hi
      have hi : i < q.2.2.1.length + 1 := hi
      rw [getD_snoc]
      by_cases z : i < q.2.2.1.length
      · rw [if_pos z]; exact h.2 i z
      · rw [if_neg z, if_pos (by omega)]; exact land_ok hb hg
    · rw [if_neg c2] at hg ⊢
      exact h
theorem stR_ok (hb : TxB X L) : ∀ f (q : St), (gd q.1 = true → StOk q) → gd (stR1 X L f q).1 = true → StOk (stR1 X L f q) := by
  intro f
  induction f with
  | zero => intro q h hg; exact h hg
  | succ f ih =>
    intro q h hg
    unfold stR1 at hg ⊢
    by_cases c : sTy X L q.1 = 0
    · rw [if_pos c] at hg ⊢; exact h hg
    · rw [if_neg c] at hg ⊢
      refine ih _ (fun z => stp_ok hb z (h ?_)) hg
      cases hq : q.1 with
      | inr j => rfl
      | inl e => rw [hq] at c; exact absurd rfl c
end WST
section WTX
variable {A : Ab}
theorem wf_txb (h : WF0 A) : TxB (aX A 0) (aN A 0) := ⟨h.1.1, h.2.2.1⟩
theorem wf_bad {e : Nat × Nat} (h : WFa A) : WFa (nBad A e) := by
  obtain ⟨h0, hg, hv⟩ := h
  have c := h0.1
  exact ⟨⟨⟨Nat.zero_le _, by rw [nB_N (k := 1) (by decide)]; exact c.2.1, by rw [nB_N (k := 2) (by decide)]; exact c.2.2.1, by rw [nB_N (k := 3) (by decide)]; exact c.2.2.2.1, by rw [nB_N (k := 4) (by decide)]; exact c.2.2.2.2.1, by rw [nB_N (k := 5) (by decide)]; exact c.2.2.2.2.2⟩, wNum_c h0 (fun i hi => nB_40 (by omega) (by omega)), fun i hi => absurd hi (Nat.not_lt_zero i), wCell_c h0 (nB_N (by decide)) (fun r _ _ => nB_X (by omega)), wLand_c h0 (nB_N (by decide)) (nB_X (by decide)) rfl, wShip_c h0 (nB_N (by decide)) (nB_N (by decide)) (fun r _ _ => nB_X (by omega)), wFact_c h0 (nB_N (by decide)) (nB_N (by decide)) (fun r _ _ => nB_X (by omega)), wSig_c h0 (nB_N (by decide)) (fun r _ _ => nB_X (by omega))⟩, wg_c hg (nB_N (by decide)) (nB_X (by decide)), wv_c hv (fun k _ _ => nB_N (by omega)) (fun r _ _ => nB_X (by omega)) rfl⟩
theorem wf_good {cs : List Cl} {ls : List Ld} {n : Nat} (h : WFa A) (hl : cs.length ≤ 20 ∧ ls.length ≤ 8) (hc : ∀ i, i < cs.length → okC (cs.getD i zC)) (hd : ∀ i, i < ls.length → okD (ls.getD i zL)) : WFa (nGood A cs ls n) := by
  obtain ⟨h0, hg, hv⟩ := h
  have x40 : ∀ i, i < 3 → aX (nGood A cs ls n) 40 i = aX A 40 i := fun i hi => by
    rcases (show i = 0 ∨ i = 1 ∨ i = 2 by omega) with rfl | rfl | rfl <;> rfl
  refine ⟨⟨⟨Nat.zero_le _, hl.1, hl.2, Nat.zero_le _, Nat.zero_le _, Nat.zero_le _⟩, wNum_c h0 x40, fun i hi => absurd hi (Nat.not_lt_zero i), fun i hi => hc i hi, fun i hi => hd i hi, fun i hi => absurd hi (Nat.not_lt_zero i), fun i hi => absurd hi (Nat.not_lt_zero i), fun i hi => absurd hi (Nat.not_lt_zero i)⟩, fun d => Nat.zero_le _, fun s hs => ?_⟩
  have x50 : ∀ i, aX (nGood A cs ls n) (50 + s) i = if i = 1 ∨ i = 2 then 9999 else if i = 3 then 99 else 0 := fun i => by
    show (if 50 + s = 1 then _ else if 50 + s = 2 then _ else if 50 + s = 3 then _ else if 50 + s = 4 then _ else if 50 + s = 5 then _ else if 50 + s = 40 ∧ i = 3 then _ else if 50 + s = 40 ∧ i = 4 then _ else if 50 + s = 40 ∧ i = 5 then _ else if 50 ≤ 50 + s ∧ 50 + s < 54 then _ else _) = _
    rw [if_neg (by omega), if_neg (by omega), if_neg (by omega), if_neg (by omega), if_neg (by omega), if_neg (by omega), if_neg (by omega), if_neg (by omega), if_pos (by omega)]
  have n10 : aN (nGood A cs ls n) (10 + s) = 0 := by
    show (if _ then _ else _) = _
    rw [if_pos (by omega)]
  have n20 : aN (nGood A cs ls n) (20 + s) = 0 := by
    show (if _ then _ else _) = _
    rw [if_pos (by omega)]
  have e14 : aE (nGood A cs ls n) s 14 = [] := by
    show (if s < 4 ∧ 14 = 14 then _ else _) = _
    rw [if_pos ⟨hs, rfl⟩]
  rw [x50, x50, x50, x50, n10, n20, e14]
  refine ⟨by omega, by omega, fun i hi => absurd hi (Nat.not_lt_zero i), fun i hi => absurd hi (Nat.not_lt_zero i), Or.inr rfl, (fun q hq => by cases hq), ?_⟩
  decide
theorem wf_strait (h : WFa A) : WFa (nxtStrait A) := by
  unfold nxtStrait
  have hl : (stQ A).2.1.length ≤ 20 ∧ (stQ A).2.2.1.length ≤ 8 := stR1_len _ _ ⟨Nat.zero_le _, Nat.zero_le _⟩
  have ho : gd (stQ A).1 = true → StOk (stQ A) := stR_ok (wf_txb h.1) _ _ (fun _ => ⟨fun i hi => absurd hi (Nat.not_lt_zero i), fun i hi => absurd hi (Nat.not_lt_zero i)⟩)
  cases hq : (stQ A).1 with
  | inl e => exact wf_bad h
  | inr j =>
    have k := ho (by rw [hq]; rfl)
    exact wf_good h hl k.1 k.2
theorem wf_conv {x : Int32} (h : WFa A) : WFa (nxtConv A x) := by
  unfold nxtConv
  by_cases hx : 0 ≤ x ∧ x < 4
  · rw [if_pos hx]
    obtain ⟨s, hs, rfl⟩ := i32_nat (x := x) (n := 4) hx.1 (by omega) hx.2
    rw [ofN_cl (i := s) (by omega)]
    obtain ⟨h0, hg, hv⟩ := h
    have c := h0.1
    have hw : CwG (aX A 0) (aN A 0) (cvQ A) := cwg_R (wf_txb h0) (by rw [List.length_map, List.length_range']; exact c.2.2.1) _ _ (cwg_0 (wf_txb h0))
    cases hq : wSg (cvQ A) with
    | inl e => exact wf_bad ⟨h0, hg, hv⟩
    | inr j =>
      show WFa (nCv A s (cvQ A))
      obtain ⟨w1, w2, w3, w4⟩ := hw
      obtain ⟨_, w5, w6, w7, w8, w9⟩ := w4 (by rw [hq]; rfl)
      refine ⟨⟨⟨Nat.zero_le _, by rw [nC_N (k := 1) (by omega) (by omega) (by omega)]; exact c.2.1, by rw [nC_N (k := 2) (by omega) (by omega) (by omega)]; exact c.2.2.1, by rw [nC_N (k := 3) (by omega) (by omega) (by omega)]; exact c.2.2.2.1, by rw [nC_N (k := 4) (by omega) (by omega) (by omega)]; exact c.2.2.2.2.1, by rw [nC_N (k := 5) (by omega) (by omega) (by omega)]; exact c.2.2.2.2.2⟩, wNum_c h0 (fun i hi => nC_40 (by omega) (by omega) hs), fun i hi => absurd hi (Nat.not_lt_zero i), wCell_c h0 (nC_N (by omega) (by omega) (by omega)) (fun r _ _ => nC_X (by omega) (by omega) (by omega)), wLand_c h0 (nC_N (by omega) (by omega) (by omega)) (nC_X (by omega) (by omega) (by omega)) rfl, wShip_c h0 (nC_N (by omega) (by omega) (by omega)) (nC_N (by omega) (by omega) (by omega)) (fun r _ _ => nC_X (by omega) (by omega) (by omega)), wFact_c h0 (nC_N (by omega) (by omega) (by omega)) (nC_N (by omega) (by omega) (by omega)) (fun r _ _ => nC_X (by omega) (by omega) (by omega)), wSig_c h0 (nC_N (by omega) (by omega) (by omega)) (fun r _ _ => nC_X (by omega) (by omega) (by omega))⟩, wg_c hg (nC_N (by omega) (by omega) (by omega)) (nC_X (by omega) (by omega) (by omega)), fun t ht => ?_⟩
      by_cases e : t = s
      · subst e
        have hk : ∀ i, i < (wK (cvQ A)).length → aE (nCv A t (cvQ A)) t i = ((wK (cvQ A)).getD i ([], [])).2 := fun i hi => nC_Ek (by omega)
        have hm : ∀ i, i < (wM (cvQ A)).length → aE (nCv A t (cvQ A)) t (6 + i) = ((wM (cvQ A)).getD i (0, [])).2 := fun i hi => nC_Em (by omega)
        rw [nC_10 hs, nC_20 hs, nC_Ed, nC_50 hs, nC_50 hs, nC_50 hs, nC_50 hs]
        refine ⟨w1, w2, fun i hi => by rw [hk i hi]; exact w5 i hi, fun i hi => by rw [hm i hi]; exact w6 i hi, ?_, w8, w9 0 (by omega), w9 1 (by omega), w9 2 (by omega), w9 3 (by omega)⟩
        rcases w7 with z | z
        · exact Or.inl z.2
        · exact Or.inr z.2
      · rw [nC_N (k := 10 + t) (by omega) (by omega) (by omega), nC_N (k := 20 + t) (by omega) (by omega) (by omega), nC_X (r := 50 + t) (by omega) (by omega) (by omega), nC_E e]
        exact hv t ht
  · rw [if_neg hx]; exact h
end WTX
