/-! what a house holds stays within its bounds -/
def WFa (A : Ab) : Prop := WF0 A ∧ WFg A ∧ WFv A
def wTape (A : Ab) : Prop := ∀ i, i < aN A 0 → 0 ≤ aX A 0 i ∧ aX A 0 i ≤ 255
def wCell (A : Ab) : Prop := ∀ i, i < aN A 1 → 1 ≤ aX A 1 i ∧ aX A 1 i ≤ 99 ∧ 0 ≤ aX A 2 i ∧ aX A 2 i ≤ 9 ∧ -9 ≤ aX A 3 i ∧ aX A 3 i ≤ 9 ∧ (aX A 4 i = 0 ∨ aX A 4 i = 1)
def wLand (A : Ab) : Prop := ∀ i, i < aN A 2 → (aX A 5 i = 0 ∨ aX A 5 i = 1) ∧ 1 ≤ (aM A i).length ∧ (aM A i).length ≤ 8 ∧ ∀ c ∈ aM A i, 97 ≤ c ∧ c ≤ 122
def wShip (A : Ab) : Prop := ∀ i, i < aN A 3 → 0 ≤ aX A 10 i ∧ aX A 10 i < Int32.ofNat (aN A 2) ∧ 0 ≤ aX A 11 i ∧ aX A 11 i ≤ 9999 ∧ 10 ≤ aX A 12 i ∧ aX A 12 i ≤ 400 ∧ 1 ≤ aX A 13 i ∧ aX A 13 i ≤ 30 ∧ 0 ≤ aX A 14 i ∧ aX A 14 i ≤ 20 ∧ 0 ≤ aX A 15 i ∧ aX A 15 i ≤ 5 ∧ 0 ≤ aX A 16 i ∧ aX A 16 i ≤ 9 ∧ (aX A 17 i = 0 ∨ aX A 17 i = 1)
def wFact (A : Ab) : Prop := ∀ i, i < aN A 4 → 0 ≤ aX A 20 i ∧ aX A 20 i < 1000 ∧ (aX A 22 i = 0 ∨ aX A 22 i = 1) ∧ 0 ≤ aX A 24 i ∧ (aX A 25 i = -1 ∨ 0 ≤ aX A 25 i)
    ∧ ((aX A 21 i = -1 ∧ 0 ≤ aX A 23 i ∧ aX A 23 i ≤ 2 ∧ aX A 22 i = 0) ∨ (0 ≤ aX A 21 i ∧ aX A 21 i < Int32.ofNat (aN A 3) ∧ 0 ≤ aX A 23 i ∧ aX A 23 i ≤ 99))
def wSig (A : Ab) : Prop := ∀ i, i < aN A 5 → 0 ≤ aX A 30 i ∧ aX A 30 i < 1000 ∧ -1 ≤ aX A 31 i ∧ aX A 31 i ≤ 5 ∧ (aX A 32 i = 0 ∨ aX A 32 i = 1) ∧ 0 ≤ aX A 33 i ∧ aX A 33 i ≤ 1439 ∧ 0 ≤ aX A 34 i ∧ (aX A 35 i = -1 ∨ 0 ≤ aX A 35 i)
def wNum (A : Ab) : Prop := 0 ≤ aX A 40 0 ∧ aX A 40 0 ≤ 100000 ∧ 1 ≤ aX A 40 1 ∧ aX A 40 1 ≤ 60 ∧ 0 ≤ aX A 40 2 ∧ aX A 40 2 ≤ 200
section WFS
variable {A A1 : Ab}
theorem wTape_c (h : WF0 A) (e0 : aN A1 0 = aN A 0) (e : aX A1 0 = aX A 0) : wTape A1 := by unfold wTape; rw [e0, e]; exact h.2.2.1
theorem wCell_c (h : WF0 A) (e0 : aN A1 1 = aN A 1) (e : ∀ r, 1 ≤ r → r ≤ 4 → aX A1 r = aX A r) : wCell A1 := by unfold wCell; rw [e0, e 1 (by omega) (by omega), e 2 (by omega) (by omega), e 3 (by omega) (by omega), e 4 (by omega) (by omega)]; exact h.2.2.2.1
theorem wLand_c (h : WF0 A) (e0 : aN A1 2 = aN A 2) (e : aX A1 5 = aX A 5) (em : aM A1 = aM A) : wLand A1 := by unfold wLand; rw [e0, e, em]; exact h.2.2.2.2.1
theorem wShip_c (h : WF0 A) (e2 : aN A1 2 = aN A 2) (e3 : aN A1 3 = aN A 3) (e : ∀ r, 10 ≤ r → r ≤ 17 → aX A1 r = aX A r) : wShip A1 := by unfold wShip; rw [e2, e3, e 10 (by omega) (by omega), e 11 (by omega) (by omega), e 12 (by omega) (by omega), e 13 (by omega) (by omega), e 14 (by omega) (by omega), e 15 (by omega) (by omega), e 16 (by omega) (by omega), e 17 (by omega) (by omega)]; exact h.2.2.2.2.2.1
theorem wFact_c (h : WF0 A) (e3 : aN A1 3 = aN A 3) (e4 : aN A1 4 = aN A 4) (e : ∀ r, 20 ≤ r → r ≤ 25 → aX A1 r = aX A r) : wFact A1 := by unfold wFact; rw [e3, e4, e 20 (by omega) (by omega), e 21 (by omega) (by omega), e 22 (by omega) (by omega), e 23 (by omega) (by omega), e 24 (by omega) (by omega), e 25 (by omega) (by omega)]; exact h.2.2.2.2.2.2.1
theorem wSig_c (h : WF0 A) (e5 : aN A1 5 = aN A 5) (e : ∀ r, 30 ≤ r → r ≤ 35 → aX A1 r = aX A r) : wSig A1 := by unfold wSig; rw [e5, e 30 (by omega) (by omega), e 31 (by omega) (by omega), e 32 (by omega) (by omega), e 33 (by omega) (by omega), e 34 (by omega) (by omega), e 35 (by omega) (by omega)]; exact h.2.2.2.2.2.2.2
theorem wNum_c (h : WF0 A) (e : ∀ i, i < 3 → aX A1 40 i = aX A 40 i) : wNum A1 := by unfold wNum; rw [e 0 (by omega), e 1 (by omega), e 2 (by omega)]; exact h.2.1
theorem wg_c (h : WFg A) (e5 : aN A1 5 = aN A 5) (e : aX A1 30 = aX A 30) : WFg A1 := by unfold WFg; rw [e5, e]; exact h
theorem wv_c (h : WFv A) (eN : ∀ k, 10 ≤ k → k < 24 → aN A1 k = aN A k) (eX : ∀ r, 50 ≤ r → r < 54 → aX A1 r = aX A r) (eE : aE A1 = aE A) : WFv A1 := by
  intro s hs
  rw [eN (10 + s) (by omega) (by omega), eN (20 + s) (by omega) (by omega), eX (50 + s) (by omega) (by omega), eE]
  exact h s hs
theorem cntF_cg {X Y : Nat → Int32} {d : Int32} : ∀ n, (∀ i, i < n → X i = Y i) → cntF X d n = cntF Y d n := by
  intro n
  induction n with
  | zero => intro _; rfl
  | succ n ih =>
    intro h
    unfold cntF
    rw [ih (fun i hi => h i (by omega)), h n (by omega)]
/-- a fact more -/
theorem wf_add4 {ok : Bool} {d s o m : Int32} (h : WFa A) (hok : ok = true → (0 ≤ d ∧ d < 1000 ∧ (o = 0 ∨ o = 1)) ∧ ((s = -1 ∧ 0 ≤ m ∧ m ≤ 2 ∧ o = 0) ∨ (0 ≤ s ∧ s < Int32.ofNat (aN A 3) ∧ 0 ≤ m ∧ m ≤ 99))) : WFa (nxtAdd A 4 20 ok d s o m) := by
  unfold nxtAdd
  by_cases hc : ok = true ∧ aN A 4 < dn (if 4 = 4 then 40 else 47)
  · rw [if_pos hc]
    have hl : aN A 4 < 200 := hc.2
    have hf := hok hc.1
    obtain ⟨h0, hg, hv⟩ := h
    obtain ⟨B, hB⟩ : ∃ B, B = addR A 4 20 d s o m (aX A 40 0) := ⟨_, rfl⟩
    rw [← hB]
    have q : AbQ (fun q => 20 ≤ q ∧ q ≤ 20 + 5) (fun k => k = 4) A B := by rw [hB]; exact addR_q
    have nE : ∀ k, k ≠ 4 → aN B k = aN A k := fun k hk => q.1 k hk
    have xE : ∀ r, ¬ (20 ≤ r ∧ r ≤ 25) → aX B r = aX A r := fun r hr => q.2.1 r hr
    have n4 : aN B 4 = aN A 4 + 1 := by rw [hB]; exact addR_N
    have key : ∀ i, i < aN A 4 + 1 → (i = aN A 4 ∧ aX B 20 i = d ∧ aX B 21 i = s ∧ aX B 22 i = o ∧ aX B 23 i = m ∧ aX B 24 i = aX A 40 0 ∧ aX B 25 i = -1) ∨ (i < aN A 4 ∧ ∀ q, aX B q i = aX A q i) := by rw [hB]; exact fun i hi => addR_X hi
    have c := h0.1
    refine ⟨⟨⟨by rw [nE 0 (by decide)]; exact c.1, by rw [nE 1 (by decide)]; exact c.2.1, by rw [nE 2 (by decide)]; exact c.2.2.1, by rw [nE 3 (by decide)]; exact c.2.2.2.1, by omega, by rw [nE 5 (by decide)]; exact c.2.2.2.2.2⟩, wNum_c h0 (fun i _ => by rw [xE 40 (by decide)]), wTape_c h0 (nE 0 (by decide)) (xE 0 (by decide)), wCell_c h0 (nE 1 (by decide)) (fun r _ _ => xE r (by omega)), wLand_c h0 (nE 2 (by decide)) (xE 5 (by decide)) q.2.2.1, wShip_c h0 (nE 2 (by decide)) (nE 3 (by decide)) (fun r _ _ => xE r (by omega)), fun i hi => ?_, wSig_c h0 (nE 5 (by decide)) (fun r _ _ => xE r (by omega))⟩, wg_c hg (nE 5 (by decide)) (xE 30 (by decide)), wv_c hv (fun k _ _ => nE k (by omega)) (fun r _ _ => xE r (by omega)) q.2.2.2⟩
    rw [n4] at hi
    rcases key i hi with ⟨e0, e1, e2, e3, e4, e5, e6⟩ | ⟨hl, e⟩
    · rw [e1, e2, e3, e4, e5, e6, nE 3 (by decide)]
      exact ⟨hf.1.1, hf.1.2.1, hf.1.2.2, h0.2.1.1, Or.inl rfl, hf.2⟩
    · rw [e, e, e, e, e, e, nE 3 (by decide)]
      exact h0.2.2.2.2.2.2.1 i hl
  · rw [if_neg hc]; exact h
theorem wf_turn {d w : Int32} (h : WFa A) : WFa (nxtAdd A 4 20 (okTurn d w) d (-1) 0 w) := wf_add4 h (fun q => by
  have q := of_decide_eq_true q
  exact ⟨⟨q.1.1, q.1.2, Or.inl rfl⟩, Or.inl ⟨rfl, q.2.1, q.2.2, rfl⟩⟩)
theorem wf_ask {s d o m : Int32} (ho : o = 0 ∨ o = 1) (h : WFa A) : WFa (nxtAdd A 4 20 (okAsk A s d m) d s o m) := wf_add4 h (fun q => by
  have q := of_decide_eq_true q
  exact ⟨⟨q.2.1.1, q.2.1.2, ho⟩, Or.inr ⟨q.1.1, q.1.2, q.2.2.1, q.2.2.2⟩⟩)
/-- a sighting more -/
theorem wf_sight {d m o k : Int32} (ho : o = 0 ∨ o = 1) (h : WFa A) : WFa (nxtAdd A 5 30 (okSig A d m k) d k o m) := by
  unfold nxtAdd
  by_cases hc : okSig A d m k = true ∧ aN A 5 < dn (if 5 = 4 then 40 else 47)
  · rw [if_pos hc]
    have hl : aN A 5 < 60 := hc.2
    have hf := of_decide_eq_true hc.1
    obtain ⟨h0, hg, hv⟩ := h
    obtain ⟨B, hB⟩ : ∃ B, B = addR A 5 30 d k o m (aX A 40 0) := ⟨_, rfl⟩
    rw [← hB]
    have q : AbQ (fun q => 30 ≤ q ∧ q ≤ 30 + 5) (fun k => k = 5) A B := by rw [hB]; exact addR_q
    have nE : ∀ k, k ≠ 5 → aN B k = aN A k := fun k hk => q.1 k hk
    have xE : ∀ r, ¬ (30 ≤ r ∧ r ≤ 35) → aX B r = aX A r := fun r hr => q.2.1 r hr
    have n5 : aN B 5 = aN A 5 + 1 := by rw [hB]; exact addR_N
    have key : ∀ i, i < aN A 5 + 1 → (i = aN A 5 ∧ aX B 30 i = d ∧ aX B 31 i = k ∧ aX B 32 i = o ∧ aX B 33 i = m ∧ aX B 34 i = aX A 40 0 ∧ aX B 35 i = -1) ∨ (i < aN A 5 ∧ ∀ q, aX B q i = aX A q i) := by rw [hB]; exact fun i hi => addR_X hi
    have c := h0.1
    refine ⟨⟨⟨by rw [nE 0 (by decide)]; exact c.1, by rw [nE 1 (by decide)]; exact c.2.1, by rw [nE 2 (by decide)]; exact c.2.2.1, by rw [nE 3 (by decide)]; exact c.2.2.2.1, by rw [nE 4 (by decide)]; exact c.2.2.2.2.1, by omega⟩, wNum_c h0 (fun i _ => by rw [xE 40 (by decide)]), wTape_c h0 (nE 0 (by decide)) (xE 0 (by decide)), wCell_c h0 (nE 1 (by decide)) (fun r _ _ => xE r (by omega)), wLand_c h0 (nE 2 (by decide)) (xE 5 (by decide)) q.2.2.1, wShip_c h0 (nE 2 (by decide)) (nE 3 (by decide)) (fun r _ _ => xE r (by omega)), wFact_c h0 (nE 3 (by decide)) (nE 4 (by decide)) (fun r _ _ => xE r (by omega)), fun i hi => ?_⟩, fun d1 => ?_, wv_c hv (fun k _ _ => nE k (by omega)) (fun r _ _ => xE r (by omega)) q.2.2.2⟩
    · rw [n5] at hi
      rcases key i hi with ⟨e0, e1, e2, e3, e4, e5, e6⟩ | ⟨hl, e⟩
      · rw [e1, e2, e3, e4, e5, e6]
        exact ⟨hf.1.1, hf.1.2, hf.2.2.1.1, hf.2.2.1.2, ho, hf.2.1.1, hf.2.1.2, h0.2.1.1, Or.inl rfl⟩
      · rw [e, e, e, e, e, e]
        exact h0.2.2.2.2.2.2.2 i hl
    · rw [n5]
      show cntF (aX B 30) d1 (aN A 5) + (if aX B 30 (aN A 5) = d1 then 1 else 0) ≤ 8
      have e1 : aX B 30 (aN A 5) = d := by
        rcases key (aN A 5) (by omega) with ⟨_, e, _⟩ | ⟨z, _⟩
        · exact e
        · omega
      rw [cntF_cg (Y := aX A 30) (aN A 5) (fun i hi => by
        rcases key i (by omega) with ⟨e, _⟩ | ⟨_, e⟩
        · omega
        · exact e 30), e1]
      have h8 := hg d1
      by_cases hd : d = d1
      · rw [if_pos hd]; have := hf.2.2.2; rw [hd] at this; omega
      · rw [if_neg hd]; omega
  · rw [if_neg hc]; exact h
/-- struck out -/
theorem wf_untell {e : Int32} (h : WFa A) : WFa (nxtStr A 4 20 e) := by
  unfold nxtStr
  by_cases hc : okStr A 4 20 e = true
  · rw [if_pos hc]
    obtain ⟨h0, hg, hv⟩ := h
    obtain ⟨B, hB⟩ : ∃ B, B = setX A (20 + 5) e.toNatClampNeg (aX A 40 0) := ⟨_, rfl⟩
    rw [← hB]
    have q : AbQ (fun q => q = 20 + 5) (fun _ => False) A B := by rw [hB]; exact setX_q
    have nE : ∀ k, aN B k = aN A k := fun k => q.1 k id
    have xE : ∀ r, r ≠ 25 → aX B r = aX A r := fun r hr => q.2.1 r hr
    have x25 : ∀ j, aX B 25 j = if j = e.toNatClampNeg then aX A 40 0 else aX A 25 j := fun j => by
      rw [hB]
      show (if 25 = 20 + 5 ∧ j = e.toNatClampNeg then _ else _) = _
      by_cases z : j = e.toNatClampNeg
      · rw [if_pos ⟨rfl, z⟩, if_pos z]
      · rw [if_neg (fun w => z w.2), if_neg z]; rfl
    refine ⟨⟨by rw [nE, nE, nE, nE, nE, nE]; exact h0.1, wNum_c h0 (fun i _ => by rw [xE 40 (by decide)]), wTape_c h0 (nE 0) (xE 0 (by decide)), wCell_c h0 (nE 1) (fun r _ _ => xE r (by omega)), wLand_c h0 (nE 2) (xE 5 (by decide)) q.2.2.1, wShip_c h0 (nE 2) (nE 3) (fun r _ _ => xE r (by omega)), fun i hi => ?_, wSig_c h0 (nE 5) (fun r _ _ => xE r (by omega))⟩, wg_c hg (nE 5) (xE 30 (by decide)), wv_c hv (fun k _ _ => nE k) (fun r _ _ => xE r (by omega)) q.2.2.2⟩
    rw [nE] at hi
    have f := h0.2.2.2.2.2.2.1 i hi
    rw [xE 20 (by decide), xE 21 (by decide), xE 22 (by decide), xE 23 (by decide), xE 24 (by decide), x25, nE]
    refine ⟨f.1, f.2.1, f.2.2.1, f.2.2.2.1, ?_, f.2.2.2.2.2⟩
    by_cases z : i = e.toNatClampNeg
    · rw [if_pos z]; exact Or.inr h0.2.1.1
    · rw [if_neg z]; exact f.2.2.2.2.1
  · rw [if_neg hc]; exact h
theorem wf_unsight {e : Int32} (h : WFa A) : WFa (nxtStr A 5 30 e) := by
  unfold nxtStr
  by_cases hc : okStr A 5 30 e = true
  · rw [if_pos hc]
    obtain ⟨h0, hg, hv⟩ := h
    obtain ⟨B, hB⟩ : ∃ B, B = setX A (30 + 5) e.toNatClampNeg (aX A 40 0) := ⟨_, rfl⟩
    rw [← hB]
    have q : AbQ (fun q => q = 30 + 5) (fun _ => False) A B := by rw [hB]; exact setX_q
    have nE : ∀ k, aN B k = aN A k := fun k => q.1 k id
    have xE : ∀ r, r ≠ 35 → aX B r = aX A r := fun r hr => q.2.1 r hr
    have x35 : ∀ j, aX B 35 j = if j = e.toNatClampNeg then aX A 40 0 else aX A 35 j := fun j => by
      rw [hB]
      show (if 35 = 30 + 5 ∧ j = e.toNatClampNeg then _ else _) = _
      by_cases z : j = e.toNatClampNeg
      · rw [if_pos ⟨rfl, z⟩, if_pos z]
      · rw [if_neg (fun w => z w.2), if_neg z]; rfl
    refine ⟨⟨by rw [nE, nE, nE, nE, nE, nE]; exact h0.1, wNum_c h0 (fun i _ => by rw [xE 40 (by decide)]), wTape_c h0 (nE 0) (xE 0 (by decide)), wCell_c h0 (nE 1) (fun r _ _ => xE r (by omega)), wLand_c h0 (nE 2) (xE 5 (by decide)) q.2.2.1, wShip_c h0 (nE 2) (nE 3) (fun r _ _ => xE r (by omega)), wFact_c h0 (nE 3) (nE 4) (fun r _ _ => xE r (by omega)), fun i hi => ?_⟩, wg_c hg (nE 5) (xE 30 (by decide)), wv_c hv (fun k _ _ => nE k) (fun r _ _ => xE r (by omega)) q.2.2.2⟩
    rw [nE] at hi
    have f := h0.2.2.2.2.2.2.2 i hi
    rw [xE 30 (by decide), xE 31 (by decide), xE 32 (by decide), xE 33 (by decide), xE 34 (by decide), x35]
    refine ⟨f.1, f.2.1, f.2.2.1, f.2.2.2.1, f.2.2.2.2.1, f.2.2.2.2.2.1, f.2.2.2.2.2.2.1, f.2.2.2.2.2.2.2.1, ?_⟩
    by_cases z : i = e.toNatClampNeg
    · rw [if_pos z]; exact Or.inr h0.2.1.1
    · rw [if_neg z]; exact f.2.2.2.2.2.2.2.2
  · rw [if_neg hc]; exact h
/-- another number in row 40 -/
theorem wf_40 {B : Ab} (h : WFa A) (q : AbQ (fun q => q = 40) (fun _ => False) A B) (hn : wNum B) : WFa B := by
  obtain ⟨h0, hg, hv⟩ := h
  have nE : ∀ k, aN B k = aN A k := fun k => q.1 k id
  have xE : ∀ r, r ≠ 40 → aX B r = aX A r := fun r hr => q.2.1 r hr
  exact ⟨⟨by rw [nE, nE, nE, nE, nE, nE]; exact h0.1, hn, wTape_c h0 (nE 0) (xE 0 (by decide)), wCell_c h0 (nE 1) (fun r _ _ => xE r (by omega)), wLand_c h0 (nE 2) (xE 5 (by decide)) q.2.2.1, wShip_c h0 (nE 2) (nE 3) (fun r _ _ => xE r (by omega)), wFact_c h0 (nE 3) (nE 4) (fun r _ _ => xE r (by omega)), wSig_c h0 (nE 5) (fun r _ _ => xE r (by omega))⟩, wg_c hg (nE 5) (xE 30 (by decide)), wv_c hv (fun k _ _ => nE k) (fun r _ _ => xE r (by omega)) q.2.2.2⟩
theorem wf_later {b : Int32} (h : WFa A) : WFa (nxtLater A b) := by
  unfold nxtLater
  by_cases hc : okLater A b = true
  · rw [if_pos hc]
    have hk := of_decide_eq_true hc
    have n := h.1.2.1
    refine wf_40 h setX_q ⟨?_, ?_, n.2.2.1, n.2.2.2.1, n.2.2.2.2.1, n.2.2.2.2.2⟩
    · show 0 ≤ aX A 40 0 + b
      have h1 := n.1
      have h2 := n.2.1
      have h3 := hk.1.1
      have h4 := hk.1.2
      generalize aX A 40 0 = t at *
      grind
    · exact hk.2
  · rw [if_neg hc]; exact h
theorem wf_gaps {g b : Int32} (h : WFa A) : WFa (nxtGaps A g b) := by
  unfold nxtGaps
  by_cases hc : okGaps g b = true
  · rw [if_pos hc]
    have hk := of_decide_eq_true hc
    have n := h.1.2.1
    exact wf_40 h (AbQ.tr setX_q setX_q) ⟨n.1, n.2.1, hk.1.1, hk.1.2, hk.2.1, hk.2.2⟩
  · rw [if_neg hc]; exact h
/-- another text -/
theorem wf_t {B : Ab} (h : WFa A) (q : AbQ (fun q => q = 0) (fun k => k = 0) A B) (hn : aN B 0 ≤ 1200) (ht : wTape B) : WFa B := by
  obtain ⟨h0, hg, hv⟩ := h
  have nE : ∀ k, k ≠ 0 → aN B k = aN A k := fun k hk => q.1 k hk
  have xE : ∀ r, r ≠ 0 → aX B r = aX A r := fun r hr => q.2.1 r hr
  have c := h0.1
  exact ⟨⟨⟨hn, by rw [nE 1 (by decide)]; exact c.2.1, by rw [nE 2 (by decide)]; exact c.2.2.1, by rw [nE 3 (by decide)]; exact c.2.2.2.1, by rw [nE 4 (by decide)]; exact c.2.2.2.2.1, by rw [nE 5 (by decide)]; exact c.2.2.2.2.2⟩, wNum_c h0 (fun i _ => by rw [xE 40 (by decide)]), ht, wCell_c h0 (nE 1 (by decide)) (fun r _ _ => xE r (by omega)), wLand_c h0 (nE 2 (by decide)) (xE 5 (by decide)) q.2.2.1, wShip_c h0 (nE 2 (by decide)) (nE 3 (by decide)) (fun r _ _ => xE r (by omega)), wFact_c h0 (nE 3 (by decide)) (nE 4 (by decide)) (fun r _ _ => xE r (by omega)), wSig_c h0 (nE 5 (by decide)) (fun r _ _ => xE r (by omega))⟩, wg_c hg (nE 5 (by decide)) (xE 30 (by decide)), wv_c hv (fun k _ _ => nE k (by omega)) (fun r _ _ => xE r (by omega)) q.2.2.2⟩
theorem wf_feed {a b c d e : Int32} (h : WFa A) : WFa (nxtFeed A a b c d e) := by
  unfold nxtFeed
  by_cases hc : aN A 0 + 20 ≤ 1200
  · rw [if_pos hc]
    refine wf_t h fedX_q hc (fun i hi => ?_)
    have hi : i < aN A 0 + 20 := hi
    show 0 ≤ (if 0 = 0 ∧ aN A 0 ≤ i ∧ i < aN A 0 + 20 then bt5 a b c d e (i - aN A 0) else aX A 0 i) ∧ (if 0 = 0 ∧ aN A 0 ≤ i ∧ i < aN A 0 + 20 then bt5 a b c d e (i - aN A 0) else aX A 0 i) ≤ 255
    by_cases z : aN A 0 ≤ i
    · rw [if_pos ⟨rfl, z, hi⟩]; exact bt_b _ _
    · rw [if_neg (fun w => z w.2.1)]; exact h.1.2.2.1 i (by omega)
  · rw [if_neg hc]; exact h
theorem wf_end {n : Int32} (h : WFa A) : WFa (nxtEnd A n) := by
  unfold nxtEnd
  by_cases hc : 0 ≤ n ∧ n ≤ Int32.ofNat (aN A 0)
  · rw [if_pos hc]
    have h12 := h.1.1.1
    have hle : n.toNatClampNeg ≤ aN A 0 := by
      have h1 := i32_cl n
      have h2 := i32_of (aN A 0) (by omega)
      have h3 := i32_of n.toNatClampNeg
      have h4 := hc.2
      grind
    refine wf_t h (AbQ.mono setN_q (fun _ z => False.elim z) (fun _ z => z)) ?_ (fun i hi => ?_)
    · show n.toNatClampNeg ≤ 1200; omega
    · have hi : i < n.toNatClampNeg := hi
      exact h.1.2.2.1 i (by omega)
  · rw [if_neg hc]; exact h
theorem lt_up {x : Int32} {n : Nat} (h : x < Int32.ofNat n) (hn : n < 1000) : x < Int32.ofNat (n + 1) := by
  have h1 := i32_of n (by omega)
  have h2 := i32_of (n + 1) (by omega)
  grind
theorem wf_ship {v : Nat → Int32} (h7 : v 7 = 0 ∨ v 7 = 1) (h : WFa A) : WFa (nxtShip A v) := by
  unfold nxtShip
  by_cases hc : okShip A v = true
  · rw [if_pos hc]
    have hk := of_decide_eq_true hc
    obtain ⟨h0, hg, hv⟩ := h
    obtain ⟨B, hB⟩ : ∃ B, B = addS A v := ⟨_, rfl⟩
    rw [← hB]
    have q : AbQ (fun q => 10 ≤ q ∧ q ≤ 17) (fun k => k = 3) A B := by rw [hB]; exact addS_q
    have nE : ∀ k, k ≠ 3 → aN B k = aN A k := fun k hk => q.1 k hk
    have xE : ∀ r, ¬ (10 ≤ r ∧ r ≤ 17) → aX B r = aX A r := fun r hr => q.2.1 r hr
    have n3 : aN B 3 = aN A 3 + 1 := by rw [hB]; rfl
    have key : ∀ r i, aX B r i = if (10 ≤ r ∧ r ≤ 17) ∧ i = aN A 3 then v (r - 10) else aX A r i := by rw [hB]; exact fun _ _ => rfl
    have c := h0.1
    have hl := hk.2
    refine ⟨⟨⟨by rw [nE 0 (by decide)]; exact c.1, by rw [nE 1 (by decide)]; exact c.2.1, by rw [nE 2 (by decide)]; exact c.2.2.1, by omega, by rw [nE 4 (by decide)]; exact c.2.2.2.2.1, by rw [nE 5 (by decide)]; exact c.2.2.2.2.2⟩, wNum_c h0 (fun i _ => by rw [xE 40 (by decide)]), wTape_c h0 (nE 0 (by decide)) (xE 0 (by decide)), wCell_c h0 (nE 1 (by decide)) (fun r _ _ => xE r (by omega)), wLand_c h0 (nE 2 (by decide)) (xE 5 (by decide)) q.2.2.1, fun i hi => ?_, fun i hi => ?_, wSig_c h0 (nE 5 (by decide)) (fun r _ _ => xE r (by omega))⟩, wg_c hg (nE 5 (by decide)) (xE 30 (by decide)), wv_c hv (fun k _ _ => nE k (by omega)) (fun r _ _ => xE r (by omega)) q.2.2.2⟩
    · rw [n3] at hi
      by_cases z : i = aN A 3
      · have e : ∀ k, k ≤ 7 → aX B (10 + k) i = v k := fun k hk => by rw [key, if_pos ⟨by omega, z⟩, Nat.add_sub_cancel_left]
        have e0 : aX B 10 i = v 0 := e 0 (by decide)
        have e1 : aX B 11 i = v 1 := e 1 (by decide)
        have e2 : aX B 12 i = v 2 := e 2 (by decide)
        have e3 : aX B 13 i = v 3 := e 3 (by decide)
        have e4 : aX B 14 i = v 4 := e 4 (by decide)
        have e5 : aX B 15 i = v 5 := e 5 (by decide)
        have e6 : aX B 16 i = v 6 := e 6 (by decide)
        have e7 : aX B 17 i = v 7 := e 7 (by decide)
        rw [e0, e1, e2, e3, e4, e5, e6, e7, nE 2 (by decide)]
        obtain ⟨⟨⟨k1, k2⟩, k3, k4, k5, k6, k7, k8⟩, _⟩ := hk
        refine ⟨k1, ?_, k3.1, k3.2, k4.1, k4.2, k5.1, k5.2, k6.1, k6.2, k7.1, k7.2, k8.1, k8.2, h7⟩
        have h2 := i32_of (aN A 2) (by omega)
        have h8 := c.2.2.1
        generalize v 0 = t at *
        grind
      · have e : ∀ r, aX B r i = aX A r i := fun r => by rw [key, if_neg (fun w => z w.2)]
        rw [e, e, e, e, e, e, e, e, nE 2 (by decide)]
        exact h0.2.2.2.2.2.1 i (by omega)
    · rw [nE 4 (by decide)] at hi
      have f := h0.2.2.2.2.2.2.1 i hi
      rw [xE 20 (by decide), xE 21 (by decide), xE 22 (by decide), xE 23 (by decide), xE 24 (by decide), xE 25 (by decide), n3]
      refine ⟨f.1, f.2.1, f.2.2.1, f.2.2.2.1, f.2.2.2.2.1, ?_⟩
      rcases f.2.2.2.2.2 with z | z
      · exact Or.inl z
      · exact Or.inr ⟨z.1, lt_up z.2.1 (by omega), z.2.2⟩
  · rw [if_neg hc]; exact h
end WFS
