/-! lines of a convention: the class -/
def cSg (S : ms_S) (a C : Nat) (f t : Int32) (l : Cd) : Prop := ∃ n, f = Int32.ofNat n ∧ t = Int32.ofNat (n + l.length) ∧ n + l.length ≤ C ∧ ∀ j, j < l.length → ms_A S (a + 1) (n + j) = enc (l.getD j (0, 0))
def askK (K : List (List Int32 × Cd)) : Int32 := askAll (fun i => (K.getD i ([], [])).2) K.length
def mskB (k : Nat) : Int32 := if k = 0 then (1 : Int32) <<< (27 : Int32) else if k = 1 then (1 : Int32) <<< (28 : Int32) else if k = 2 then (1 : Int32) <<< (29 : Int32) else if k = 3 then (1 : Int32) <<< (9 : Int32) else (1 : Int32) <<< (30 : Int32)
def mskT (t : Nat) : Int32 := (if Nat.testBit t 0 = true then mskB 0 else 0) ||| (if Nat.testBit t 1 = true then mskB 1 else 0) ||| (if Nat.testBit t 2 = true then mskB 2 else 0) ||| (if Nat.testBit t 3 = true then mskB 3 else 0) ||| (if Nat.testBit t 4 = true then mskB 4 else 0)
theorem msk0 : ∀ t : Fin 32, ∀ k : Fin 5, decide ((mskT t.1 &&& mskB k.1 ≠ 0 ↔ Nat.testBit t.1 k.1 = true) ∧ mskT t.1 ||| mskB k.1 = mskT (t.1 ||| 2 ^ k.1)) = true := by decide +kernel
theorem mskT_1 {t k : Nat} (ht : t < 32) (hk : k < 5) : (mskT t &&& mskB k ≠ 0 ↔ Nat.testBit t k = true) ∧ mskT t ||| mskB k = mskT (t ||| 2 ^ k) := of_decide_eq_true (msk0 ⟨t, ht⟩ ⟨k, hk⟩)
def CW (S : ms_S) (a : Nat) (w : Cw) : Prop := (ms_I S a 17 = Int32.ofNat (wN w) ∧ ms_I S a 5 = Int32.ofNat (wK w).length ∧ ms_I S a 10 = Int32.ofNat (wM w).length ∧ ms_I S a 1 = Int32.ofNat (ccW w)) ∧ (ms_I S a 11 = wL w 0 ∧ ms_I S a 12 = wL w 1 ∧ ms_I S a 13 = wL w 2 ∧ ms_I S a 14 = wL w 3) ∧ (ms_I S 38 5 = mskT (wT w) ∧ ms_I S 38 3 = Int32.ofNat (wU w) ∧ ms_I S a 6 = askK (wK w)) ∧ NLc S (a + 2) (knW w) ∧ (∀ i, i < (wM w).length → ms_A S (a + 5) i = ((wM w).getD i (0, [])).1) ∧ (∀ i, i < (wK w).length → cSg S a (ccW w) (ms_A S (a + 3) i) (ms_A S (a + 4) i) ((wK w).getD i ([], [])).2) ∧ (∀ i, i < (wM w).length → cSg S a (ccW w) (ms_A S (a + 6) i) (ms_A S (a + 7) i) ((wM w).getD i (0, [])).2) ∧ cSg S a (ccW w) (ms_I S a 15) (ms_I S a 16) (wD w)
/-- what a line may change -/
def oRv (a : Nat) (S S1 : ms_S) : Prop := (∀ j, ¬ (5 ≤ j ∧ j ≤ 7) → ms_I S1 6 j = ms_I S 6 j) ∧ ms_R S1 38 = ms_R S 38 ∧ ∀ b, b ≠ 6 → b ≠ 38 → ¬ (a ≤ b ∧ b ≤ a + 7) → Eqc S S1 b
theorem oRv.rf {a : Nat} {S : ms_S} : oRv a S S := ⟨fun _ _ => rfl, rfl, fun _ _ _ _ => Eqc.rf⟩
theorem oRv.tr {a : Nat} {S S1 S2 : ms_S} (h : oRv a S S1) (q : oRv a S1 S2) : oRv a S S2 := ⟨fun j hj => (q.1 j hj).trans (h.1 j hj), q.2.1.trans h.2.1, fun b h1 h2 h3 => (h.2.2 b h1 h2 h3).tr (q.2.2 b h1 h2 h3)⟩
theorem offX.r {a : Nat} {S S1 : ms_S} (h : offX S S1) : oRv a S S1 := ⟨h.1, (h.2 38 (by decide)).2.2.1, fun b h1 _ _ => h.2 b h1⟩
theorem offE.r {a : Nat} {S S1 : ms_S} (h : offE a S S1) : oRv a S S1 := ⟨h.1, h.2.2.1, fun b h1 h2 h3 => h.2.2.2.2.1 b h1 h2 (by omega) (by omega)⟩
theorem oRv.A {a b i : Nat} {v : Int32} {S : ms_S} (h : a ≤ b ∧ b ≤ a + 7) : oRv a S (ms_setA S b i v) := ⟨fun j _ => by simp only [mGo], by simp only [mGo], fun c _ _ h3 => Eqc_A (by omega)⟩
theorem oRv.L {a b i : Nat} {v : Int64} {S : ms_S} (h : a ≤ b ∧ b ≤ a + 7) : oRv a S (ms_setL S b i v) := ⟨fun j _ => by simp only [mGo], by simp only [mGo], fun c _ _ h3 => Eqc_L (by omega)⟩
theorem oRv.I {a b i : Nat} {v : Int32} {S : ms_S} (h : (a ≤ b ∧ b ≤ a + 7) ∨ b = 38) (h6 : b ≠ 6) : oRv a S (ms_setI S b i v) := ⟨fun j _ => by simp only [mG]; rw [if_neg (fun z => h6 z.1.symm)], by simp only [mGo], fun c _ _ h3 => Eqc_I (by omega)⟩
section LNC
variable {N : Nat} {X : Nat → Int32} {L : Nat} {a st : Nat} {kl : Bool} {kn ln : List (List Int32)}
theorem RC_A {S : ms_S} {b i : Nat} {v : Int32} (h : RC S a st kl kn ln) : RC (ms_setA S b i v) a st kl kn ln := by
  unfold RC NLc at *
  simp only [mGo]
  exact h
theorem RC_nm {S : ms_S} {v : Int64} (oa : o_cv a) (ost : o_st st) (h : RC S a st kl kn ln) : RC (ms_setL S (a + 2) kn.length v) a st kl kn ln := by
  obtain ⟨h0, h1, h2, h3, h4, h5, h6, h7, h8, h9⟩ := h
  have hst : st + 5 ≠ a + 2 := by rcases ost with rfl | rfl <;> rcases oa with rfl | rfl | rfl | rfl | rfl <;> decide
  refine ⟨by simp only [mGo]; exact h0, by simp only [mGo]; exact h1, by simp only [mGo]; exact h2, by simp only [mGo]; exact h3, by simp only [mGo]; exact h4, fun i hi => ?_, by simp only [mGo]; exact h6, fun i hi => ?_, by simp only [mGo]; exact h8, by simp only [mGo]; exact h9⟩
  · simp only [mG, true_and]; rw [if_neg (by omega)]; exact h5 i hi
  · simp only [mG]; rw [if_neg (fun z => hst z.1)]; exact h7 i hi
theorem cSg_c {S S1 : ms_S} {C C1 : Nat} {f t : Int32} {l : Cd} (h : cSg S a C f t l) (hc : ∀ i, i < C → ms_A S1 (a + 1) i = ms_A S (a + 1) i) (hC : C ≤ C1) : cSg S1 a C1 f t l := by
  obtain ⟨n, e1, e2, e3, e4⟩ := h
  exact ⟨n, e1, e2, by omega, fun j hj => by rw [hc (n + j) (by omega)]; exact e4 j hj⟩
theorem askAll_c {E E1 : Nat → List (Nat × Int32)} : ∀ n, (∀ i, i < n → E i = E1 i) → askAll E n = askAll E1 n := by
  intro n
  induction n with
  | zero => intro _; rfl
  | succ n ih => intro h; show askAll E n ||| askOf (E n) = askAll E1 n ||| askOf (E1 n); rw [ih (fun i hi => h i (by omega)), h n (by omega)]
theorem askK_app {K : List (List Int32 × Cd)} {x : List Int32 × Cd} : askK (K ++ [x]) = askK K ||| askOf x.2 := by
  unfold askK
  rw [show (K ++ [x]).length = K.length + 1 by rw [List.length_append]; rfl]
  show askAll _ K.length ||| askOf ((K ++ [x]).getD K.length ([], [])).2 = _
  rw [askAll_c (E1 := fun i => (K.getD i ([], [])).2) K.length (fun i hi => by
    show ((K ++ [x]).getD i ([], [])).2 = _
    rw [getD_snoc, if_pos hi]), getD_snoc, if_neg (Nat.lt_irrefl _), if_pos rfl]
theorem knW_get {w : Cw} {i : Nat} (hi : i < (wK w).length) : (knW w).getD i [] = ((wK w).getD i ([], [])).1 := by
  unfold knW
  rw [List.getD_eq_getElem?_getD, List.getD_eq_getElem?_getD, List.getElem?_map, List.getElem?_eq_getElem hi]
  rfl
theorem CW_kind {S S9 : ms_S} {w : Cw} {nm : List Int32} {cd : Cd} {u' : Nat} {σ' : Sg} (h : CW S a w) (hI : ∀ j, j ≠ 1 → j ≠ 5 → j ≠ 6 → ms_I S9 a j = ms_I S a j) (h1 : ms_I S9 a 1 = Int32.ofNat (ccW w + cd.length)) (h5 : ms_I S9 a 5 = Int32.ofNat ((wK w).length + 1)) (h6 : ms_I S9 a 6 = askK (wK w) ||| askOf cd) (h38 : ms_I S9 38 5 = ms_I S 38 5) (h383 : ms_I S9 38 3 = Int32.ofNat u') (hL : ∀ i, i < (wK w).length → ms_L S9 (a + 2) i = ms_L S (a + 2) i) (hLn : ms_L S9 (a + 2) (wK w).length = pk5 nm) (hlt : ltw nm) (h3 : ∀ b i, (b = 3 ∨ b = 4) → i ≠ (wK w).length → ms_A S9 (a + b) i = ms_A S (a + b) i) (h3n : ms_A S9 (a + 3) (wK w).length = Int32.ofNat (ccW w)) (h4n : ms_A S9 (a + 4) (wK w).length = Int32.ofNat (ccW w + cd.length)) (h57 : ∀ b, 5 ≤ b → b ≤ 7 → ms_A S9 (a + b) = ms_A S (a + b)) (hc : ∀ i, i < ccW w → ms_A S9 (a + 1) i = ms_A S (a + 1) i) (hcd : ∀ j, j < cd.length → ms_A S9 (a + 1) (ccW w + j) = enc (cd.getD j (0, 0))) : CW S9 a (σ', (wK w ++ [(nm, cd)], wM w), (wL w, wD w), wT w, u', wN w) := by
  obtain ⟨⟨a1, a2, a3, a4⟩, ⟨b1, b2, b3, b4⟩, ⟨c1, c2, c3⟩, d1, d2, d3, d4, d5⟩ := h
  have hlen : (wK w ++ [(nm, cd)]).length = (wK w).length + 1 := by rw [List.length_append]; rfl
  have ecc : ccW ((σ', (wK w ++ [(nm, cd)], wM w), (wL w, wD w), wT w, u', wN w) : Cw) = ccW w + cd.length := by
    show ccK (wK w ++ [(nm, cd)]) + ccM (wM w) + (wD w).length = ccK (wK w) + ccM (wM w) + (wD w).length + cd.length
    rw [ccK_app]
    show ccK (wK w) + cd.length + ccM (wM w) + (wD w).length = _
    omega
  have ekn : ∀ i, i < (wK w).length + 1 → (knW ((σ', (wK w ++ [(nm, cd)], wM w), (wL w, wD w), wT w, u', wN w) : Cw)).getD i [] = if i < (wK w).length then (knW w).getD i [] else nm := fun i hi => by
    rw [knW_get (show i < (wK w ++ [(nm, cd)]).length by omega)]
    show ((wK w ++ [(nm, cd)]).getD i ([], [])).1 = _
    rw [getD_snoc]
    by_cases e : i < (wK w).length
    · rw [if_pos e, if_pos e, knW_get e]
    · rw [if_neg e, if_neg e, if_pos (show i = (wK w).length by omega)]
  refine ⟨⟨by rw [hI 17 (by decide) (by decide) (by decide)]; exact a1, by rw [h5]; show _ = Int32.ofNat (wK w ++ [(nm, cd)]).length; rw [hlen], by rw [hI 10 (by decide) (by decide) (by decide)]; exact a3, by rw [h1, ecc]⟩, ⟨by rw [hI 11 (by decide) (by decide) (by decide)]; exact b1, by rw [hI 12 (by decide) (by decide) (by decide)]; exact b2, by rw [hI 13 (by decide) (by decide) (by decide)]; exact b3, by rw [hI 14 (by decide) (by decide) (by decide)]; exact b4⟩, ⟨by rw [h38]; exact c1, h383, ?_⟩, fun i hi => ?_, fun i hi => by rw [h57 5 (by omega) (by omega)]; exact d2 i hi, fun i hi => ?_, fun i hi => ?_, ?_⟩
  · show _ = askK (wK w ++ [(nm, cd)])
    rw [askK_app, h6]
  · rw [knW_len] at hi
    have hi : i < (wK w ++ [(nm, cd)]).length := hi
    rw [hlen] at hi
    rw [ekn i hi]
    by_cases e : i < (wK w).length
    · rw [if_pos e, hL i e]; exact d1 i (by rw [knW_len]; exact e)
    · rw [if_neg e, show i = (wK w).length by omega]; exact ⟨hLn, hlt⟩
  · have hi : i < (wK w ++ [(nm, cd)]).length := hi
    rw [hlen] at hi
    rw [ecc]
    show cSg S9 a _ _ _ ((wK w ++ [(nm, cd)]).getD i ([], [])).2
    rw [getD_snoc]
    by_cases e : i < (wK w).length
    · rw [if_pos e, h3 3 i (Or.inl rfl) (by omega), h3 4 i (Or.inr rfl) (by omega)]
      exact cSg_c (d3 i e) hc (by omega)
    · rw [if_neg e, if_pos (show i = (wK w).length by omega), show i = (wK w).length by omega, h3n, h4n]
      exact ⟨ccW w, rfl, rfl, Nat.le_refl _, hcd⟩
  · rw [ecc, h57 6 (by omega) (by omega), h57 7 (by omega) (by omega)]
    exact cSg_c (d4 i hi) hc (by omega)
  · rw [ecc, hI 15 (by decide) (by decide) (by decide), hI 16 (by decide) (by decide) (by decide)]
    exact cSg_c d5 hc (by omega)
theorem CW_may {S S9 : ms_S} {w : Cw} {v : Int32} {cd : Cd} {u' : Nat} {σ' : Sg} (h : CW S a w) (hI : ∀ j, j ≠ 1 → j ≠ 10 → ms_I S9 a j = ms_I S a j) (h1 : ms_I S9 a 1 = Int32.ofNat (ccW w + cd.length)) (h10 : ms_I S9 a 10 = Int32.ofNat ((wM w).length + 1)) (h38 : ms_I S9 38 5 = ms_I S 38 5) (h383 : ms_I S9 38 3 = Int32.ofNat u') (hL : ms_L S9 (a + 2) = ms_L S (a + 2)) (h3 : ∀ b i, 5 ≤ b → b ≤ 7 → i ≠ (wM w).length → ms_A S9 (a + b) i = ms_A S (a + b) i) (h5n : ms_A S9 (a + 5) (wM w).length = v) (h6n : ms_A S9 (a + 6) (wM w).length = Int32.ofNat (ccW w)) (h7n : ms_A S9 (a + 7) (wM w).length = Int32.ofNat (ccW w + cd.length)) (h34 : ∀ b, (b = 3 ∨ b = 4) → ms_A S9 (a + b) = ms_A S (a + b)) (hc : ∀ i, i < ccW w → ms_A S9 (a + 1) i = ms_A S (a + 1) i) (hcd : ∀ j, j < cd.length → ms_A S9 (a + 1) (ccW w + j) = enc (cd.getD j (0, 0))) : CW S9 a (σ', (wK w, wM w ++ [(v, cd)]), (wL w, wD w), wT w, u', wN w) := by
  obtain ⟨⟨a1, a2, a3, a4⟩, ⟨b1, b2, b3, b4⟩, ⟨c1, c2, c3⟩, d1, d2, d3, d4, d5⟩ := h
  have hlen : (wM w ++ [(v, cd)]).length = (wM w).length + 1 := by rw [List.length_append]; rfl
  have ecc : ccW ((σ', (wK w, wM w ++ [(v, cd)]), (wL w, wD w), wT w, u', wN w) : Cw) = ccW w + cd.length := by
    show ccK (wK w) + ccM (wM w ++ [(v, cd)]) + (wD w).length = ccK (wK w) + ccM (wM w) + (wD w).length + cd.length
    rw [ccM_app]
    show ccK (wK w) + (ccM (wM w) + cd.length) + (wD w).length = _
    omega
  refine ⟨⟨by rw [hI 17 (by decide) (by decide)]; exact a1, by rw [hI 5 (by decide) (by decide)]; exact a2, by rw [h10]; show _ = Int32.ofNat (wM w ++ [(v, cd)]).length; rw [hlen], by rw [h1, ecc]⟩, ⟨by rw [hI 11 (by decide) (by decide)]; exact b1, by rw [hI 12 (by decide) (by decide)]; exact b2, by rw [hI 13 (by decide) (by decide)]; exact b3, by rw [hI 14 (by decide) (by decide)]; exact b4⟩, ⟨by rw [h38]; exact c1, h383, by rw [hI 6 (by decide) (by decide)]; exact c3⟩, fun i hi => by rw [hL]; exact d1 i hi, fun i hi => ?_, fun i hi => ?_, fun i hi => ?_, ?_⟩
  · have hi : i < (wM w ++ [(v, cd)]).length := hi
    rw [hlen] at hi
    show _ = ((wM w ++ [(v, cd)]).getD i (0, [])).1
    rw [getD_snoc]
    by_cases e : i < (wM w).length
    · rw [if_pos e, h3 5 i (by omega) (by omega) (by omega)]; exact d2 i e
    · rw [if_neg e, if_pos (show i = (wM w).length by omega), show i = (wM w).length by omega]; exact h5n
  · rw [ecc, h34 3 (Or.inl rfl), h34 4 (Or.inr rfl)]
    exact cSg_c (d3 i hi) hc (by omega)
  · have hi : i < (wM w ++ [(v, cd)]).length := hi
    rw [hlen] at hi
    rw [ecc]
    show cSg S9 a _ _ _ ((wM w ++ [(v, cd)]).getD i (0, [])).2
    rw [getD_snoc]
    by_cases e : i < (wM w).length
    · rw [if_pos e, h3 6 i (by omega) (by omega) (by omega), h3 7 i (by omega) (by omega) (by omega)]
      exact cSg_c (d4 i e) hc (by omega)
    · rw [if_neg e, if_pos (show i = (wM w).length by omega), show i = (wM w).length by omega, h6n, h7n]
      exact ⟨ccW w, rfl, rfl, Nat.le_refl _, hcd⟩
  · rw [ecc, hI 15 (by decide) (by decide), hI 16 (by decide) (by decide)]
    exact cSg_c d5 hc (by omega)
theorem CW_lim {S S9 : ms_S} {w : Cw} {v : Int32} {k : Nat} {σ' : Sg} (h : CW S a w) (hk : k < 4) (ht : wT w < 32) (hI : ∀ j, j ≠ 11 + k → ms_I S9 a j = ms_I S a j) (h1 : ms_I S9 a (11 + k) = v) (h38 : ms_I S9 38 5 = ms_I S 38 5 ||| mskB k) (h383 : ms_I S9 38 3 = ms_I S 38 3) (hL : ms_L S9 (a + 2) = ms_L S (a + 2)) (hA : ∀ b, 1 ≤ b → b ≤ 7 → ms_A S9 (a + b) = ms_A S (a + b)) : CW S9 a (σ', w.2.1, (fun i => if i = k then v else wL w i, wD w), wT w ||| 2 ^ k, wU w, wN w) := by
  obtain ⟨⟨a1, a2, a3, a4⟩, ⟨b1, b2, b3, b4⟩, ⟨c1, c2, c3⟩, d1, d2, d3, d4, d5⟩ := h
  have hc : ∀ i, i < ccW w → ms_A S9 (a + 1) i = ms_A S (a + 1) i := fun i _ => by rw [hA 1 (by omega) (by omega)]
  have lm : ∀ i, i < 4 → ms_I S a (11 + i) = wL w i → ms_I S9 a (11 + i) = if i = k then v else wL w i := fun i hi e => by
    by_cases q : i = k
    · rw [if_pos q, q]; exact h1
    · rw [if_neg q, hI (11 + i) (by omega)]; exact e
  refine ⟨⟨by rw [hI 17 (by omega)]; exact a1, by rw [hI 5 (by omega)]; exact a2, by rw [hI 10 (by omega)]; exact a3, by rw [hI 1 (by omega)]; exact a4⟩, ⟨lm 0 (by omega) b1, lm 1 (by omega) b2, lm 2 (by omega) b3, lm 3 (by omega) b4⟩, ⟨?_, by rw [h383]; exact c2, by rw [hI 6 (by omega)]; exact c3⟩, fun i hi => by rw [hL]; exact d1 i hi, fun i hi => by rw [hA 5 (by omega) (by omega)]; exact d2 i hi, fun i hi => ?_, fun i hi => ?_, ?_⟩
  · show _ = mskT (wT w ||| 2 ^ k)
    rw [h38, c1, (mskT_1 ht (by omega)).2]
  · rw [hA 3 (by omega) (by omega), hA 4 (by omega) (by omega)]; exact cSg_c (d3 i hi) hc (Nat.le_refl _)
  · rw [hA 6 (by omega) (by omega), hA 7 (by omega) (by omega)]; exact cSg_c (d4 i hi) hc (Nat.le_refl _)
  · rw [hI 15 (by omega), hI 16 (by omega)]; exact cSg_c d5 hc (Nat.le_refl _)
theorem CW_due {S S9 : ms_S} {w : Cw} {cd : Cd} {u' : Nat} {σ' : Sg} (h : CW S a w) (ht : wT w < 32) (hD : wD w = []) (hI : ∀ j, j ≠ 1 → j ≠ 15 → j ≠ 16 → ms_I S9 a j = ms_I S a j) (h1 : ms_I S9 a 1 = Int32.ofNat (ccW w + cd.length)) (h15 : ms_I S9 a 15 = Int32.ofNat (ccW w)) (h16 : ms_I S9 a 16 = Int32.ofNat (ccW w + cd.length)) (h38 : ms_I S9 38 5 = ms_I S 38 5 ||| mskB 4) (h383 : ms_I S9 38 3 = Int32.ofNat u') (hL : ms_L S9 (a + 2) = ms_L S (a + 2)) (hA : ∀ b, 3 ≤ b → b ≤ 7 → ms_A S9 (a + b) = ms_A S (a + b)) (hc : ∀ i, i < ccW w → ms_A S9 (a + 1) i = ms_A S (a + 1) i) (hcd : ∀ j, j < cd.length → ms_A S9 (a + 1) (ccW w + j) = enc (cd.getD j (0, 0))) : CW S9 a (σ', w.2.1, (wL w, cd), wT w ||| 2 ^ 4, u', wN w) := by
  obtain ⟨⟨a1, a2, a3, a4⟩, ⟨b1, b2, b3, b4⟩, ⟨c1, c2, c3⟩, d1, d2, d3, d4, d5⟩ := h
  have ecc : ccW ((σ', w.2.1, (wL w, cd), wT w ||| 2 ^ 4, u', wN w) : Cw) = ccW w + cd.length := by
    show ccK (wK w) + ccM (wM w) + cd.length = ccK (wK w) + ccM (wM w) + (wD w).length + cd.length
    rw [hD]
    rfl
  refine ⟨⟨by rw [hI 17 (by decide) (by decide) (by decide)]; exact a1, by rw [hI 5 (by decide) (by decide) (by decide)]; exact a2, by rw [hI 10 (by decide) (by decide) (by decide)]; exact a3, by rw [h1, ecc]⟩, ⟨by rw [hI 11 (by decide) (by decide) (by decide)]; exact b1, by rw [hI 12 (by decide) (by decide) (by decide)]; exact b2, by rw [hI 13 (by decide) (by decide) (by decide)]; exact b3, by rw [hI 14 (by decide) (by decide) (by decide)]; exact b4⟩, ⟨?_, h383, by rw [hI 6 (by decide) (by decide) (by decide)]; exact c3⟩, fun i hi => by rw [hL]; exact d1 i hi, fun i hi => by rw [hA 5 (by omega) (by omega)]; exact d2 i hi, fun i hi => ?_, fun i hi => ?_, ?_⟩
  · show _ = mskT (wT w ||| 2 ^ 4)
    rw [h38, c1, (mskT_1 ht (by omega)).2]
  · rw [ecc, hA 3 (by omega) (by omega), hA 4 (by omega) (by omega)]; exact cSg_c (d3 i hi) hc (by omega)
  · rw [ecc, hA 6 (by omega) (by omega), hA 7 (by omega) (by omega)]; exact cSg_c (d4 i hi) hc (by omega)
  · rw [ecc, h15, h16]
    exact ⟨ccW w, rfl, rfl, Nat.le_refl _, hcd⟩
end LNC
