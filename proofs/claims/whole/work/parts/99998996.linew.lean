/-! lines of a convention: what the reference keeps, step by step -/
def offW (S S1 : ms_S) : Prop := (∀ j, ¬ (4 ≤ j ∧ j ≤ 9) → ¬ (37 ≤ j ∧ j ≤ 41) → ms_I S1 131 j = ms_I S 131 j) ∧ (∀ b, b ≠ 131 → ¬ (143 ≤ b ∧ b ≤ 153) → ¬ (155 ≤ b ∧ b ≤ 157) → Eqc S S1 b) ∧ (∀ b i, ((143 ≤ b ∧ b ≤ 145) ∨ b = 156) → i ≠ 4 → ms_A S1 b i = ms_A S b i) ∧ (∀ i, i < 32 → ms_A S1 146 i = ms_A S 146 i) ∧ (∀ i, i < 16 → ms_A S1 147 i = ms_A S 147 i) ∧ (∀ b i, (b = 148 ∨ b = 149) → i < 60 → ms_A S1 b i = ms_A S b i) ∧ ∀ b i, (b = 150 ∨ b = 151) → i < 4800 → ms_A S1 b i = ms_A S b i
theorem offW.rf {S : ms_S} : offW S S := ⟨fun _ _ _ => rfl, fun _ _ _ _ => Eqc.rf, fun _ _ _ _ => rfl, fun _ _ => rfl, fun _ _ => rfl, fun _ _ _ _ => rfl, fun _ _ _ _ => rfl⟩
theorem offW.tr {S S1 S2 : ms_S} (h : offW S S1) (q : offW S1 S2) : offW S S2 := ⟨fun j h1 h2 => (q.1 j h1 h2).trans (h.1 j h1 h2), fun b h1 h2 h3 => (h.2.1 b h1 h2 h3).tr (q.2.1 b h1 h2 h3), fun b i h1 h2 => (q.2.2.1 b i h1 h2).trans (h.2.2.1 b i h1 h2), fun i hi => (q.2.2.2.1 i hi).trans (h.2.2.2.1 i hi), fun i hi => (q.2.2.2.2.1 i hi).trans (h.2.2.2.2.1 i hi), fun b i h1 h2 => (q.2.2.2.2.2.1 b i h1 h2).trans (h.2.2.2.2.2.1 b i h1 h2), fun b i h1 h2 => (q.2.2.2.2.2.2 b i h1 h2).trans (h.2.2.2.2.2.2 b i h1 h2)⟩
theorem offM.w {S S1 : ms_S} (h : offM S S1) : offW S S1 := by
  have e : ∀ b, b ≠ 131 → ms_A S1 b = ms_A S b := fun b hb => (h.2 b hb).2.2.2.1
  exact ⟨fun j h1 _ => h.1 j h1, fun b h1 _ _ => h.2 b h1, fun b i h1 _ => by rw [e b (by omega)], fun i _ => by rw [e 146 (by decide)], fun i _ => by rw [e 147 (by decide)], fun b i h1 _ => by rw [e b (by omega)], fun b i h1 _ => by rw [e b (by omega)]⟩
theorem oLk.w' {line c0 : Nat} {S S1 : ms_S} (h : oLk line c0 S S1) : offW S S1 := by
  have e : ∀ b, b ≠ 131 → ¬ (148 ≤ b ∧ b ≤ 153) → ms_A S1 b = ms_A S b := fun b h1 h2 => (h.2.1 b h1 h2).2.2.2.1
  refine ⟨h.1, fun b h1 h2 _ => h.2.1 b h1 (by omega), fun b i h1 _ => by rw [e b (by omega) (by omega)], fun i _ => by rw [e 146 (by decide) (by decide)], fun i _ => by rw [e 147 (by decide) (by decide)], fun b i h1 h2 => ?_, fun b i h1 h2 => ?_⟩
  · rcases h1 with rfl | rfl
    · exact (h.2.2.1 i (by omega)).1
    · exact (h.2.2.1 i (by omega)).2
  · rcases h1 with rfl | rfl
    · exact (h.2.2.2 i (by omega)).1
    · exact (h.2.2.2 i (by omega)).2
theorem offW.wA {S : ms_S} {b i : Nat} {v : Int32} (h : (((143 ≤ b ∧ b ≤ 145) ∨ b = 156) ∧ i = 4) ∨ (b = 146 ∧ 32 ≤ i) ∨ (b = 147 ∧ 16 ≤ i) ∨ b = 155) : offW S (ms_setA S b i v) := by
  refine ⟨fun j _ _ => by simp only [mGo], fun c h1 h2 h3 => Eqc_A (by omega), fun c j h1 h2 => ?_, fun j hj => ?_, fun j hj => ?_, fun c j h1 h2 => ?_, fun c j h1 h2 => ?_⟩ <;> (simp only [mG]; rw [if_neg (by omega)])
theorem offW.wL {S : ms_S} {i : Nat} {v : Int64} : offW S (ms_setL S 157 i v) := ⟨fun j _ _ => by simp only [mGo], fun c h1 h2 h3 => Eqc_L (by omega), fun c j _ _ => by simp only [mGo], fun j _ => by simp only [mGo], fun j _ => by simp only [mGo], fun c j _ _ => by simp only [mGo], fun c j _ _ => by simp only [mGo]⟩
theorem NB_w {S S1 : ms_S} {b : Nat} {ln : List (List Int32)} (h : NB S b ln) (o : offW S S1) : NB S1 b ln := ⟨by rw [o.1 20 (by omega) (by omega)]; exact h.1, by rw [(o.2.1 136 (by decide) (by decide) (by decide)).2.2.2.1]; exact h.2.1, fun i hi => by rw [(o.2.1 142 (by decide) (by decide) (by decide)).2.2.2.2.1]; exact h.2.2 i hi⟩
theorem bI_or {t p a : Nat} : bI (Nat.testBit (t ||| 2 ^ p) a) = if a = p then 1 else bI (Nat.testBit t a) := by
  have h := tb_or (t := t) (p := p) (a := a)
  unfold bI
  cases h1 : Nat.testBit (t ||| 2 ^ p) a with
  | false =>
    obtain ⟨h2, h3⟩ := h.1 h1
    rw [if_neg (show ¬ a = p from fun z => h3 z.symm), h2]
  | true =>
    by_cases e : a = p
    · rw [if_pos e]; rfl
    · rw [if_neg e]
      cases h2 : Nat.testBit t a with
      | true => rfl
      | false =>
        have := h.2 ⟨h2, fun z => e z.symm⟩
        rw [h1] at this
        cases this
section LNW
variable {S S1 S2 : ms_S} {C : Nat} {w : Cw}
theorem sgM_eq {line : Nat} {l : Cd} (h : sgM S C line l) (hE : ∀ b, 148 ≤ b → b ≤ 151 → ms_A S1 b = ms_A S b) : sgM S1 C line l := by
  obtain ⟨n, e1, e2, e3, e4⟩ := h
  refine ⟨n, by rw [hE 148 (by omega) (by omega)]; exact e1, by rw [hE 149 (by omega) (by omega)]; exact e2, e3, fun j hj => ?_⟩
  rw [hE 150 (by omega) (by omega), hE 151 (by omega) (by omega)]
  exact e4 j hj
theorem MW_m (h : MW S C w) (o : offM S S1) : MW S1 C w := by
  have e : ∀ b, b ≠ 131 → ms_A S1 b = ms_A S b := fun b hb => (o.2 b hb).2.2.2.1
  obtain ⟨⟨a1, a2, a3⟩, a4, a5, a6, a7, ⟨a8, a9⟩, a10, a11, a12⟩ := h
  refine ⟨⟨by rw [e 143 (by decide)]; exact a1, by rw [e 144 (by decide)]; exact a2, by rw [e 145 (by decide)]; exact a3⟩, fun k hk => by rw [e 147 (by decide), e 155 (by decide)]; exact a4 k hk, by rw [e 156 (by decide)]; exact a5, fun i hi => by rw [e 146 (by decide)]; exact a6 i hi, fun i hi => by rw [(o.2 157 (by decide)).2.2.2.2.1]; exact a7 i hi, ⟨by rw [o.1 37 (by omega)]; exact a8, by rw [o.1 38 (by omega)]; exact a9⟩, fun i hi => sgM_eq (a10 i hi) (fun b _ _ => e b (by omega)), fun i hi => sgM_eq (a11 i hi) (fun b _ _ => e b (by omega)), fun hb => sgM_eq (a12 hb) (fun b _ _ => e b (by omega))⟩
theorem MW_nm {v : Int64} (h : MW S C w) : MW (ms_setL S 157 (24 + (wK w).length) v) C w := by
  obtain ⟨⟨a1, a2, a3⟩, a4, a5, a6, a7, ⟨a8, a9⟩, a10, a11, a12⟩ := h
  have e : ∀ b, ms_A (ms_setL S 157 (24 + (wK w).length) v) b = ms_A S b := fun b => by simp only [mGo]
  refine ⟨⟨by rw [e]; exact a1, by rw [e]; exact a2, by rw [e]; exact a3⟩, fun k hk => by rw [e, e]; exact a4 k hk, by rw [e]; exact a5, fun i hi => by rw [e]; exact a6 i hi, fun i hi => ?_, ⟨by simp only [mGo]; exact a8, by simp only [mGo]; exact a9⟩, fun i hi => sgM_eq (a10 i hi) (fun b _ _ => e b), fun i hi => sgM_eq (a11 i hi) (fun b _ _ => e b), fun hb => sgM_eq (a12 hb) (fun b _ _ => e b)⟩
  simp only [mG, true_and]
  rw [if_neg (by omega)]
  exact a7 i hi
theorem MW_cs {v : Int32} (h : MW S C w) : MW (ms_setA S 146 (32 + (wM w).length) v) C w := by
  obtain ⟨⟨a1, a2, a3⟩, a4, a5, a6, a7, ⟨a8, a9⟩, a10, a11, a12⟩ := h
  have e : ∀ b, b ≠ 146 → ms_A (ms_setA S 146 (32 + (wM w).length) v) b = ms_A S b := fun b hb => (Eqc_A hb).2.2.2.1
  refine ⟨⟨by rw [e 143 (by decide)]; exact a1, by rw [e 144 (by decide)]; exact a2, by rw [e 145 (by decide)]; exact a3⟩, fun k hk => by rw [e 147 (by decide), e 155 (by decide)]; exact a4 k hk, by rw [e 156 (by decide)]; exact a5, fun i hi => ?_, fun i hi => by simp only [mGo]; exact a7 i hi, ⟨by simp only [mGo]; exact a8, by simp only [mGo]; exact a9⟩, fun i hi => sgM_eq (a10 i hi) (fun b _ _ => e b (by omega)), fun i hi => sgM_eq (a11 i hi) (fun b _ _ => e b (by omega)), fun hb => sgM_eq (a12 hb) (fun b _ _ => e b (by omega))⟩
  simp only [mG, true_and]
  rw [if_neg (by omega)]
  exact a6 i hi
theorem MW_up (h : MW S C w) : MW (ms_setA S 143 4 (ms_A S 143 4 + 1)) C (upN w) := by
  obtain ⟨⟨a1, a2, a3⟩, a4, a5, a6, a7, ⟨a8, a9⟩, a10, a11, a12⟩ := h
  have e : ∀ b, b ≠ 143 → ms_A (ms_setA S 143 4 (ms_A S 143 4 + 1)) b = ms_A S b := fun b hb => (Eqc_A hb).2.2.2.1
  refine ⟨⟨?_, by rw [e 144 (by decide)]; exact a2, by rw [e 145 (by decide)]; exact a3⟩, fun k hk => by rw [e 147 (by decide), e 155 (by decide)]; exact a4 k hk, by rw [e 156 (by decide)]; exact a5, fun i hi => by rw [e 146 (by decide)]; exact a6 i hi, fun i hi => by simp only [mGo]; exact a7 i hi, ⟨by simp only [mGo]; exact a8, by simp only [mGo]; exact a9⟩, fun i hi => sgM_eq (a10 i hi) (fun b _ _ => e b (by omega)), fun i hi => sgM_eq (a11 i hi) (fun b _ _ => e b (by omega)), fun hb => sgM_eq (a12 hb) (fun b _ _ => e b (by omega))⟩
  simp only [mG, and_self, if_true]
  rw [a1, ofN_s]
  rfl
/-- a kind more -/
theorem MW_kind {nm : List Int32} {cd : Cd} {u' : Nat} {σ' : Sg} (h : MW S C w) (h6 : (wK w).length < 6) (hnm : ms_L S 157 (24 + (wK w).length) = pk8 nm) (hlt : ltw nm) (o : oLk (wK w).length C S S1) (h37 : ms_I S1 131 37 = Int32.ofNat (C + cd.length)) (h38 : ms_I S1 131 38 = Int32.ofNat u') (hs : sgM S1 (C + cd.length) (wK w).length cd) : MW (ms_setA S1 144 4 (ms_A S1 144 4 + 1)) (C + cd.length) (σ', (wK w ++ [(nm, cd)], wM w), (wL w, wD w), wT w, u', wN w) := by
  obtain ⟨⟨a1, a2, a3⟩, a4, a5, a6, a7, ⟨a8, a9⟩, a10, a11, a12⟩ := h
  have e0 : ∀ b, b ≠ 131 → ¬ (148 ≤ b ∧ b ≤ 153) → ms_A S1 b = ms_A S b := fun b h1 h2 => (o.2.1 b h1 h2).2.2.2.1
  have e1 : ∀ b, b ≠ 144 → ms_A (ms_setA S1 144 4 (ms_A S1 144 4 + 1)) b = ms_A S1 b := fun b hb => (Eqc_A hb).2.2.2.1
  have e : ∀ b, b ≠ 131 → ¬ (148 ≤ b ∧ b ≤ 153) → b ≠ 144 → ms_A (ms_setA S1 144 4 (ms_A S1 144 4 + 1)) b = ms_A S b := fun b h1 h2 h3 => (e1 b h3).trans (e0 b h1 h2)
  have hlen : (wK w ++ [(nm, cd)]).length = (wK w).length + 1 := by rw [List.length_append]; rfl
  refine ⟨⟨by rw [e 143 (by decide) (by decide) (by decide)]; exact a1, ?_, by rw [e 145 (by decide) (by decide) (by decide)]; exact a3⟩, fun k hk => by rw [e 147 (by decide) (by decide) (by decide), e 155 (by decide) (by decide) (by decide)]; exact a4 k hk, by rw [e 156 (by decide) (by decide) (by decide)]; exact a5, fun i hi => by rw [e 146 (by decide) (by decide) (by decide)]; exact a6 i hi, fun i hi => ?_, ⟨by simp only [mGo]; exact h37, by simp only [mGo]; exact h38⟩, fun i hi => ?_, fun i hi => ?_, fun hb => ?_⟩
  · show _ = Int32.ofNat (wK w ++ [(nm, cd)]).length
    simp only [mG, and_self, if_true]
    rw [e0 144 (by decide) (by decide), a2, ofN_s, hlen]
  · have hi : i < (wK w ++ [(nm, cd)]).length := hi
    rw [hlen] at hi
    show ms_L (ms_setA S1 144 4 (ms_A S1 144 4 + 1)) 157 (24 + i) = pk8 ((wK w ++ [(nm, cd)]).getD i ([], [])).1 ∧ ltw ((wK w ++ [(nm, cd)]).getD i ([], [])).1
    simp only [mGo]
    rw [(o.2.1 157 (by decide) (by decide)).2.2.2.2.1, getD_snoc]
    by_cases q : i < (wK w).length
    · rw [if_pos q]; exact a7 i q
    · rw [if_neg q, if_pos (show i = (wK w).length by omega), show i = (wK w).length by omega]
      exact ⟨hnm, hlt⟩
  · have hi : i < (wK w ++ [(nm, cd)]).length := hi
    rw [hlen] at hi
    show sgM _ _ i ((wK w ++ [(nm, cd)]).getD i ([], [])).2
    refine sgM_eq ?_ (fun b _ _ => e1 b (by omega))
    rw [getD_snoc]
    by_cases q : i < (wK w).length
    · rw [if_pos q]; exact sgM_l (a10 i q) o (by omega) (Nat.le_refl _) (by omega)
    · rw [if_neg q, if_pos (show i = (wK w).length by omega), show i = (wK w).length by omega]
      exact hs
  · have hi : i < (wM w).length := hi
    exact sgM_eq (sgM_l (a11 i hi) o (by omega) (Nat.le_refl _) (by omega)) (fun b _ _ => e1 b (by omega))
  · exact sgM_eq (sgM_l (a12 hb) o (by omega) (Nat.le_refl _) (by omega)) (fun b _ _ => e1 b (by omega))
/-- a may more -/
theorem MW_may {v : Int32} {cd : Cd} {u' : Nat} {σ' : Sg} (h : MW S C w) (hK : (wK w).length ≤ 6) (h8 : (wM w).length < 8) (hv : ms_A S 146 (32 + (wM w).length) = v) (o : oLk (6 + (wM w).length) C S S1) (h37 : ms_I S1 131 37 = Int32.ofNat (C + cd.length)) (h38 : ms_I S1 131 38 = Int32.ofNat u') (hs : sgM S1 (C + cd.length) (6 + (wM w).length) cd) : MW (ms_setA S1 145 4 (ms_A S1 145 4 + 1)) (C + cd.length) (σ', (wK w, wM w ++ [(v, cd)]), (wL w, wD w), wT w, u', wN w) := by
  obtain ⟨⟨a1, a2, a3⟩, a4, a5, a6, a7, ⟨a8, a9⟩, a10, a11, a12⟩ := h
  have e0 : ∀ b, b ≠ 131 → ¬ (148 ≤ b ∧ b ≤ 153) → ms_A S1 b = ms_A S b := fun b h1 h2 => (o.2.1 b h1 h2).2.2.2.1
  have e1 : ∀ b, b ≠ 145 → ms_A (ms_setA S1 145 4 (ms_A S1 145 4 + 1)) b = ms_A S1 b := fun b hb => (Eqc_A hb).2.2.2.1
  have e : ∀ b, b ≠ 131 → ¬ (148 ≤ b ∧ b ≤ 153) → b ≠ 145 → ms_A (ms_setA S1 145 4 (ms_A S1 145 4 + 1)) b = ms_A S b := fun b h1 h2 h3 => (e1 b h3).trans (e0 b h1 h2)
  have hlen : (wM w ++ [(v, cd)]).length = (wM w).length + 1 := by rw [List.length_append]; rfl
  refine ⟨⟨by rw [e 143 (by decide) (by decide) (by decide)]; exact a1, by rw [e 144 (by decide) (by decide) (by decide)]; exact a2, ?_⟩, fun k hk => by rw [e 147 (by decide) (by decide) (by decide), e 155 (by decide) (by decide) (by decide)]; exact a4 k hk, by rw [e 156 (by decide) (by decide) (by decide)]; exact a5, fun i hi => ?_, fun i hi => by simp only [mGo]; rw [(o.2.1 157 (by decide) (by decide)).2.2.2.2.1]; exact a7 i hi, ⟨by simp only [mGo]; exact h37, by simp only [mGo]; exact h38⟩, fun i hi => ?_, fun i hi => ?_, fun hb => ?_⟩
  · show _ = Int32.ofNat (wM w ++ [(v, cd)]).length
    simp only [mG, and_self, if_true]
    rw [e0 145 (by decide) (by decide), a3, ofN_s, hlen]
  · have hi : i < (wM w ++ [(v, cd)]).length := hi
    rw [hlen] at hi
    show _ = ((wM w ++ [(v, cd)]).getD i (0, [])).1
    rw [e 146 (by decide) (by decide) (by decide), getD_snoc]
    by_cases q : i < (wM w).length
    · rw [if_pos q]; exact a6 i q
    · rw [if_neg q, if_pos (show i = (wM w).length by omega), show i = (wM w).length by omega]
      exact hv
  · have hi : i < (wK w).length := hi
    exact sgM_eq (sgM_l (a10 i hi) o (by omega) (Nat.le_refl _) (by omega)) (fun b _ _ => e1 b (by omega))
  · have hi : i < (wM w ++ [(v, cd)]).length := hi
    rw [hlen] at hi
    show sgM _ _ (6 + i) ((wM w ++ [(v, cd)]).getD i (0, [])).2
    refine sgM_eq ?_ (fun b _ _ => e1 b (by omega))
    rw [getD_snoc]
    by_cases q : i < (wM w).length
    · rw [if_pos q]; exact sgM_l (a11 i q) o (by omega) (Nat.le_refl _) (by omega)
    · rw [if_neg q, if_pos (show i = (wM w).length by omega), show i = (wM w).length by omega]
      exact hs
  · exact sgM_eq (sgM_l (a12 hb) o (by omega) (Nat.le_refl _) (by omega)) (fun b _ _ => e1 b (by omega))
/-- a limit -/
theorem MW_lim {v : Int32} {k : Nat} {σ' : Sg} (h : MW S C w) (hk : k < 4) : MW (ms_setA (ms_setA S 147 (16 + k) v) 155 (16 + k) 1) C (σ', w.2.1, (fun i => if i = k then v else wL w i, wD w), wT w ||| 2 ^ k, wU w, wN w) := by
  obtain ⟨⟨a1, a2, a3⟩, a4, a5, a6, a7, ⟨a8, a9⟩, a10, a11, a12⟩ := h
  have e : ∀ b, b ≠ 147 → b ≠ 155 → ms_A (ms_setA (ms_setA S 147 (16 + k) v) 155 (16 + k) 1) b = ms_A S b := fun b h1 h2 => by rw [(Eqc_A h2).2.2.2.1, (Eqc_A h1).2.2.2.1]
  refine ⟨⟨by rw [e 143 (by decide) (by decide)]; exact a1, by rw [e 144 (by decide) (by decide)]; exact a2, by rw [e 145 (by decide) (by decide)]; exact a3⟩, fun i hi => ⟨?_, ?_⟩, ?_, fun i hi => by rw [e 146 (by decide) (by decide)]; exact a6 i hi, fun i hi => by simp only [mGo]; exact a7 i hi, ⟨by simp only [mGo]; exact a8, by simp only [mGo]; exact a9⟩, fun i hi => sgM_eq (a10 i hi) (fun b _ _ => e b (by omega) (by omega)), fun i hi => sgM_eq (a11 i hi) (fun b _ _ => e b (by omega) (by omega)), fun hb => sgM_eq (a12 ?_) (fun b _ _ => e b (by omega) (by omega))⟩
  · show _ = if i = k then v else wL w i
    rw [(Eqc_A (by decide)).2.2.2.1]
    simp only [mG, true_and]
    by_cases q : i = k
    · rw [if_pos (by omega), if_pos q]
    · rw [if_neg (by omega), if_neg q]; exact (a4 i hi).1
  · show _ = bI (Nat.testBit (wT w ||| 2 ^ k) i)
    rw [bI_or]
    simp only [mG, true_and]
    by_cases q : i = k
    · rw [if_pos (by omega), if_pos q]
    · rw [if_neg (by omega), if_neg q, if_neg (by omega)]; exact (a4 i hi).2
  · show _ = bI (Nat.testBit (wT w ||| 2 ^ k) 4)
    rw [bI_or, if_neg (by omega), e 156 (by decide) (by decide)]
    exact a5
  · have hb : Nat.testBit (wT w ||| 2 ^ k) 4 = true := hb
    cases q : Nat.testBit (wT w) 4 with
    | true => rfl
    | false =>
      have := (tb_or (t := wT w) (p := k) (a := 4)).2 ⟨q, by omega⟩
      rw [hb] at this
      cases this
/-- dues -/
theorem MW_due {cd : Cd} {u' : Nat} {σ' : Sg} (h : MW S C w) (hK : (wK w).length ≤ 6) (hM : (wM w).length ≤ 8) (o : oLk 14 C S S1) (h37 : ms_I S1 131 37 = Int32.ofNat (C + cd.length)) (h38 : ms_I S1 131 38 = Int32.ofNat u') (hs : sgM S1 (C + cd.length) 14 cd) : MW (ms_setA S1 156 4 1) (C + cd.length) (σ', w.2.1, (wL w, cd), wT w ||| 2 ^ 4, u', wN w) := by
  obtain ⟨⟨a1, a2, a3⟩, a4, a5, a6, a7, ⟨a8, a9⟩, a10, a11, a12⟩ := h
  have e0 : ∀ b, b ≠ 131 → ¬ (148 ≤ b ∧ b ≤ 153) → ms_A S1 b = ms_A S b := fun b h1 h2 => (o.2.1 b h1 h2).2.2.2.1
  have e1 : ∀ b, b ≠ 156 → ms_A (ms_setA S1 156 4 1) b = ms_A S1 b := fun b hb => (Eqc_A hb).2.2.2.1
  have e : ∀ b, b ≠ 131 → ¬ (148 ≤ b ∧ b ≤ 153) → b ≠ 156 → ms_A (ms_setA S1 156 4 1) b = ms_A S b := fun b h1 h2 h3 => (e1 b h3).trans (e0 b h1 h2)
  refine ⟨⟨by rw [e 143 (by decide) (by decide) (by decide)]; exact a1, by rw [e 144 (by decide) (by decide) (by decide)]; exact a2, by rw [e 145 (by decide) (by decide) (by decide)]; exact a3⟩, fun i hi => ⟨by rw [e 147 (by decide) (by decide) (by decide)]; exact (a4 i hi).1, ?_⟩, ?_, fun i hi => by rw [e 146 (by decide) (by decide) (by decide)]; exact a6 i hi, fun i hi => by simp only [mGo]; rw [(o.2.1 157 (by decide) (by decide)).2.2.2.2.1]; exact a7 i hi, ⟨by simp only [mGo]; exact h37, by simp only [mGo]; exact h38⟩, fun i hi => ?_, fun i hi => ?_, fun _ => sgM_eq hs (fun b _ _ => e1 b (by omega))⟩
  · show _ = bI (Nat.testBit (wT w ||| 2 ^ 4) i)
    rw [bI_or, if_neg (by omega), e 155 (by decide) (by decide) (by decide)]
    exact (a4 i hi).2
  · show _ = bI (Nat.testBit (wT w ||| 2 ^ 4) 4)
    rw [bI_or, if_pos rfl]
    simp only [mG, and_self, if_true]
  · have hi : i < (wK w).length := hi
    exact sgM_eq (sgM_l (a10 i hi) o (by omega) (Nat.le_refl _) (by omega)) (fun b _ _ => e1 b (by omega))
  · have hi : i < (wM w).length := hi
    exact sgM_eq (sgM_l (a11 i hi) o (by omega) (Nat.le_refl _) (by omega)) (fun b _ _ => e1 b (by omega))
end LNW
