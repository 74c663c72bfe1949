/-! bounds of what a house holds; what a step leaves as it was -/
def WF0 (A : Ab) : Prop := (aN A 0 ≤ 1200 ∧ aN A 1 ≤ 20 ∧ aN A 2 ≤ 8 ∧ aN A 3 ≤ 20 ∧ aN A 4 ≤ 200 ∧ aN A 5 ≤ 60)
  ∧ (0 ≤ aX A 40 0 ∧ aX A 40 0 ≤ 100000 ∧ 1 ≤ aX A 40 1 ∧ aX A 40 1 ≤ 60 ∧ 0 ≤ aX A 40 2 ∧ aX A 40 2 ≤ 200)
  ∧ (∀ i, i < aN A 0 → 0 ≤ aX A 0 i ∧ aX A 0 i ≤ 255)
  ∧ (∀ i, i < aN A 1 → 1 ≤ aX A 1 i ∧ aX A 1 i ≤ 99 ∧ 0 ≤ aX A 2 i ∧ aX A 2 i ≤ 9 ∧ -9 ≤ aX A 3 i ∧ aX A 3 i ≤ 9 ∧ (aX A 4 i = 0 ∨ aX A 4 i = 1))
  ∧ (∀ i, i < aN A 2 → (aX A 5 i = 0 ∨ aX A 5 i = 1) ∧ 1 ≤ (aM A i).length ∧ (aM A i).length ≤ 8 ∧ ∀ c ∈ aM A i, 97 ≤ c ∧ c ≤ 122)
  ∧ (∀ i, i < aN A 3 → 0 ≤ aX A 10 i ∧ aX A 10 i < Int32.ofNat (aN A 2) ∧ 0 ≤ aX A 11 i ∧ aX A 11 i ≤ 9999 ∧ 10 ≤ aX A 12 i ∧ aX A 12 i ≤ 400 ∧ 1 ≤ aX A 13 i ∧ aX A 13 i ≤ 30 ∧ 0 ≤ aX A 14 i ∧ aX A 14 i ≤ 20 ∧ 0 ≤ aX A 15 i ∧ aX A 15 i ≤ 5 ∧ 0 ≤ aX A 16 i ∧ aX A 16 i ≤ 9 ∧ (aX A 17 i = 0 ∨ aX A 17 i = 1))
  ∧ (∀ i, i < aN A 4 → 0 ≤ aX A 20 i ∧ aX A 20 i < 1000 ∧ (aX A 22 i = 0 ∨ aX A 22 i = 1) ∧ 0 ≤ aX A 24 i ∧ (aX A 25 i = -1 ∨ 0 ≤ aX A 25 i)
    ∧ ((aX A 21 i = -1 ∧ 0 ≤ aX A 23 i ∧ aX A 23 i ≤ 2 ∧ aX A 22 i = 0) ∨ (0 ≤ aX A 21 i ∧ aX A 21 i < Int32.ofNat (aN A 3) ∧ 0 ≤ aX A 23 i ∧ aX A 23 i ≤ 99)))
  ∧ (∀ i, i < aN A 5 → 0 ≤ aX A 30 i ∧ aX A 30 i < 1000 ∧ -1 ≤ aX A 31 i ∧ aX A 31 i ≤ 5 ∧ (aX A 32 i = 0 ∨ aX A 32 i = 1) ∧ 0 ≤ aX A 33 i ∧ aX A 33 i ≤ 1439 ∧ 0 ≤ aX A 34 i ∧ (aX A 35 i = -1 ∨ 0 ≤ aX A 35 i))
/-- how many of the first n are d -/
def cntF (X : Nat → Int32) (d : Int32) : Nat → Nat
  | 0 => 0
  | n + 1 => cntF X d n + if X n = d then 1 else 0
/-- no day has more than eight sightings -/
def WFg (A : Ab) : Prop := ∀ d, cntF (aX A 30) d (aN A 5) ≤ 8
/-- what ledger, plan and parting hang on -/
def core (A : Ab) : Ab := (fun k => if k = 0 ∨ k = 5 then 0 else aN A k, fun r i => if r = 0 ∨ (30 ≤ r ∧ r < 36) ∨ (r = 40 ∧ i ≠ 1) then 0 else aX A r i, aM A, aE A)
/-- the state of changes: as before, or one more -/
def chg (S S1 : ms_S) (A A1 : Ab) : Prop := (ms_I S1 4 20 = ms_I S 4 20 ∧ core A1 = core A) ∨ ms_I S1 4 20 = ms_I S 4 20 + 1
/-- caches and the reference stay -/
def keepC (S S1 : ms_S) : Prop := ∀ b, 57 ≤ b → (b < 79 ∨ 131 ≤ b) → Eqc S S1 b
def keepM (S S1 : ms_S) : Prop := ∀ b, b < 131 → Eqc S S1 b
section FRM
variable {S S1 : ms_S} {A : Ab}
theorem cTape_fr (h : cTape S A) (h1 : ms_I S1 4 1 = ms_I S 4 1) (h5 : Eqc S S1 5) : cTape S1 A := by
  unfold cTape at *
  rw [h1, h5.2.2.2.1]
  exact h
theorem cNum_fr (h : cNum S A) (h1 : ∀ k, 17 ≤ k → k ≤ 19 → ms_I S1 4 k = ms_I S 4 k) (h6 : ms_I S1 6 6 = ms_I S 6 6) (h7 : ms_I S1 6 7 = ms_I S 6 7) : cNum S1 A := by
  unfold cNum at *
  rw [h1 17 (by decide) (by decide), h1 18 (by decide) (by decide), h1 19 (by decide) (by decide), h6, h7]
  exact h
theorem cStrAt_fr {a : Nat} (h : cStrAt S A a) (hE : ∀ b, a ≤ b → b ≤ a + 6 → Eqc S S1 b) : cStrAt S1 A a := by
  unfold cStrAt at *
  rw [(hE a (by omega) (by omega)).1, (hE (a + 1) (by omega) (by omega)).2.2.2.1, (hE (a + 2) (by omega) (by omega)).2.2.2.1, (hE (a + 3) (by omega) (by omega)).2.2.2.1, (hE (a + 4) (by omega) (by omega)).2.2.2.1, (hE (a + 6) (by omega) (by omega)).2.2.2.1]
  exact h
theorem cStr_fr (h : cStr S A) (h3 : ms_R S1 4 3 = ms_R S 4 3) (h4 : ms_R S1 4 4 = ms_R S 4 4) (hE : ∀ a b, o_st a → a ≤ b → b ≤ a + 6 → Eqc S S1 b) : cStr S1 A := by
  obtain ⟨a, a2, e3, e4, ho, hs, h9, h10, hl⟩ := h
  have oa : o_st a := by rcases ho with h | h; exact Or.inl h.1; exact Or.inr h.1
  refine ⟨a, a2, h3.trans e3, h4.trans e4, ho, cStrAt_fr hs (fun b => hE a b oa), ?_, ?_, ?_⟩
  · rw [(hE a a oa (by omega) (by omega)).1]; exact h9
  · rw [(hE a a oa (by omega) (by omega)).1]; exact h10
  · rw [(hE a (a + 5) oa (by omega) (by omega)).2.2.2.2.1]; exact hl
theorem cShip_fr (h : cShip S A) (h9 : ms_I S1 4 9 = ms_I S 4 9) (h39 : Eqc S S1 39) (hE : ∀ b, 111 ≤ b → b < 131 → Eqc S S1 b) (hn : aN A 3 ≤ 20) : cShip S1 A := by
  obtain ⟨k1, k2, k3⟩ := h
  refine ⟨h9.trans k1, fun i hi => by rw [h39.2.2.2.2.2]; exact k2 i hi, fun i hi => ?_⟩
  rw [(hE (111 + i) (by omega) (by omega)).1]
  exact k3 i hi
theorem cDi_fr {a c r : Nat} (h : cDi S A a c r) (hE : ∀ b, a ≤ b → b ≤ a + 6 → Eqc S S1 b) : cDi S1 A a c r := by
  unfold cDi at *
  rw [(hE a (by omega) (by omega)).1, (hE (a + 1) (by omega) (by omega)).2.2.2.1, (hE (a + 2) (by omega) (by omega)).2.2.2.1, (hE (a + 3) (by omega) (by omega)).2.2.2.1, (hE (a + 4) (by omega) (by omega)).2.2.2.1, (hE (a + 5) (by omega) (by omega)).2.2.2.1, (hE (a + 6) (by omega) (by omega)).2.2.2.1]
  exact h
theorem cSeg_fr {a : Nat} {f t : Int32} {l : List (Nat × Int32)} (h : cSeg S a f t l) (hE : ∀ b, a ≤ b → b ≤ a + 7 → Eqc S S1 b) : cSeg S1 a f t l := by
  unfold cSeg at *
  rw [(hE a (by omega) (by omega)).1, (hE (a + 1) (by omega) (by omega)).2.2.2.1]
  exact h
theorem cCvAt_fr {a s : Nat} (h : cCvAt S A a s) (hE : ∀ b, a ≤ b → b ≤ a + 7 → Eqc S S1 b) : cCvAt S1 A a s := by
  obtain ⟨h1, h2, h3, h4, h5, h6, h7, h8, h9, h10, h11, h12⟩ := h
  have eI := (hE a (by omega) (by omega)).1
  have e3 := (hE (a + 3) (by omega) (by omega)).2.2.2.1
  have e4 := (hE (a + 4) (by omega) (by omega)).2.2.2.1
  have e5 := (hE (a + 5) (by omega) (by omega)).2.2.2.1
  have e6 := (hE (a + 6) (by omega) (by omega)).2.2.2.1
  have e7 := (hE (a + 7) (by omega) (by omega)).2.2.2.1
  unfold cCvAt
  rw [eI, e3, e4, e5, e6, e7]
  exact ⟨h1, h2, h3, h4, h5, h6, h7, h8, h9, fun i hi => cSeg_fr (h10 i hi) hE, fun i hi => cSeg_fr (h11 i hi) hE, cSeg_fr h12 hE⟩
theorem cConv_fr (h : cConv S A) (h6 : ms_R S1 4 6 = ms_R S 4 6) (h29 : Eqc S S1 29) (hE : ∀ a b, o_cv a → a ≤ b → b ≤ a + 7 → Eqc S S1 b) : cConv S1 A := by
  obtain ⟨p, k1, k2, k3, k4⟩ := h
  refine ⟨p, h6.trans k1, k2, k3, fun s hs => ⟨by rw [h29.2.2.2.2.2]; exact (k4 s hs).1, cCvAt_fr (k4 s hs).2 (fun b => hE (p s) b (k2 s (by omega)))⟩⟩
/-- what a query of the class may change: nothing that is told -/
theorem cBase_fr (h : cBase S A) (hn : aN A 3 ≤ 20) (hI : ∀ k, k ≠ 20 → ms_I S1 4 k = ms_I S 4 k) (hR : ms_R S1 4 = ms_R S 4) (h6 : ms_I S1 6 6 = ms_I S 6 6 ∧ ms_I S1 6 7 = ms_I S 6 7) (hE : ∀ b, b < 131 → b ≠ 4 → b ≠ 6 → ¬ (8 ≤ b ∧ b ≤ 10) → ¬ (18 ≤ b ∧ b ≤ 19) → ¬ (27 ≤ b ∧ b ≤ 28) → b ≠ 38 → ¬ (54 ≤ b ∧ b < 79) → Eqc S S1 b) : cBase S1 A := by
  obtain ⟨k1, k2, k3, k4, k5, k6, k7, k8⟩ := h
  refine ⟨cTape_fr k1 (hI 1 (by decide)) (hE 5 (by decide) (by decide) (by decide) (by decide) (by decide) (by decide) (by decide) (by decide)), cNum_fr k2 (fun k h1 h2 => hI k (by omega)) h6.1 h6.2, cStr_fr k3 (by rw [hR]) (by rw [hR]) (fun a b ha h1 h2 => ?_), cShip_fr k4 (hI 9 (by decide)) (hE 39 (by decide) (by decide) (by decide) (by decide) (by decide) (by decide) (by decide) (by decide)) (fun b h1 h2 => ?_) hn, cDi_fr k5 (fun b h1 h2 => ?_), cDi_fr k6 (fun b h1 h2 => ?_), cConv_fr k7 (by rw [hR]) (hE 29 (by decide) (by decide) (by decide) (by decide) (by decide) (by decide) (by decide) (by decide)) (fun a b ha h1 h2 => ?_), ?_⟩
  · rcases ha with rfl | rfl <;> exact hE b (by omega) (by omega) (by omega) (by omega) (by omega) (by omega) (by omega) (by omega)
  · exact hE b (by omega) (by omega) (by omega) (by omega) (by omega) (by omega) (by omega) (by omega)
  · exact hE b (by omega) (by omega) (by omega) (by omega) (by omega) (by omega) (by omega) (by omega)
  · exact hE b (by omega) (by omega) (by omega) (by omega) (by omega) (by omega) (by omega) (by omega)
  · rcases ha with rfl | rfl | rfl | rfl | rfl <;> exact hE b (by omega) (by omega) (by omega) (by omega) (by omega) (by omega) (by omega) (by omega)
  · rw [(hE 7 (by decide) (by decide) (by decide) (by decide) (by decide) (by decide) (by decide) (by decide)).2.2.2.2.1]; exact k8
/-- the reference: all of what is told stays -/
theorem mStrAt_fr {b : Nat} (h : mStrAt S A b) (hE : ∀ c, 134 ≤ c → c ≤ 142 → Eqc S S1 c) : mStrAt S1 A b := by
  unfold mStrAt at *
  rw [(hE 134 (by omega) (by omega)).2.2.2.1, (hE 135 (by omega) (by omega)).2.2.2.1, (hE 136 (by omega) (by omega)).2.2.2.1, (hE 137 (by omega) (by omega)).2.2.2.1, (hE 138 (by omega) (by omega)).2.2.2.1, (hE 139 (by omega) (by omega)).2.2.2.1, (hE 140 (by omega) (by omega)).2.2.2.1, (hE 141 (by omega) (by omega)).2.2.2.1, (hE 142 (by omega) (by omega)).2.2.2.2.1]
  exact h
theorem mSeg_fr {s line : Nat} {l : List (Nat × Int32)} (h : mSeg S s line l) (hE : ∀ c, 143 ≤ c → c ≤ 151 → Eqc S S1 c) : mSeg S1 s line l := by
  unfold mSeg at *
  rw [(hE 148 (by omega) (by omega)).2.2.2.1, (hE 149 (by omega) (by omega)).2.2.2.1, (hE 150 (by omega) (by omega)).2.2.2.1, (hE 151 (by omega) (by omega)).2.2.2.1]
  exact h
theorem mCvAt_fr {s : Nat} (h : mCvAt S A s) (hE : ∀ c, 143 ≤ c → c ≤ 151 → Eqc S S1 c) (h156 : Eqc S S1 156) : mCvAt S1 A s := by
  obtain ⟨h1, h2, h3, h4, h5, h6, h7, h8⟩ := h
  unfold mCvAt
  rw [(hE 143 (by omega) (by omega)).2.2.2.1, (hE 147 (by omega) (by omega)).2.2.2.1, (hE 144 (by omega) (by omega)).2.2.2.1, (hE 145 (by omega) (by omega)).2.2.2.1, (hE 146 (by omega) (by omega)).2.2.2.1, h156.2.2.2.1]
  refine ⟨h1, h2, h3, h4, h5, fun i hi => mSeg_fr (h6 i hi) hE, fun i hi => mSeg_fr (h7 i hi) hE, ?_⟩
  rcases h8 with h8 | h8
  · exact Or.inl h8
  · exact Or.inr ⟨h8.1, h8.2.1, mSeg_fr h8.2.2 hE⟩
/-- scratch cells of the reference: text, its reader's piles, questions, results -/
def scrM (b : Nat) : Prop := b = 133 ∨ (152 ≤ b ∧ b ≤ 155) ∨ b = 157 ∨ b = 166 ∨ (174 ≤ b ∧ b ≤ 189) ∨ (195 ≤ b ∧ b ≤ 197) ∨ (199 ≤ b ∧ b ≤ 200)
/-- fields of the reference that tell something -/
def tellM (k : Nat) : Prop := k = 2 ∨ k = 4 ∨ k = 5 ∨ k = 20 ∨ k = 50 ∨ k = 71 ∨ k = 72 ∨ k = 94 ∨ k = 95 ∨ k = 105
theorem mBase_fr (h : mBase S A) (hI : ∀ k, tellM k → ms_I S1 131 k = ms_I S 131 k) (hE : ∀ b, 132 ≤ b → ¬ scrM b → Eqc S S1 b) : mBase S1 A := by
  obtain ⟨k1, k2, k3, k4, k5, k6, k7⟩ := h
  have e : ∀ b, 132 ≤ b → ¬ scrM b → ms_A S1 b = ms_A S b := fun b h1 h2 => (hE b h1 h2).2.2.2.1
  refine ⟨?_, ?_, ?_, ?_, ?_, ?_, fun s hs => mCvAt_fr (k7 s hs) (fun c h1 h2 => hE c (by omega) (by unfold scrM; omega)) (hE 156 (by omega) (by unfold scrM; omega))⟩
  · unfold mTape at *; rw [hI 2 (by simp [tellM]), e 132 (by omega) (by simp [scrM])]; exact k1
  · unfold mNum at *; rw [hI 72 (by simp [tellM]), hI 94 (by simp [tellM]), hI 95 (by simp [tellM]), hI 4 (by simp [tellM]), hI 5 (by simp [tellM])]; exact k2
  · obtain ⟨b, hb, h20, hs⟩ := k3; exact ⟨b, hb, (hI 20 (by simp [tellM])).trans h20, mStrAt_fr hs (fun c h1 h2 => hE c (by omega) (by unfold scrM; omega))⟩
  · refine ⟨(hI 50 (by simp [tellM])).trans k4.1, fun i hi k hk => ?_⟩
    rw [e (158 + k) (by omega) (by unfold scrM; omega)]; exact k4.2 i hi k hk
  · unfold mFact at *
    rw [hI 71 (by simp [tellM]), e 168 (by omega) (by simp [scrM]), e 172 (by omega) (by simp [scrM]), e 167 (by omega) (by simp [scrM]), e 173 (by omega) (by simp [scrM]), e 169 (by omega) (by simp [scrM]), e 170 (by omega) (by simp [scrM]), e 171 (by omega) (by simp [scrM])]; exact k5
  · unfold mSig at *
    rw [hI 105 (by simp [tellM]), e 190 (by omega) (by simp [scrM]), e 192 (by omega) (by simp [scrM]), e 198 (by omega) (by simp [scrM]), e 191 (by omega) (by simp [scrM]), e 193 (by omega) (by simp [scrM]), e 194 (by omega) (by simp [scrM])]; exact k6
end FRM
