/-! the same cells, another house: what each piece hangs on -/
section ABC
variable {S S1 : ms_S} {A A1 : Ab}
theorem cTape_ab (h : cTape S A) (hN : aN A1 0 = aN A 0) (hX : aX A1 0 = aX A 0) : cTape S A1 := by
  unfold cTape at *; rw [hN, hX]; exact h
theorem cNum_ab (h : cNum S A) (hX : ∀ k, k < 5 → aX A1 40 k = aX A 40 k) : cNum S A1 := by
  unfold cNum at *; rw [hX 0 (by omega), hX 1 (by omega), hX 2 (by omega), hX 3 (by omega), hX 4 (by omega)]; exact h
theorem cStr_ab (h : cStr S A) (h1 : aN A1 1 = aN A 1) (h2 : aN A1 2 = aN A 2) (hX : ∀ q, 1 ≤ q → q ≤ 5 → aX A1 q = aX A q) (h5 : aX A1 40 5 = aX A 40 5) (hM : aM A1 = aM A) : cStr S A1 := by
  unfold cStr cStrAt at *
  rw [h1, h2, hX 1 (by omega) (by omega), hX 2 (by omega) (by omega), hX 3 (by omega) (by omega), hX 4 (by omega) (by omega), hX 5 (by omega) (by omega), h5, hM]
  exact h
theorem cShip_ab (h : cShip S A) (h1 : aN A1 3 = aN A 3) (hX : ∀ q, 10 ≤ q → q ≤ 17 → aX A1 q = aX A q) (h5 : aX A1 5 = aX A 5) : cShip S A1 := by
  obtain ⟨k1, k2, k3⟩ := h
  refine ⟨by rw [h1]; exact k1, k2, fun i hi => ?_⟩
  rw [h1] at hi
  refine ⟨fun k hk => ?_, ?_⟩
  · rw [hX (10 + k) (by omega) (by omega)]; exact (k3 i hi).1 k hk
  · rw [hX 10 (by omega) (by omega), h5]; exact (k3 i hi).2
theorem cDi_ab {a c r : Nat} (h : cDi S A a c r) (h1 : aN A1 c = aN A c) (hX : ∀ q, r ≤ q → q ≤ r + 5 → aX A1 q = aX A q) : cDi S A1 a c r := by
  unfold cDi at *
  rw [h1, hX r (by omega) (by omega), hX (r + 1) (by omega) (by omega), hX (r + 2) (by omega) (by omega), hX (r + 3) (by omega) (by omega), hX (r + 4) (by omega) (by omega), hX (r + 5) (by omega) (by omega)]
  exact h
theorem cCvAt_ab {a s : Nat} (h : cCvAt S A a s) (hN : aN A1 (10 + s) = aN A (10 + s) ∧ aN A1 (20 + s) = aN A (20 + s)) (hX : aX A1 (50 + s) = aX A (50 + s) ∧ aX A1 (60 + s) = aX A (60 + s)) (hE : aE A1 s = aE A s) : cCvAt S A1 a s := by
  unfold cCvAt at *
  rw [hN.1, hN.2, hX.1, hX.2, hE]
  exact h
theorem cConv_ab (h : cConv S A) (hN : ∀ k, (10 ≤ k ∧ k < 14) ∨ (20 ≤ k ∧ k < 24) → aN A1 k = aN A k) (hX : ∀ q, 50 ≤ q → q < 64 → aX A1 q = aX A q) (hE : aE A1 = aE A) : cConv S A1 := by
  obtain ⟨p, k1, k2, k3, k4⟩ := h
  exact ⟨p, k1, k2, k3, fun s hs => ⟨(k4 s hs).1, cCvAt_ab (k4 s hs).2 ⟨hN _ (by omega), hN _ (by omega)⟩ ⟨hX _ (by omega) (by omega), hX _ (by omega) (by omega)⟩ (by rw [hE])⟩⟩
theorem mTape_ab (h : mTape S A) (hN : aN A1 0 = aN A 0) (hX : aX A1 0 = aX A 0) : mTape S A1 := by
  unfold mTape at *; rw [hN, hX]; exact h
theorem mNum_ab (h : mNum S A) (hX : ∀ k, k < 5 → aX A1 40 k = aX A 40 k) : mNum S A1 := by
  unfold mNum at *; rw [hX 0 (by omega), hX 1 (by omega), hX 2 (by omega), hX 3 (by omega), hX 4 (by omega)]; exact h
theorem mStr_ab (h : mStr S A) (h1 : aN A1 1 = aN A 1) (h2 : aN A1 2 = aN A 2) (hX : ∀ q, 1 ≤ q → q ≤ 5 → aX A1 q = aX A q) (h5 : aX A1 40 5 = aX A 40 5) (hM : aM A1 = aM A) : mStr S A1 := by
  unfold mStr mStrAt at *
  rw [h1, h2, hX 1 (by omega) (by omega), hX 2 (by omega) (by omega), hX 3 (by omega) (by omega), hX 4 (by omega) (by omega), hX 5 (by omega) (by omega), h5, hM]
  exact h
theorem mShip_ab (h : mShip S A) (h1 : aN A1 3 = aN A 3) (hX : ∀ q, 10 ≤ q → q ≤ 17 → aX A1 q = aX A q) : mShip S A1 := by
  obtain ⟨k1, k3⟩ := h
  refine ⟨by rw [h1]; exact k1, fun i hi k hk => ?_⟩
  rw [h1] at hi
  rw [hX (10 + k) (by omega) (by omega)]; exact k3 i hi k hk
theorem mFact_ab (h : mFact S A) (h1 : aN A1 4 = aN A 4) (hX : ∀ q, 20 ≤ q → q ≤ 25 → aX A1 q = aX A q) : mFact S A1 := by
  unfold mFact at *
  rw [h1, hX 20 (by omega) (by omega), hX 21 (by omega) (by omega), hX 22 (by omega) (by omega), hX 23 (by omega) (by omega), hX 24 (by omega) (by omega), hX 25 (by omega) (by omega)]
  exact h
theorem mSig_ab (h : mSig S A) (h1 : aN A1 5 = aN A 5) (hX : ∀ q, 30 ≤ q → q ≤ 35 → aX A1 q = aX A q) : mSig S A1 := by
  unfold mSig at *
  rw [h1, hX 30 (by omega) (by omega), hX 31 (by omega) (by omega), hX 32 (by omega) (by omega), hX 33 (by omega) (by omega), hX 34 (by omega) (by omega), hX 35 (by omega) (by omega)]
  exact h
theorem mCvAt_ab {s : Nat} (h : mCvAt S A s) (hN : aN A1 (10 + s) = aN A (10 + s) ∧ aN A1 (20 + s) = aN A (20 + s)) (hX : aX A1 (50 + s) = aX A (50 + s) ∧ aX A1 (60 + s) = aX A (60 + s)) (hE : aE A1 s = aE A s) : mCvAt S A1 s := by
  unfold mCvAt at *
  rw [hN.1, hN.2, hX.1, hX.2, hE]
  exact h
/-- two houses that differ in rows P and counts Q alone -/
def AbQ (P Q : Nat → Prop) (A A1 : Ab) : Prop := (∀ k, ¬ Q k → aN A1 k = aN A k) ∧ (∀ q, ¬ P q → aX A1 q = aX A q) ∧ aM A1 = aM A ∧ aE A1 = aE A
/-- a step of the class that changes cells 4 (given fields) and a range lo .. hi, and one piece -/
theorem cB_di {a c r : Nat} (h : cBase S A) (hac : (a = 40 ∧ c = 4 ∧ r = 20) ∨ (a = 47 ∧ c = 5 ∧ r = 30)) (hn : aN A 3 ≤ 20) (hq : AbQ (fun q => r ≤ q ∧ q ≤ r + 5) (fun k => k = c) A A1) (hI : ∀ k, k ≠ 20 → ms_I S1 4 k = ms_I S 4 k) (hR : ms_R S1 4 = ms_R S 4) (hE : ∀ b, b ≠ 4 → ¬ (a ≤ b ∧ b ≤ a + 6) → Eqc S S1 b) (hd : cDi S1 A1 a c r) : cBase S1 A1 := by
  obtain ⟨k1, k2, k3, k4, k5, k6, k7, k8⟩ := h
  obtain ⟨qN, qX, qM, qE⟩ := hq
  have e6 := (hE 6 (by omega) (by omega)).1
  refine ⟨cTape_ab (cTape_fr k1 (hI 1 (by omega)) (hE 5 (by omega) (by omega))) (qN 0 (by omega)) (qX 0 (by omega)), cNum_ab (cNum_fr k2 (fun k h1 h2 => hI k (by omega)) (by rw [e6]) (by rw [e6])) (fun k hk => by rw [qX 40 (by omega)]), cStr_ab (cStr_fr k3 (by rw [hR]) (by rw [hR]) (fun a1 b ha h1 h2 => ?_)) (qN 1 (by omega)) (qN 2 (by omega)) (fun q h1 h2 => qX q (by omega)) (by rw [qX 40 (by omega)]) qM, cShip_ab (cShip_fr k4 (hI 9 (by omega)) (hE 39 (by omega) (by omega)) (fun b h1 h2 => hE b (by omega) (by omega)) hn) (qN 3 (by omega)) (fun q h1 h2 => qX q (by omega)) (qX 5 (by omega)), ?_, ?_, cConv_ab (cConv_fr k7 (by rw [hR]) (hE 29 (by omega) (by omega)) (fun a1 b ha h1 h2 => ?_)) (fun k hk => qN k (by omega)) (fun q h1 h2 => qX q (by omega)) qE, by rw [(hE 7 (by omega) (by omega)).2.2.2.2.1]; exact k8⟩
  · rcases ha with rfl | rfl <;> exact hE b (by omega) (by omega)
  · rcases hac with ⟨rfl, rfl, rfl⟩ | ⟨rfl, rfl, rfl⟩
    · exact hd
    · exact cDi_ab (cDi_fr k5 (fun b h1 h2 => hE b (by omega) (by omega))) (qN 4 (by omega)) (fun q h1 h2 => qX q (by omega))
  · rcases hac with ⟨rfl, rfl, rfl⟩ | ⟨rfl, rfl, rfl⟩
    · exact cDi_ab (cDi_fr k6 (fun b h1 h2 => hE b (by omega) (by omega))) (qN 5 (by omega)) (fun q h1 h2 => qX q (by omega))
    · exact hd
  · rcases ha with rfl | rfl | rfl | rfl | rfl <;> exact hE b (by omega) (by omega)
theorem cB_num (h : cBase S A) (hn : aN A 3 ≤ 20) (hq : AbQ (fun q => q = 40) (fun k => k = 99) A A1) (h5 : aX A1 40 5 = aX A 40 5) (hI : ∀ k, k ≠ 20 → ¬ (17 ≤ k ∧ k ≤ 19) → ms_I S1 4 k = ms_I S 4 k) (hR : ms_R S1 4 = ms_R S 4) (hE : ∀ b, b ≠ 4 → Eqc S S1 b) (hd : cNum S1 A1) : cBase S1 A1 := by
  obtain ⟨k1, k2, k3, k4, k5, k6, k7, k8⟩ := h
  obtain ⟨qN, qX, qM, qE⟩ := hq
  refine ⟨cTape_ab (cTape_fr k1 (hI 1 (by omega) (by omega)) (hE 5 (by omega))) (qN 0 (by omega)) (qX 0 (by omega)), hd, cStr_ab (cStr_fr k3 (by rw [hR]) (by rw [hR]) (fun a1 b ha h1 h2 => ?_)) (qN 1 (by omega)) (qN 2 (by omega)) (fun q h1 h2 => qX q (by omega)) h5 qM, cShip_ab (cShip_fr k4 (hI 9 (by omega) (by omega)) (hE 39 (by omega)) (fun b h1 h2 => hE b (by omega)) hn) (qN 3 (by omega)) (fun q h1 h2 => qX q (by omega)) (qX 5 (by omega)), cDi_ab (cDi_fr k5 (fun b h1 h2 => hE b (by omega))) (qN 4 (by omega)) (fun q h1 h2 => qX q (by omega)), cDi_ab (cDi_fr k6 (fun b h1 h2 => hE b (by omega))) (qN 5 (by omega)) (fun q h1 h2 => qX q (by omega)), cConv_ab (cConv_fr k7 (by rw [hR]) (hE 29 (by omega)) (fun a1 b ha h1 h2 => ?_)) (fun k hk => qN k (by omega)) (fun q h1 h2 => qX q (by omega)) qE, by rw [(hE 7 (by omega)).2.2.2.2.1]; exact k8⟩
  · rcases ha with rfl | rfl <;> exact hE b (by omega)
  · rcases ha with rfl | rfl | rfl | rfl | rfl <;> exact hE b (by omega)
theorem cB_tape (h : cBase S A) (hn : aN A 3 ≤ 20) (hq : AbQ (fun q => q = 0) (fun k => k = 0) A A1) (hI : ∀ k, k ≠ 1 → ms_I S1 4 k = ms_I S 4 k) (hR : ms_R S1 4 = ms_R S 4) (hE : ∀ b, b ≠ 4 → b ≠ 5 → Eqc S S1 b) (hd : cTape S1 A1) : cBase S1 A1 := by
  obtain ⟨k1, k2, k3, k4, k5, k6, k7, k8⟩ := h
  obtain ⟨qN, qX, qM, qE⟩ := hq
  have e6 := (hE 6 (by omega) (by omega)).1
  refine ⟨hd, cNum_ab (cNum_fr k2 (fun k h1 h2 => hI k (by omega)) (by rw [e6]) (by rw [e6])) (fun k hk => by rw [qX 40 (by omega)]), cStr_ab (cStr_fr k3 (by rw [hR]) (by rw [hR]) (fun a1 b ha h1 h2 => ?_)) (qN 1 (by omega)) (qN 2 (by omega)) (fun q h1 h2 => qX q (by omega)) (by rw [qX 40 (by omega)]) qM, cShip_ab (cShip_fr k4 (hI 9 (by omega)) (hE 39 (by omega) (by omega)) (fun b h1 h2 => hE b (by omega) (by omega)) hn) (qN 3 (by omega)) (fun q h1 h2 => qX q (by omega)) (qX 5 (by omega)), cDi_ab (cDi_fr k5 (fun b h1 h2 => hE b (by omega) (by omega))) (qN 4 (by omega)) (fun q h1 h2 => qX q (by omega)), cDi_ab (cDi_fr k6 (fun b h1 h2 => hE b (by omega) (by omega))) (qN 5 (by omega)) (fun q h1 h2 => qX q (by omega)), cConv_ab (cConv_fr k7 (by rw [hR]) (hE 29 (by omega) (by omega)) (fun a1 b ha h1 h2 => ?_)) (fun k hk => qN k (by omega)) (fun q h1 h2 => qX q (by omega)) qE, by rw [(hE 7 (by omega) (by omega)).2.2.2.2.1]; exact k8⟩
  · rcases ha with rfl | rfl <;> exact hE b (by omega) (by omega)
  · rcases ha with rfl | rfl | rfl | rfl | rfl <;> exact hE b (by omega) (by omega)
theorem cB_ship (h : cBase S A) (hq : AbQ (fun q => 10 ≤ q ∧ q ≤ 17) (fun k => k = 3) A A1) (hI : ∀ k, k ≠ 9 → k ≠ 20 → ms_I S1 4 k = ms_I S 4 k) (hR : ms_R S1 4 = ms_R S 4) (hE : ∀ b, b ≠ 4 → ¬ (111 ≤ b ∧ b < 131) → Eqc S S1 b) (hd : cShip S1 A1) : cBase S1 A1 := by
  obtain ⟨k1, k2, k3, k4, k5, k6, k7, k8⟩ := h
  obtain ⟨qN, qX, qM, qE⟩ := hq
  have e6 := (hE 6 (by omega) (by omega)).1
  refine ⟨cTape_ab (cTape_fr k1 (hI 1 (by omega) (by omega)) (hE 5 (by omega) (by omega))) (qN 0 (by omega)) (qX 0 (by omega)), cNum_ab (cNum_fr k2 (fun k h1 h2 => hI k (by omega) (by omega)) (by rw [e6]) (by rw [e6])) (fun k hk => by rw [qX 40 (by omega)]), cStr_ab (cStr_fr k3 (by rw [hR]) (by rw [hR]) (fun a1 b ha h1 h2 => ?_)) (qN 1 (by omega)) (qN 2 (by omega)) (fun q h1 h2 => qX q (by omega)) (by rw [qX 40 (by omega)]) qM, hd, cDi_ab (cDi_fr k5 (fun b h1 h2 => hE b (by omega) (by omega))) (qN 4 (by omega)) (fun q h1 h2 => qX q (by omega)), cDi_ab (cDi_fr k6 (fun b h1 h2 => hE b (by omega) (by omega))) (qN 5 (by omega)) (fun q h1 h2 => qX q (by omega)), cConv_ab (cConv_fr k7 (by rw [hR]) (hE 29 (by omega) (by omega)) (fun a1 b ha h1 h2 => ?_)) (fun k hk => qN k (by omega)) (fun q h1 h2 => qX q (by omega)) qE, by rw [(hE 7 (by omega) (by omega)).2.2.2.2.1]; exact k8⟩
  · rcases ha with rfl | rfl <;> exact hE b (by omega) (by omega)
  · rcases ha with rfl | rfl | rfl | rfl | rfl <;> exact hE b (by omega) (by omega)
/-- the reference: a step that changes cells P, fields F, rows and counts of one piece -/
theorem mB_gen {PX PN F P : Nat → Prop} (h : mBase S A) (hq : AbQ PX PN A A1) (hI : ∀ k, ¬ F k → ms_I S1 131 k = ms_I S 131 k) (hE : ∀ b, 132 ≤ b → ¬ P b → Eqc S S1 b)
    (t : (¬ PX 0 ∧ ¬ PN 0 ∧ ¬ F 2 ∧ ¬ P 132) ∨ mTape S1 A1) (n : (¬ PX 40 ∧ ¬ F 72 ∧ ¬ F 94 ∧ ¬ F 95 ∧ ¬ F 4 ∧ ¬ F 5) ∨ mNum S1 A1) (st : ¬ PN 1 ∧ ¬ PN 2 ∧ (∀ q, 1 ≤ q → q ≤ 5 → ¬ PX q) ∧ ¬ F 20 ∧ ∀ c, 134 ≤ c → c ≤ 142 → ¬ P c) (h5 : aX A1 40 5 = aX A 40 5)
    (sh : ((∀ q, 10 ≤ q → q ≤ 17 → ¬ PX q) ∧ ¬ PN 3 ∧ ¬ F 50 ∧ ∀ c, 158 ≤ c → c ≤ 165 → ¬ P c) ∨ mShip S1 A1)
    (fa : ((∀ q, 20 ≤ q → q ≤ 25 → ¬ PX q) ∧ ¬ PN 4 ∧ ¬ F 71 ∧ ∀ c, 167 ≤ c → c ≤ 173 → ¬ P c) ∨ mFact S1 A1)
    (si : ((∀ q, 30 ≤ q → q ≤ 35 → ¬ PX q) ∧ ¬ PN 5 ∧ ¬ F 105 ∧ ∀ c, 190 ≤ c → c ≤ 198 → ¬ P c) ∨ mSig S1 A1)
    (cv : (∀ q, 50 ≤ q → q < 64 → ¬ PX q) ∧ (∀ k, (10 ≤ k ∧ k < 14) ∨ (20 ≤ k ∧ k < 24) → ¬ PN k) ∧ (∀ c, 143 ≤ c → c ≤ 151 → ¬ P c) ∧ ¬ P 156) : mBase S1 A1 := by
  obtain ⟨k1, k2, k3, k4, k5, k6, k7⟩ := h
  obtain ⟨qN, qX, qM, qE⟩ := hq
  have e : ∀ b, 132 ≤ b → ¬ P b → ms_A S1 b = ms_A S b := fun b h1 h2 => (hE b h1 h2).2.2.2.1
  refine ⟨?_, ?_, ?_, ?_, ?_, ?_, fun s hs => ?_⟩
  · rcases t with ⟨t1, t2, t3, t4⟩ | t
    · refine mTape_ab ?_ (qN 0 t2) (qX 0 t1)
      unfold mTape at *; rw [hI 2 t3, e 132 (by omega) t4]; exact k1
    · exact t
  · rcases n with ⟨t1, t2, t3, t4, t5, t6⟩ | t
    · refine mNum_ab (A := A) ?_ (fun k _ => by rw [qX 40 t1])
      unfold mNum at *; rw [hI 72 t2, hI 94 t3, hI 95 t4, hI 4 t5, hI 5 t6]; exact k2
    · exact t
  · obtain ⟨t1, t2, t3, t4, t5⟩ := st
    refine mStr_ab ?_ (qN 1 t1) (qN 2 t2) (fun q h1 h2 => qX q (t3 q h1 h2)) h5 qM
    obtain ⟨b, hb, h20, hs⟩ := k3; exact ⟨b, hb, (hI 20 t4).trans h20, mStrAt_fr hs (fun c h1 h2 => hE c (by omega) (t5 c h1 h2))⟩
  · rcases sh with ⟨t1, t2, t3, t4⟩ | t
    · refine mShip_ab ?_ (qN 3 t2) (fun q h1 h2 => qX q (t1 q h1 h2))
      refine ⟨(hI 50 t3).trans k4.1, fun i hi k hk => ?_⟩
      rw [e (158 + k) (by omega) (t4 _ (by omega) (by omega))]; exact k4.2 i hi k hk
    · exact t
  · rcases fa with ⟨t1, t2, t3, t4⟩ | t
    · refine mFact_ab ?_ (qN 4 t2) (fun q h1 h2 => qX q (t1 q h1 h2))
      unfold mFact at *
      rw [hI 71 t3, e 168 (by omega) (t4 _ (by omega) (by omega)), e 172 (by omega) (t4 _ (by omega) (by omega)), e 167 (by omega) (t4 _ (by omega) (by omega)), e 173 (by omega) (t4 _ (by omega) (by omega)), e 169 (by omega) (t4 _ (by omega) (by omega)), e 170 (by omega) (t4 _ (by omega) (by omega)), e 171 (by omega) (t4 _ (by omega) (by omega))]; exact k5
    · exact t
  · rcases si with ⟨t1, t2, t3, t4⟩ | t
    · refine mSig_ab ?_ (qN 5 t2) (fun q h1 h2 => qX q (t1 q h1 h2))
      unfold mSig at *
      rw [hI 105 t3, e 190 (by omega) (t4 _ (by omega) (by omega)), e 192 (by omega) (t4 _ (by omega) (by omega)), e 198 (by omega) (t4 _ (by omega) (by omega)), e 191 (by omega) (t4 _ (by omega) (by omega)), e 193 (by omega) (t4 _ (by omega) (by omega)), e 194 (by omega) (t4 _ (by omega) (by omega))]; exact k6
    · exact t
  · obtain ⟨t1, t2, t3, t4⟩ := cv
    exact mCvAt_ab (mCvAt_fr (k7 s hs) (fun c h1 h2 => hE c (by omega) (t3 c h1 h2)) (hE 156 (by omega) t4)) ⟨qN _ (t2 _ (by omega)), qN _ (t2 _ (by omega))⟩ ⟨qX _ (t1 _ (by omega) (by omega)), qX _ (t1 _ (by omega) (by omega))⟩ (by rw [qE])
end ABC
