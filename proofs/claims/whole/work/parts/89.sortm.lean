/-! passages sorted in the reference; the class's rows wiped -/
section SRM
variable {N : Nat} {A : Ab}
theorem insL_M {f : Nat} {k : Int32} {K : Int32 → Int32 → Int32 → mM Unit} (hn4 : aN A 4 ≤ 200) (hf : f < aN A 4) : ∀ (r : List Nat) (m n : Nat) (S : ms_S), (∀ y ∈ r, y < aN A 4) → (∀ i, i < aN A 4 → ms_A S 168 i = aX A 20 i) → m < 200 → r.length < n → stR (ms_A S 177) m (r.map Int32.ofNat) → ∃ S1 x, f220_L62 N K n k (Int32.ofNat f) (Int32.ofNat m) S = K k (Int32.ofNat f) (Int32.ofNat x) S1 ∧ x ≤ m ∧ stR (ms_A (ms_setA S1 177 x (Int32.ofNat f)) 177) (m + 1) ((insR (gtM A) f r).map Int32.ofNat) ∧ (∀ j, m < j → ms_A S1 177 j = ms_A S 177 j) ∧ ∀ b, b ≠ 177 → Eqc S S1 b := by
  intro r
  induction r with
  | nil =>
    intro m n S hy hD hm hn hst
    have hm0 : m = 0 := hst
    subst hm0
    obtain ⟨n, rfl⟩ : ∃ q, n = q + 1 := ⟨n - 1, by omega⟩
    refine ⟨S, 0, ?_, Nat.le_refl _, ⟨by omega, by simp [mG], rfl⟩, fun _ _ => rfl, fun _ _ => Eqc.rf⟩
    rw [f220_L62, if_pos (by decide)]
  | cons y r ih =>
    intro m n S hy hD hm hn hst
    obtain ⟨n, rfl⟩ : ∃ q, n = q + 1 := ⟨n - 1, by omega⟩
    have hn : r.length + 1 < n + 1 := by simpa using hn
    obtain ⟨h1, h2, h3⟩ := hst
    have hyl := hy y (by simp)
    have c0 : ¬ Int32.ofNat m ≤ 0 := fun q => by have := (ofN_le (i := m) (j := 0) (by omega) (by omega)).1 q; omega
    have e1 : Int32.ofNat m - 1 = Int32.ofNat (m - 1) := ofN_sub (j := 1) h1
    have e2 : Int32.ofNat m + (-1) = Int32.ofNat (m - 1) := by rw [← e1]; clear ih hy h2 h3 hD; grind
    have i1 : inR (Int32.ofNat (m - 1)) 200 := ofN_inR (by omega) (by omega)
    have i2 := ofN_cl (i := m - 1) (by omega)
    have i3 : inR (Int32.ofNat m) 200 := ofN_inR hm (by omega)
    have i4 := ofN_cl (i := m) (by omega)
    have i5 : inR (Int32.ofNat y) 200 := ofN_inR (by omega) (by omega)
    have i6 := ofN_cl (i := y) (by omega)
    have i7 : inR (Int32.ofNat f) 200 := ofN_inR (by omega) (by omega)
    have i8 := ofN_cl (i := f) (by omega)
    rw [f220_L62, if_neg c0]
    simp only [mE, e1, i1, i2, h2, i5, i6, hD y hyl, i7, i8, hD f hf]
    by_cases hg : gtM A y f = true
    · have hlt : aX A 20 y > aX A 20 f := of_decide_eq_true hg
      rw [if_neg (Int32.not_le.mpr hlt)]
      simp only [mE, i1, i2, h2, i3, i4, e2]
      obtain ⟨S1, x, q1, q2, q3, q4, q5⟩ := ih (m - 1) n (ms_setA S 177 m (Int32.ofNat y)) (fun z hz => hy z (by simp [hz])) (fun i hi => by simp only [mG]; rw [if_neg (by omega)]; exact hD i hi) (by omega) (by omega) (by
        refine stR_up _ _ (fun j hj => ?_) h3
        have : j ≠ m := by omega
        simp [mG, this])
      refine ⟨S1, x, q1, by omega, ?_, fun j hj => ?_, fun b hb => (Eqc_A hb).tr (q5 b hb)⟩
      · have ei : insR (gtM A) f (y :: r) = y :: insR (gtM A) f r := by rw [insR, if_pos hg]
        rw [ei]
        refine ⟨by omega, ?_, ?_⟩
        · have hx : m ≠ x := by omega
          show ms_A (ms_setA S1 177 x (Int32.ofNat f)) 177 (m + 1 - 1) = _
          rw [Nat.add_sub_cancel]
          simp only [mG, hx, and_false, if_false]
          rw [q4 m (by omega)]
          simp [mG]
        · rw [Nat.add_sub_cancel]
          rw [show m - 1 + 1 = m by omega] at q3
          exact q3
      · rw [q4 j (by omega)]
        have : j ≠ m := by omega
        simp [mG, this]
    · have hge : aX A 20 y ≤ aX A 20 f := Int32.not_lt.mp (fun q => hg (decide_eq_true q))
      rw [if_pos hge]
      refine ⟨S, m, rfl, Nat.le_refl _, ?_, fun _ _ => rfl, fun _ _ => Eqc.rf⟩
      have ei : insR (gtM A) f (y :: r) = f :: y :: r := by rw [insR, if_neg hg]
      rw [ei]
      refine ⟨by omega, by simp [mG], ?_⟩
      rw [Nat.add_sub_cancel]
      refine stR_up ((y :: r).map Int32.ofNat) m (fun j hj => ?_) ⟨h1, h2, h3⟩
      have : j ≠ m := by omega
      simp [mG, this]
def offS (S S1 : ms_S) : Prop := (∀ k, k ≠ 79 → ms_I S1 131 k = ms_I S 131 k) ∧ ∀ b, b ≠ 131 → ¬ (174 ≤ b ∧ b ≤ 177) → Eqc S S1 b
theorem offS.tr {S S1 S2 : ms_S} (h : offS S S1) (k : offS S1 S2) : offS S S2 := ⟨fun j hj => (k.1 j hj).trans (h.1 j hj), fun b h1 h2 => (h.2 b h1 h2).tr (k.2 b h1 h2)⟩
theorem mFact_off {S S1 : ms_S} (h : mFact S A) (ho : offS S S1) : mFact S1 A := by
  unfold mFact at *
  have e : ∀ b, 167 ≤ b → b ≤ 173 → ms_A S1 b = ms_A S b := fun b h1 h2 => (ho.2 b (by omega) (by omega)).2.2.2.1
  rw [ho.1 71 (by omega), e 168 (by omega) (by omega), e 172 (by omega) (by omega), e 167 (by omega) (by omega), e 173 (by omega) (by omega), e 169 (by omega) (by omega), e 170 (by omega) (by omega), e 171 (by omega) (by omega)]
  exact h
set_option maxHeartbeats 2000000 in
theorem sortL_M {k : Int32} (hN : 300 ≤ N) (hw : WF0 A) : ∀ l i n (S : ms_S), l + i = aN A 4 → l < n → mFact S A → ms_I S 131 79 = Int32.ofNat (ordM A k i).length → stR (ms_A S 177) (ordM A k i).length ((ordM A k i).map Int32.ofNat) → (∀ j, j < i → ms_A S 174 j = -1 ∧ ms_A S 175 j = -1 ∧ ms_A S 176 j = 0) → ∃ S1, f220_L7 N (fun _ _ => mret ()) n k (Int32.ofNat i) S = some ((), S1) ∧ ms_I S1 131 79 = Int32.ofNat (ordM A k (aN A 4)).length ∧ stR (ms_A S1 177) (ordM A k (aN A 4)).length ((ordM A k (aN A 4)).map Int32.ofNat) ∧ (∀ j, j < aN A 4 → ms_A S1 174 j = -1 ∧ ms_A S1 175 j = -1 ∧ ms_A S1 176 j = 0) ∧ offS S S1 := by
  have hn4 : aN A 4 ≤ 200 := hw.1.2.2.2.2.1
  have wf := hw.2.2.2.2.2.2.1
  intro l
  induction l with
  | zero =>
    intro i n S hi hn hd h9 hst hr
    obtain ⟨n, rfl⟩ : ∃ q, n = q + 1 := ⟨n - 1, by omega⟩
    have e : i = aN A 4 := by omega
    subst e
    refine ⟨S, ?_, h9, hst, hr, ⟨fun _ _ => rfl, fun _ _ _ => Eqc.rf⟩⟩
    rw [f220_L7]
    simp only [mE, hd.1]
    rw [if_pos ((ofN_le (by omega) (by omega)).2 (Nat.le_refl _))]
  | succ l ih =>
    intro i n S hi hn hd h9 hst hr
    obtain ⟨n, rfl⟩ : ∃ q, n = q + 1 := ⟨n - 1, by omega⟩
    have hge : ¬ Int32.ofNat i ≥ Int32.ofNat (aN A 4) := fun q => by have := (ofN_le (i := aN A 4) (j := i) (by omega) (by omega)).1 q; omega
    have i1 : inR (Int32.ofNat i) 200 := ofN_inR (by omega) (by omega)
    have i2 := ofN_cl (i := i) (by omega)
    have hu := (wf i (by omega)).2.2.2.2.1
    have o0 : offS S (ms_setA (ms_setA (ms_setA S 174 i (-1)) 175 i (-1)) 176 i 0) := ⟨fun j _ => by simp only [mGo], fun b h1 h2 => ((Eqc_A (by omega)).tr (Eqc_A (by omega))).tr (Eqc_A (by omega))⟩
    have hd0 := mFact_off hd o0
    have hr0 : ∀ j, j < i + 1 → ms_A (ms_setA (ms_setA (ms_setA S 174 i (-1)) 175 i (-1)) 176 i 0) 174 j = -1 ∧ ms_A (ms_setA (ms_setA (ms_setA S 174 i (-1)) 175 i (-1)) 176 i 0) 175 j = -1 ∧ ms_A (ms_setA (ms_setA (ms_setA S 174 i (-1)) 175 i (-1)) 176 i 0) 176 j = 0 := by
      intro j hj
      by_cases hji : j = i
      · subst hji; simp [mG]
      · have := hr j (by omega)
        simp [mG, hji]; exact this
    obtain ⟨g1, g2, _, _, _, g6, g7⟩ := hd0.2 i (by omega)
    have q := q217 (N := N) (S := ms_setA (ms_setA (ms_setA S 174 i (-1)) 175 i (-1)) 176 i 0) (i := i) (k := k) (by omega)
    rw [g6, g7] at q
    have m217 : ∀ {β : Type} {f : Int32 → mM β}, mb (f217 N (Int32.ofNat i) k) f (ms_setA (ms_setA (ms_setA S 174 i (-1)) 175 i (-1)) 176 i 0) = f (if cntA A 20 i k = true then 1 else 0) (ms_setA (ms_setA (ms_setA S 174 i (-1)) 175 i (-1)) 176 i 0) := by
      intro β f
      have e : f217 N (Int32.ofNat i) k (ms_setA (ms_setA (ms_setA S 174 i (-1)) 175 i (-1)) 176 i 0) = some (if cntA A 20 i k = true then 1 else 0, ms_setA (ms_setA (ms_setA S 174 i (-1)) 175 i (-1)) 176 i 0) := by
        rw [q]
        have cc : (aX A 24 i ≤ k ∧ (aX A 25 i < 0 ∨ k < aX A 25 i)) ↔ cntA A 20 i k = true := by
          unfold cntA
          rw [decide_eq_true_eq]
          show _ ↔ aX A 24 i ≤ k ∧ (aX A 25 i = -1 ∨ k < aX A 25 i)
          clear ih hr hst h9 hd hd0 hr0 q
          grind
        by_cases hc : cntA A 20 i k = true
        · rw [if_pos hc, if_pos (cc.2 hc)]
        · rw [if_neg hc, if_neg (fun q => hc (cc.1 q))]
      simp only [mb, e]
    have st0 : stR (ms_A (ms_setA (ms_setA (ms_setA S 174 i (-1)) 175 i (-1)) 176 i 0) 177) (ordM A k i).length ((ordM A k i).map Int32.ofNat) := by
      refine stR_up _ _ (fun j hj => ?_) hst
      simp [mG]
    have h90 : ms_I (ms_setA (ms_setA (ms_setA S 174 i (-1)) 175 i (-1)) 176 i 0) 131 79 = Int32.ofNat (ordM A k i).length := by simp only [mGo]; exact h9
    rw [f220_L7]
    simp only [mE, hd.1, if_neg hge, i1, i2, g2]
    have skip : ordM A k (i + 1) = ordM A k i → ∃ S1, f220_L7 N (fun _ _ => mret ()) n k (Int32.ofNat (i + 1)) (ms_setA (ms_setA (ms_setA S 174 i (-1)) 175 i (-1)) 176 i 0) = some ((), S1) ∧ ms_I S1 131 79 = Int32.ofNat (ordM A k (aN A 4)).length ∧ stR (ms_A S1 177) (ordM A k (aN A 4)).length ((ordM A k (aN A 4)).map Int32.ofNat) ∧ (∀ j, j < aN A 4 → ms_A S1 174 j = -1 ∧ ms_A S1 175 j = -1 ∧ ms_A S1 176 j = 0) ∧ offS S S1 := by
      intro eo
      obtain ⟨S2, e2, u1, u2, u3, u4⟩ := ih (i + 1) n _ (by omega) (by omega) hd0 (by rw [eo]; exact h90) (by rw [eo]; exact st0) hr0
      exact ⟨S2, e2, u1, u2, u3, o0.tr u4⟩
    by_cases hp : aX A 21 i = -1
    · rw [if_pos hp, if_pos rfl, ofN_s]
      exact skip (by rw [ordM, if_neg]; intro q; have := of_decide_eq_true q.2; exact this hp)
    · rw [if_neg hp, if_neg (by decide), m217]
      have hps : isPs A i = true := decide_eq_true hp
      by_cases hc : cntA A 20 i k = true
      · rw [if_pos hc, if_pos (by decide)]
        simp only [mE, h90]
        have hlen := ordM_len (A := A) (k := k) i
        obtain ⟨S1, x, q1, q2, q3, q4, q5⟩ := insL_M (N := N) (A := A) (f := i) (k := k) (K := fun (x1 : Int32) (x2 : Int32) (x3 : Int32) => (mb (sA 177 200 x3 x2) fun _ => mb (gI 131 79) fun v23 => mb (pI 131 79 (v23 + 1)) fun _ => f220_L7 N (fun _ _ => mret ()) n x1 (x2 + 1))) hn4 (by omega) (ordM A k i) (ordM A k i).length N (ms_setA (ms_setA (ms_setA S 174 i (-1)) 175 i (-1)) 176 i 0) (fun y hy => by have := ordM_lt i y hy; omega) (fun j hj => (hd0.2 j hj).1) (by omega) (by omega) st0
        have eo : ordM A k (i + 1) = insR (gtM A) i (ordM A k i) := by rw [ordM, if_pos ⟨hc, hps⟩]
        have el : (ordM A k (i + 1)).length = (ordM A k i).length + 1 := by rw [eo, insR_len]
        have o1 : offS (ms_setA (ms_setA (ms_setA S 174 i (-1)) 175 i (-1)) 176 i 0) (ms_setI (ms_setA S1 177 x (Int32.ofNat i)) 131 79 (Int32.ofNat ((ordM A k i).length + 1))) := ⟨fun j hj => by
          simp only [mG, mGo, hj, and_false, if_false]
          rw [(q5 131 (by decide)).1]; simp only [mGo], fun b h1 h2 => ((q5 b (by omega)).tr (Eqc_A (by omega))).tr (Eqc_I h1)⟩
        obtain ⟨S2, e2, u1, u2, u3, u4⟩ := ih (i + 1) n (ms_setI (ms_setA S1 177 x (Int32.ofNat i)) 131 79 (Int32.ofNat ((ordM A k i).length + 1))) (by omega) (by omega) (mFact_off hd0 o1) (by rw [el]; simp [mG]) (by rw [el, eo]; simpa only [mGo] using q3) (fun j hj => by
          have a1 : ms_A (ms_setI (ms_setA S1 177 x (Int32.ofNat i)) 131 79 (Int32.ofNat ((ordM A k i).length + 1))) 174 = ms_A (ms_setA (ms_setA (ms_setA S 174 i (-1)) 175 i (-1)) 176 i 0) 174 := (((q5 174 (by decide)).tr (Eqc_A (by decide))).tr (Eqc_I (by decide))).2.2.2.1
          have a2 : ms_A (ms_setI (ms_setA S1 177 x (Int32.ofNat i)) 131 79 (Int32.ofNat ((ordM A k i).length + 1))) 175 = ms_A (ms_setA (ms_setA (ms_setA S 174 i (-1)) 175 i (-1)) 176 i 0) 175 := (((q5 175 (by decide)).tr (Eqc_A (by decide))).tr (Eqc_I (by decide))).2.2.2.1
          have a3 : ms_A (ms_setI (ms_setA S1 177 x (Int32.ofNat i)) 131 79 (Int32.ofNat ((ordM A k i).length + 1))) 176 = ms_A (ms_setA (ms_setA (ms_setA S 174 i (-1)) 175 i (-1)) 176 i 0) 176 := (((q5 176 (by decide)).tr (Eqc_A (by decide))).tr (Eqc_I (by decide))).2.2.2.1
          rw [a1, a2, a3]; exact hr0 j hj)
        refine ⟨S2, ?_, u1, u2, u3, o0.tr (o1.tr u4)⟩
        refine Eq.trans q1 ?_
        have i3 : inR (Int32.ofNat x) 200 := ofN_inR (by omega) (by omega)
        have h91 : ms_I S1 131 79 = Int32.ofNat (ordM A k i).length := by rw [(q5 131 (by decide)).1]; exact h90
        simp only [mE, i3, ofN_cl (i := x) (by omega), mGo, h91, ofN_s]
        exact e2
      · rw [if_neg hc, if_neg (by simp), ofN_s]
        exact skip (by rw [ordM, if_neg (fun q => hc q.1)])
theorem q220 {k : Int32} {S : ms_S} (hN : 300 ≤ N) (hw : WF0 A) (hd : mFact S A) : ∃ S1, f220 N k S = some ((), S1) ∧ ms_I S1 131 79 = Int32.ofNat (ordM A k (aN A 4)).length ∧ stR (ms_A S1 177) (ordM A k (aN A 4)).length ((ordM A k (aN A 4)).map Int32.ofNat) ∧ (∀ j, j < aN A 4 → ms_A S1 174 j = -1 ∧ ms_A S1 175 j = -1 ∧ ms_A S1 176 j = 0) ∧ offS S S1 := by
  have hn4 : aN A 4 ≤ 200 := hw.1.2.2.2.2.1
  have o0 : offS S (ms_setI S 131 79 0) := ⟨fun j hj => by simp [mG, hj], fun b h1 _ => Eqc_I h1⟩
  obtain ⟨S1, e1, r1, r2, r3, r4⟩ := sortL_M (N := N) (A := A) (k := k) hN hw (aN A 4) 0 N (ms_setI S 131 79 0) (by omega) (by omega) (mFact_off hd o0) (by simp [mG]; rfl) rfl (fun j hj => absurd hj (by omega))
  refine ⟨S1, ?_, r1, r2, r3, o0.tr r4⟩
  unfold f220
  simp only [mE]
  exact e1
/-! the class: forget, all south -/
theorem forgetL : ∀ m i n (S : ms_S), m + i = 200 → m < n → (∀ j, j < i → ms_A S 59 j = -1 ∧ ms_A S 60 j = -1 ∧ ms_A S 61 j = -1) → ∃ S1, f40_L2 N (fun _ => mret ()) n (Int32.ofNat i) S = some ((), S1) ∧ (∀ j, j < 200 → ms_A S1 59 j = -1 ∧ ms_A S1 60 j = -1 ∧ ms_A S1 61 j = -1) ∧ ∀ b, ¬ (59 ≤ b ∧ b ≤ 61) → Eqc S S1 b := by
  intro m
  induction m with
  | zero =>
    intro i n S hi hn h
    obtain ⟨n, rfl⟩ : ∃ q, n = q + 1 := ⟨n - 1, by omega⟩
    have e : i = 200 := by omega
    subst e
    refine ⟨S, ?_, h, fun _ _ => Eqc.rf⟩
    rw [f40_L2, if_pos (by decide)]; rfl
  | succ m ih =>
    intro i n S hi hn h
    obtain ⟨n, rfl⟩ : ∃ q, n = q + 1 := ⟨n - 1, by omega⟩
    have c200 : ¬ Int32.ofNat i ≥ 200 := fun q => by
      rw [l200] at q
      have := (ofN_le (i := 200) (j := i) (by omega) (by omega)).1 q
      omega
    have i1 : inR (Int32.ofNat i) 200 := ofN_inR (by omega) (by omega)
    have i2 := ofN_cl (i := i) (by omega)
    obtain ⟨S1, e1, r1, k1⟩ := ih (i + 1) n (ms_setA (ms_setA (ms_setA S 59 i (-1)) 60 i (-1)) 61 i (-1)) (by omega) (by omega) (fun j hj => by
      by_cases hji : j = i
      · subst hji; simp [mG]
      · have := h j (by omega)
        simp [mG, hji]; exact this)
    refine ⟨S1, ?_, r1, fun b hb => (((Eqc_A (by omega)).tr (Eqc_A (by omega))).tr (Eqc_A (by omega))).tr (k1 b hb)⟩
    rw [f40_L2, if_neg c200]
    simp only [mE, i1, i2, ofN_s]; exact e1
theorem southL : ∀ m i n (S : ms_S), m + i = 20 → m < n → (∀ j, j < i → ms_A S 62 j = 0 ∧ ms_A S 63 j = 0) → ∃ S1, f41_L2 N (fun _ => mret ()) n (Int32.ofNat i) S = some ((), S1) ∧ (∀ j, j < 20 → ms_A S1 62 j = 0 ∧ ms_A S1 63 j = 0) ∧ ∀ b, ¬ (62 ≤ b ∧ b ≤ 63) → Eqc S S1 b := by
  intro m
  induction m with
  | zero =>
    intro i n S hi hn h
    obtain ⟨n, rfl⟩ : ∃ q, n = q + 1 := ⟨n - 1, by omega⟩
    have e : i = 20 := by omega
    subst e
    refine ⟨S, ?_, h, fun _ _ => Eqc.rf⟩
    rw [f41_L2, if_pos (by decide)]; rfl
  | succ m ih =>
    intro i n S hi hn h
    obtain ⟨n, rfl⟩ : ∃ q, n = q + 1 := ⟨n - 1, by omega⟩
    have c20 : ¬ Int32.ofNat i ≥ 20 := fun q => by have := (ofN_le (i := 20) (j := i) (by omega) (by omega)).1 q; omega
    have i1 : inR (Int32.ofNat i) 20 := ofN_inR (by omega) (by omega)
    have i2 := ofN_cl (i := i) (by omega)
    obtain ⟨S1, e1, r1, k1⟩ := ih (i + 1) n (ms_setA (ms_setA S 62 i 0) 63 i 0) (by omega) (by omega) (fun j hj => by
      by_cases hji : j = i
      · subst hji; simp [mG]
      · have := h j (by omega)
        simp [mG, hji]; exact this)
    refine ⟨S1, ?_, r1, fun b hb => ((Eqc_A (by omega)).tr (Eqc_A (by omega))).tr (k1 b hb)⟩
    rw [f41_L2, if_neg c20]
    simp only [mE, i1, i2, vpb (Or.inl rfl), ofN_s]; exact e1
theorem q40 {S : ms_S} (hN : 300 ≤ N) : ∃ S1, f40 N S = some ((), S1) ∧ (∀ j, j < 200 → ms_A S1 59 j = -1 ∧ ms_A S1 60 j = -1 ∧ ms_A S1 61 j = -1) ∧ ∀ b, ¬ (59 ≤ b ∧ b ≤ 61) → Eqc S S1 b := forgetL 200 0 N S (by omega) (by omega) (fun j hj => absurd hj (by omega))
theorem q41 {S : ms_S} (hN : 300 ≤ N) : ∃ S1, f41 N S = some ((), S1) ∧ (∀ j, j < 20 → ms_A S1 62 j = 0 ∧ ms_A S1 63 j = 0) ∧ ∀ b, ¬ (62 ≤ b ∧ b ≤ 63) → Eqc S S1 b := southL 20 0 N S (by omega) (by omega) (fun j hj => absurd hj (by omega))
end SRM
