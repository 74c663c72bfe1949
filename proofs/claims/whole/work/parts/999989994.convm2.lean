/-! convention: the reference, the call -/
section CVM2
variable {N : Nat} {S : ms_S} {A : Ab}
theorem lnA_len : (lnA A).length = aN A 2 := by unfold lnA; rw [List.length_map, List.length_range']
theorem lnA_get {i : Nat} (hi : i < aN A 2) : (lnA A).getD i [] = aM A i := by
  unfold lnA
  rw [List.getD_eq_getElem?_getD, List.getElem?_map, List.getElem?_range' hi]
  simp
theorem cvQ_eq : cvQ A = cvR (aX A 0) (aN A 0) (lnA A) (tkN (aX A 0) (aN A 0)) w0 := rfl
theorem lnA_ltw (hw : WF0 A) {i : Nat} (hi : i < aN A 2) : ltw (aM A i) := by
  obtain ⟨_, h1, h2, h3⟩ := hw.2.2.2.2.1 i hi
  exact ⟨h2, h3⟩
set_option maxHeartbeats 1000000 in
theorem M_conv {x : Int32} (hN : 1300 ≤ N) (h : mBase S A) (hw : WF0 A) (hv : WFv A) : MP (f177 N x) S (ansConv A x) (nxtConv A x) := by
  have m176 : ∀ {β : Type} {f' : Int32 → mM β}, mb (f176 N x) f' S = f' (if 0 ≤ x ∧ x < 4 then 1 else 0) S := by intro β f'; simp only [mb, q176]
  by_cases hx : 0 ≤ x ∧ x < 4
  · obtain ⟨s, hs, rfl⟩ := i32_nat (x := x) (n := 4) hx.1 (by omega) hx.2
    have hb := TxB_A hw
    have hn := tkN_le hb
    have scl := ofN_cl (i := s) (by omega)
    have hln : (lnA A).length ≤ 8 := by rw [lnA_len]; exact hw.1.2.2.1
    obtain ⟨S1, e1, x1, r2, r4, r5, r7, rI, o1⟩ := q164 (N := N) hN h hw
    have m164 : ∀ {β : Type} {f' : Unit → mM β}, mb (f164 N) f' S = f' () S1 := by intro β f'; simp only [mb, e1]
    obtain ⟨S2, e2, c2, k2, o2⟩ := q174 (N := N) (s := 4) (S := S1) (by omega) (by omega)
    have e2 : f174 N 4 S1 = some ((), S2) := e2
    have m174 : ∀ {β : Type} {f' : Unit → mM β}, mb (f174 N 4) f' S1 = f' () S2 := by intro β f'; simp only [mb, e2]
    have h' := h
    obtain ⟨k1, kn2, ⟨b, hb2, hB, hst⟩, k4, k5, k6, k7⟩ := h
    have Y0 : ∃ Y, Y = ms_setI (ms_setI S2 131 37 0) 131 38 0 := ⟨_, rfl⟩
    obtain ⟨Y, hY⟩ := Y0
    have oY : ∀ c, c ≠ 131 → Eqc S2 Y c := fun c hc => by rw [hY]; exact (Eqc_I hc).tr (Eqc_I hc)
    have s2I : ms_I S2 131 = ms_I S1 131 := (o2.1 131 (by decide) (by decide) (by decide) (by decide)).1
    have yI : ∀ j, j ≠ 37 → j ≠ 38 → ms_I Y 131 j = ms_I S1 131 j := fun j h1 h2 => by rw [hY]; simp only [mG, true_and, if_neg h1, if_neg h2]; rw [s2I]
    have xY : TxM Y (aX A 0) (aN A 0) := by
      unfold TxM at *
      rw [yI 3 (by decide) (by decide), (oY 133 (by decide)).2.2.2.1, (o2.1 133 (by decide) (by decide) (by decide) (by decide)).2.2.2.1]
      exact x1
    obtain ⟨S3, e3, t3, o3⟩ := q158 (N := N) (S := Y) (i := 0) hN hb (Nat.zero_le _) xY (by rw [yI 7 (by decide) (by decide)]; exact r7)
    have m158 : ∀ {β : Type} {f' : Unit → mM β}, mb (f158 N) f' Y = f' () S3 := by intro β f'; simp only [mb, e3]
    have ms3 : MS S3 (aX A 0) (aN A 0) (wSg w0) := ⟨TxM_off xY o3, (tkJ_0 hb).2, by rw [(tkJ_0 hb).1]; exact t3, by rw [o3.1 4 (by omega), yI 4 (by decide) (by decide)]; exact r4, by rw [o3.1 5 (by omega), yI 5 (by decide) (by decide)]; exact r5⟩
    have aY : ∀ c, c ≠ 131 → ms_A S3 c = ms_A S2 c := fun c hc => by rw [(o3.2 c hc).2.2.2.1, (oY c hc).2.2.2.1]
    obtain ⟨d1, d2, d3, d4, d5, d6, d7, d8⟩ := c2
    have hmw : MW S3 0 w0 := by
      refine ⟨⟨by rw [aY 143 (by decide)]; exact d1, by rw [aY 144 (by decide)]; exact d2, by rw [aY 145 (by decide)]; exact d3⟩, fun k hk => ⟨?_, ?_⟩, by rw [aY 156 (by decide)]; exact d4, fun i hi => absurd hi (Nat.not_lt_zero i), fun i hi => absurd hi (Nat.not_lt_zero i), ⟨?_, ?_⟩, fun i hi => absurd hi (Nat.not_lt_zero i), fun i hi => absurd hi (Nat.not_lt_zero i), fun z => absurd z (by decide)⟩
      · rw [aY 147 (by decide)]
        rcases (show k = 0 ∨ k = 1 ∨ k = 2 ∨ k = 3 by omega) with rfl | rfl | rfl | rfl
        · exact d5
        · exact d6
        · exact d7
        · exact d8
      · rw [aY 155 (by decide)]
        have e0 : bI (Nat.testBit (wT w0) k) = 0 := by
          rcases (show k = 0 ∨ k = 1 ∨ k = 2 ∨ k = 3 by omega) with rfl | rfl | rfl | rfl <;> decide
        rw [e0]
        exact k2 k hk
      · rw [o3.1 37 (by omega), hY]; simp [mG]
      · rw [o3.1 38 (by omega), hY]; show _ = (0 : Int32); simp [mG]
    have f20 : ms_I S3 131 20 = Int32.ofNat b := by rw [o3.1 20 (by omega), yI 20 (by decide) (by decide), rI 20 (by decide) (by decide)]; exact hB
    have f3E : ∀ c, c ≠ 131 → c ≠ 133 → ¬ (143 ≤ c ∧ c ≤ 145) → c ≠ 147 → c ≠ 155 → c ≠ 156 → Eqc S S3 c := fun c h1 h2 h3 h4 h5 h6 => (((o1 c h1 h2).tr (o2.1 c h3 h4 h5 h6)).tr (oY c h1)).tr (o3.2 c h1)
    have nb3 : NB S3 b (lnA A) := by
      refine ⟨f20, ?_, fun i hi => ?_⟩
      · rw [(f3E 136 (by decide) (by decide) (by decide) (by decide) (by decide) (by decide)).2.2.2.1, lnA_len]; exact hst.2.1
      · rw [lnA_len] at hi
        rw [(f3E 142 (by decide) (by decide) (by decide) (by decide) (by decide) (by decide)).2.2.2.2.1, lnA_get hi]
        exact ⟨(hst.2.2.2.2 i hi).2, lnA_ltw hw hi⟩
    obtain ⟨S4, e4, m4, g4, o4⟩ := convL (N := N) (b := b) (ln := lnA A) (x := Int32.ofNat s) (K := fun (x1 : Int32) => (mb (f155 N) fun v13 => if v13 ≠ 0 then (mb (f178 N x1) fun _ => mb (lA 143 5 x1) fun v16 => mret v16) else (mret (-1)))) hN hb hb2 hln (tkN (aX A 0) (aN A 0)) N w0 0 S3 (fun _ => Nat.le_add_right _ _) (by omega) (cwg_0 hb) nb3 ms3 (fun _ => ⟨hmw, Nat.zero_le _⟩)
    rw [← cvQ_eq] at m4 g4
    have hcg : CwG (aX A 0) (aN A 0) (cvQ A) := by rw [cvQ_eq]; exact cwg_R hb hln _ _ (cwg_0 hb)
    have pre : f177 N (Int32.ofNat s) S = (mb (f155 N) fun v13 => if v13 ≠ 0 then (mb (f178 N (Int32.ofNat s)) fun _ => mb (lA 143 5 (Int32.ofNat s)) fun v16 => mret v16) else (mret (-1))) S4 := by
      unfold f177
      rw [m176, if_pos hx, if_pos (show (1 : Int32) ≠ 0 by decide), m164, m174]
      simp only [mE, ← hY]
      rw [m158]
      exact e4
    -- what has stayed
    have f4I : ∀ j, j ≠ 2 → ¬ (3 ≤ j ∧ j ≤ 9) → ¬ (37 ≤ j ∧ j ≤ 41) → ms_I S4 131 j = ms_I S 131 j := fun j h1 h2 h3 => by rw [o4.1 j (by omega) h3, o3.1 j (by omega), yI j (by omega) (by omega), rI j h1 h2]
    have f42 : ms_I S4 131 2 = 0 := by rw [o4.1 2 (by omega) (by omega), o3.1 2 (by omega), yI 2 (by decide) (by decide)]; exact r2
    have f4E : ∀ c, c ≠ 131 → c ≠ 133 → ¬ (143 ≤ c ∧ c ≤ 153) → ¬ (155 ≤ c ∧ c ≤ 157) → Eqc S S4 c := fun c h1 h2 h3 h4 => (f3E c h1 h2 (by omega) (by omega) (by omega) (by omega)).tr (o4.2.1 c h1 h3 h4)
    have st4 : mStr S4 A := ⟨b, hb2, by rw [f4I 20 (by decide) (by decide) (by decide)]; exact hB, mStrAt_fr hst (fun c h1 h2 => f4E c (by omega) (by omega) (by omega) (by omega))⟩
    have cv4 : ∀ t, t < 4 → mCvAt S4 A t := fun t ht => by
      obtain ⟨v1, v2, _⟩ := hv t ht
      have base : ∀ c, c ≠ 131 → c ≠ 133 → ms_A S1 c = ms_A S c := fun c h1 h2 => (o1 c h1 h2).2.2.2.1
      refine mCvAt_off (k7 t ht) v1 v2 (fun c hc => ?_) (fun k hk => ?_) (fun i hi => ?_) (fun c i hc hi => ?_) (fun c i hc hi => ?_)
      · rw [o4.2.2.1 c t hc (by omega), aY c (by omega), o2.2.1 c t hc (by omega), base c (by omega) (by omega)]
      · rw [o4.2.2.2.2.1 (4 * t + k) (by omega), aY 147 (by decide), (o2.2.2 (4 * t + k) (by omega)).1, base 147 (by decide) (by decide)]
      · rw [o4.2.2.2.1 (8 * t + i) (by omega), aY 146 (by decide), (o2.1 146 (by decide) (by decide) (by decide) (by decide)).2.2.2.1, base 146 (by decide) (by decide)]
      · rw [o4.2.2.2.2.2.1 c (15 * t + i) hc (by omega), aY c (by omega), (o2.1 c (by omega) (by omega) (by omega) (by omega)).2.2.2.1, base c (by omega) (by omega)]
      · rw [o4.2.2.2.2.2.2 c (1200 * t + i) hc (by omega), aY c (by omega), (o2.1 c (by omega) (by omega) (by omega) (by omega)).2.2.2.1, base c (by omega) (by omega)]
    unfold MP ansConv nxtConv
    rw [if_pos hx, if_pos hx, pre, E155 m4, scl]
    cases hσ : wSg (cvQ A) with
    | inl e =>
      rw [hσ] at m4
      refine ⟨S4, ?_, ?_, fun c hc => f4E c (by omega) (by omega) (by omega) (by omega)⟩
      · rw [show gd (.inl e) = false from rfl]; rfl
      · exact mBad h' f42 m4.2.2.1 m4.2.2.2.2 (fun k hk => f4I k (by omega) (by omega) (by omega)) st4 cv4 (fun c hc => (f4E c (by omega) (by omega) (by omega) (by omega)).2.2.2.1)
    | inr j =>
      rw [hσ] at m4
      have m4 : MS S4 (aX A 0) (aN A 0) (.inr j) := m4
      have hgq : gd (wSg (cvQ A)) = true := by rw [hσ]; rfl
      obtain ⟨C1, w1, w2⟩ := g4 hgq
      obtain ⟨_, _, _, hd, _⟩ := hcg.2.2.2 hgq
      obtain ⟨S5, e5, ⟨q1, q2, q3, q4, q5, q6, q7, q8, q9⟩, oth, o5⟩ := q178 (N := N) hN hs w2 w1 hcg.1 hcg.2.1
      have m178 : ∀ {β : Type} {f' : Unit → mM β}, mb (f178 N (Int32.ofNat s)) f' S4 = f' () S5 := by intro β f'; simp only [mb, e5]
      have s1 : inR (Int32.ofNat s) 5 := ofN_inR (by omega) (by omega)
      have g5E : ∀ c, c ≠ 131 → c ≠ 133 → ¬ (143 ≤ c ∧ c ≤ 153) → ¬ (155 ≤ c ∧ c ≤ 157) → Eqc S S5 c := fun c h1 h2 h3 h4 => (f4E c h1 h2 h3 h4).tr (o5 c (by omega) (by omega) (by omega))
      have i5 : ms_I S5 131 = ms_I S4 131 := (o5 131 (by decide) (by decide) (by decide)).1
      refine ⟨S5, ?_, ?_, fun c hc => g5E c (by omega) (by omega) (by omega) (by omega)⟩
      · rw [show gd (.inr j) = true from rfl, if_pos (show true = true from rfl), if_pos (show (1 : Int32) ≠ 0 by decide), m178]
        simp only [mE, s1, scl, q1]
        rfl
      · refine ⟨⟨by rw [i5]; exact f42, fun i hi => absurd hi (Nat.not_lt_zero i)⟩, ⟨?_, ?_, ?_, ?_, ?_⟩, mStr_ab (A := A) ?_ (nC_N (by decide) (by omega) (by omega)) (nC_N (by decide) (by omega) (by omega)) (fun q _ _ => nC_X (by omega) (by omega) (by omega)) (nC_40 (by decide) (by decide) hs) rfl, mShip_ab (A := A) ⟨by rw [i5, f4I 50 (by decide) (by decide) (by decide)]; exact k4.1, fun i hi k hk => by rw [(g5E (158 + k) (by omega) (by omega) (by omega) (by omega)).2.2.2.1]; exact k4.2 i hi k hk⟩ (nC_N (by decide) (by omega) (by omega)) (fun q _ _ => nC_X (by omega) (by omega) (by omega)), mFact_ab (A := A) ?_ (nC_N (by decide) (by omega) (by omega)) (fun q _ _ => nC_X (by omega) (by omega) (by omega)), mSig_ab (A := A) ?_ (nC_N (by decide) (by omega) (by omega)) (fun q _ _ => nC_X (by omega) (by omega) (by omega)), fun t ht => ?_⟩
        · rw [i5, f4I 72 (by decide) (by decide) (by decide), kn2.1]; exact (nC_40 (by decide) (by decide) hs).symm
        · rw [i5, f4I 94 (by decide) (by decide) (by decide), kn2.2.1]; exact (nC_40 (by decide) (by decide) hs).symm
        · rw [i5, f4I 95 (by decide) (by decide) (by decide), kn2.2.2.1]; exact (nC_40 (by decide) (by decide) hs).symm
        · rw [i5]; exact m4.2.2.2.1
        · rw [i5]; exact m4.2.2.2.2
        · obtain ⟨b', hb', hB', hst'⟩ := st4
          exact ⟨b', hb', by rw [i5]; exact hB', mStrAt_fr hst' (fun c h1 h2 => o5 c (by omega) (by omega) (by omega))⟩
        · unfold mFact at *
          rw [i5, f4I 71 (by decide) (by decide) (by decide), (g5E 168 (by decide) (by decide) (by decide) (by decide)).2.2.2.1, (g5E 172 (by decide) (by decide) (by decide) (by decide)).2.2.2.1, (g5E 167 (by decide) (by decide) (by decide) (by decide)).2.2.2.1, (g5E 173 (by decide) (by decide) (by decide) (by decide)).2.2.2.1, (g5E 169 (by decide) (by decide) (by decide) (by decide)).2.2.2.1, (g5E 170 (by decide) (by decide) (by decide) (by decide)).2.2.2.1, (g5E 171 (by decide) (by decide) (by decide) (by decide)).2.2.2.1]
          exact k5
        · unfold mSig at *
          rw [i5, f4I 105 (by decide) (by decide) (by decide), (g5E 190 (by decide) (by decide) (by decide) (by decide)).2.2.2.1, (g5E 192 (by decide) (by decide) (by decide) (by decide)).2.2.2.1, (g5E 198 (by decide) (by decide) (by decide) (by decide)).2.2.2.1, (g5E 191 (by decide) (by decide) (by decide) (by decide)).2.2.2.1, (g5E 193 (by decide) (by decide) (by decide) (by decide)).2.2.2.1, (g5E 194 (by decide) (by decide) (by decide) (by decide)).2.2.2.1]
          exact k6
        · by_cases hts : t = s
          · subst hts
            refine ⟨?_, fun k hk => ?_, by rw [nC_10 hs]; exact q3, by rw [nC_20 hs]; exact q4, fun i hi => ?_, fun i hi => ?_, fun i hi => ?_, ?_⟩
            · rw [nC_50 hs, if_pos rfl]; exact q1
            · rw [nC_50 hs, if_neg (by omega), show 1 + k - 1 = k by omega]; exact q2 k hk
            · rw [nC_20 hs] at hi
              rw [nC_60 hs]; exact q5 i hi
            · rw [nC_10 hs] at hi
              have := hcg.1
              rw [nC_Ek (by omega)]; exact q6 i hi
            · rw [nC_20 hs] at hi
              have := hcg.2.1
              rw [nC_Em (by omega)]; exact q7 i hi
            · rw [nC_Ed, q8]
              rcases hd with z | z
              · refine Or.inr ⟨by rw [z.1]; rfl, fun y => ?_, q9 z.1⟩
                rw [y] at z
                exact absurd z.2 (by decide)
              · exact Or.inl ⟨by rw [z.1]; rfl, z.2⟩
          · obtain ⟨v1, v2, _⟩ := hv t ht
            exact mCvAt_ab (oth t A ht hts v1 v2 (cv4 t ht)) ⟨nC_N (by omega) (by omega) (by omega), nC_N (by omega) (by omega) (by omega)⟩ ⟨nC_X (by omega) (by omega) (by omega), nC_X (by omega) (by omega) (by omega)⟩ (nC_E hts)
  · unfold MP ansConv nxtConv
    rw [if_neg hx, if_neg hx]
    refine ⟨S, ?_, h, fun c _ => Eqc.rf⟩
    unfold f177
    rw [m176, if_neg hx, if_neg (fun z => z rfl)]
    rfl
end CVM2
