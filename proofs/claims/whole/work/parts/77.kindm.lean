/-! kinds in the reference; kind -/
section KDM
variable {N : Nat} {S : ms_S} {A : Ab} {G : Nat → Int32} {land : Int32} {s : Nat}
theorem kindL_M (hN : 1300 ≤ N) (hcv : mCvAt S A s) (hv : WFv A) (hs : s < 4) (hEnv : mEnv S G land) : ∀ m i n (x2 : Int32) S', m + i = aN A (10 + s) → m < n → (∀ b, b ≠ 154 → b ≠ 166 → Eqc S S' b) → ((x2 = -1 ∧ ∀ j, j < i → ms_A S' 166 j = 0) ∨ 0 ≤ x2) → ∃ S1, f208_L4 N (fun (x1 : Int32) (x2 : Int32) (x3 : Int32) => (mret x2)) n (Int32.ofNat s) x2 (Int32.ofNat i) S' = some (if x2 = -1 then kindL (aE A s) G land m i else x2, S1) ∧ ∀ b, b ≠ 154 → b ≠ 166 → Eqc S S1 b := by
  obtain ⟨_, _, c3, _, _, c6, _, _⟩ := hcv
  obtain ⟨w6, _, wK, _⟩ := hv s hs
  have g1 : inR (Int32.ofNat s) 5 := ofN_inR (by omega) (by omega)
  have g2 := ofN_cl (i := s) (by omega)
  intro m
  induction m with
  | zero =>
    intro i n x2 S' hi hn hE hx
    obtain ⟨n, rfl⟩ : ∃ q, n = q + 1 := ⟨n - 1, by omega⟩
    have hge : Int32.ofNat i ≥ Int32.ofNat (aN A (10 + s)) := (ofN_le (by omega) (by omega)).2 (by omega)
    have e3 : ms_A S' 144 s = Int32.ofNat (aN A (10 + s)) := by rw [(hE 144 (by decide) (by decide)).2.2.2.1]; exact c3
    refine ⟨S', ?_, hE⟩
    rw [f208_L4]
    simp only [mE, g1, g2, e3, if_pos hge, kindL]
    split
    · rename_i h; rw [h]
    · rfl
  | succ m ih =>
    intro i n x2 S' hi hn hE hx
    obtain ⟨n, rfl⟩ : ∃ q, n = q + 1 := ⟨n - 1, by omega⟩
    have hge : ¬ Int32.ofNat i ≥ Int32.ofNat (aN A (10 + s)) := fun q => by have := (ofN_le (i := aN A (10 + s)) (j := i) (by omega) (by omega)).1 q; omega
    have e3 : ms_A S' 144 s = Int32.ofNat (aN A (10 + s)) := by rw [(hE 144 (by decide) (by decide)).2.2.2.1]; exact c3
    have h1 : inR (Int32.ofNat i) 6 := ofN_inR (by omega) (by omega)
    have h2 := ofN_cl (i := i) (by omega)
    obtain ⟨o1, o2, o3⟩ := wK i (by omega)
    have hok : okK i (aE A s i) := fun q hq h111 _ => ⟨(o2 q hq).1, by
      have h5 := (o3 q hq).2 h111
      have := i32_of i (by omega)
      clear o1 o2 o3 ih wK c6 hx
      grind⟩
    have hseg : mSeg S' s i (aE A s i) := mSeg_fr (c6 i (by omega)) (fun c h1 h2 => hE c (by omega) (by omega))
    have hEnv' : mEnv S' G land := mEnv_fr hEnv (hE 131 (by decide) (by decide)).1 (hE 141 (by decide) (by decide)).2.2.2.1
    obtain ⟨S1, e1, k1⟩ := q207 (N := N) (S := S') hN (by omega) (by omega) hseg hok o1 hEnv'
    have e1b : ∀ {β : Type} {f : Int32 → mM β}, mb (f207 N (Int32.ofNat s) (Int32.ofNat i)) f S' = f (valE G land (kfM S' i) (aE A s i)) S1 := by intro β f; simp only [mb, e1]
    rw [f208_L4]
    simp only [mE, g1, g2, e3, if_neg hge, e1b, h1, h2]
    have hE2 : ∀ b, b ≠ 154 → b ≠ 166 → Eqc S (ms_setA S1 166 i (valE G land (kfM S' i) (aE A s i))) b := fun b h1 h2 => ((hE b h1 h2).tr (k1 b h1)).tr (Eqc_A h2)
    rcases hx with ⟨hx, hz⟩ | hx
    · have hval : valE G land (kfM S' i) (aE A s i) = valE G land (fun _ => 0) (aE A s i) := by
        refine valE_congr (fun q hq _ => ?_)
        unfold leafV
        by_cases h111 : q.1 = 111
        · have h0 := (o2 q hq).1
          have hlt := (o3 q hq).2 h111
          obtain ⟨j, hj, e⟩ := i32_nat h0 (by omega) hlt
          have : kfM S' i q.2 = 0 := by
            unfold kfM
            rw [if_pos (by omega), e, ofN_cl (by omega), hz j hj, if_pos rfl]
          simp only [h111, this]
        · simp only [h111, if_false]
      subst hx
      rw [if_neg (by decide)]
      simp only [mE, h1, h2, mG, and_self, if_true, hval]
      by_cases hzv : valE G land (fun _ => 0) (aE A s i) = 0
      · obtain ⟨S2, e2, k2⟩ := ih (i + 1) n (-1) (ms_setA S1 166 i (valE G land (fun _ => 0) (aE A s i))) (by omega) (by omega) (by rw [← hval]; exact hE2) (Or.inl ⟨rfl, fun j hj => by
          by_cases hji : j = i
          · simp [mG, hji, hzv]
          · simp only [mG, hji, and_false, if_false]
            rw [(k1 166 (by decide)).2.2.2.1]
            exact hz j (by omega)⟩)
        refine ⟨S2, ?_, k2⟩
        rw [if_pos hzv, ofN_s, e2]
        simp only [kindL, if_pos hzv, if_true]
      · obtain ⟨S2, e2, k2⟩ := ih (i + 1) n (Int32.ofNat i) (ms_setA S1 166 i (valE G land (fun _ => 0) (aE A s i))) (by omega) (by omega) (by rw [← hval]; exact hE2) (Or.inr (ofN_nn (by omega)))
        refine ⟨S2, ?_, k2⟩
        have hne : ¬ Int32.ofNat i = -1 := by
          intro q
          have := ofN_nn (i := i) (by omega)
          rw [q] at this
          exact absurd this (by decide)
        rw [if_neg hzv, ofN_s, e2]
        simp only [kindL, if_neg hzv, if_neg hne, if_true]
    · have hne : ¬ x2 = -1 := by intro q; rw [q] at hx; exact absurd hx (by decide)
      obtain ⟨S2, e2, k2⟩ := ih (i + 1) n x2 (ms_setA S1 166 i (valE G land (kfM S' i) (aE A s i))) (by omega) (by omega) hE2 (Or.inr hx)
      refine ⟨S2, ?_, k2⟩
      rw [if_pos hx, ofN_s, e2]
      simp only [if_neg hne]
theorem q208 (hN : 1300 ≤ N) (hcv : mCvAt S A s) (hv : WFv A) (hs : s < 4) (hEnv : mEnv S G land) : ∃ S1, f208 N (Int32.ofNat s) S = some (kindL (aE A s) G land (aN A (10 + s)) 0, S1) ∧ ∀ b, b ≠ 154 → b ≠ 166 → Eqc S S1 b := by
  obtain ⟨S1, e1, k1⟩ := kindL_M hN hcv hv hs hEnv (aN A (10 + s)) 0 N (-1) S (by omega) (by have := (hv s hs).1; omega) (fun _ _ _ => Eqc.rf) (Or.inl ⟨rfl, fun j hj => absurd hj (by omega)⟩)
  refine ⟨S1, ?_, k1⟩
  rw [if_pos rfl] at e1
  exact e1
def askW (S : ms_S) (t l d g k o w n : Int32) : ms_S := ms_setI (ms_setI (ms_setI (ms_setI (ms_setI (ms_setI (ms_setI (ms_setI S 131 51 t) 131 52 l) 131 53 d) 131 54 g) 131 55 k) 131 56 o) 131 57 w) 131 58 n
theorem askW_E {t l d g k o w n : Int32} {b : Nat} (hb : b ≠ 131) : Eqc S (askW S t l d g k o w n) b := (((((((Eqc_I hb).tr (Eqc_I hb)).tr (Eqc_I hb)).tr (Eqc_I hb)).tr (Eqc_I hb)).tr (Eqc_I hb)).tr (Eqc_I hb)).tr (Eqc_I hb)
theorem askW_I {t l d g k o w n : Int32} {j : Nat} (h : j < 51 ∨ 58 < j) : ms_I (askW S t l d g k o w n) 131 j = ms_I S 131 j := by
  unfold askW
  simp only [mG]
  rw [if_neg (by omega), if_neg (by omega), if_neg (by omega), if_neg (by omega), if_neg (by omega), if_neg (by omega), if_neg (by omega), if_neg (by omega)]
theorem q209 {i : Nat} (hN : 1300 ≤ N) (h : mBase S A) (hw : WF0 A) (hv : WFv A) (hs : s < 4) (hi : i < aN A 3) : ∃ S1, f209 N (Int32.ofNat s) (Int32.ofNat i) S = some ((), S1) ∧ mEnv S1 (fun j => if j < 8 then shipG A i j else ms_I S 131 (51 + j)) (aX A 10 i) ∧ ms_I S1 131 62 = kindL (aE A s) (shipG A i) (aX A 10 i) (aN A (10 + s)) 0 ∧ (∀ k, (k < 51 ∨ 58 < k) → k ≠ 62 → ms_I S1 131 k = ms_I S 131 k) ∧ ∀ b, b ≠ 131 → b ≠ 154 → b ≠ 166 → Eqc S S1 b := by
  obtain ⟨_, _, ⟨b, hb, hB, ⟨_, _, _, _, hld⟩⟩, ⟨s1, s2⟩, _, _, cv⟩ := h
  have hn3 : aN A 3 ≤ 20 := hw.1.2.2.2.1
  have hn2 := hw.1.2.2.1
  have ws := hw.2.2.2.2.2.1 i hi
  have w17 : aX A 17 i = 0 ∨ aX A 17 i = 1 := ws.2.2.2.2.2.2.2.2.2.2.2.2.2.2
  obtain ⟨ld, hl, eld⟩ := i32_nat ws.1 (by omega) ws.2.1
  have w5 := (hw.2.2.2.2.1 ld hl).1
  have h1 : inR (Int32.ofNat i) 20 := ofN_inR (by omega) (by omega)
  have h2 := ofN_cl (i := i) (by omega)
  have a0 : ms_A S 158 i = aX A 10 i := s2 i hi 0 (by omega)
  have a1 : ms_A S 159 i = aX A 11 i := s2 i hi 1 (by omega)
  have a2 : ms_A S 160 i = aX A 12 i := s2 i hi 2 (by omega)
  have a3 : ms_A S 161 i = aX A 13 i := s2 i hi 3 (by omega)
  have a4 : ms_A S 162 i = aX A 14 i := s2 i hi 4 (by omega)
  have a5 : ms_A S 163 i = aX A 15 i := s2 i hi 5 (by omega)
  have a6 : ms_A S 164 i = aX A 16 i := s2 i hi 6 (by omega)
  have a7 : ms_A S 165 i = aX A 17 i := s2 i hi 7 (by omega)
  have hEnv : mEnv (askW S (aX A 11 i) (aX A 12 i) (aX A 13 i) (aX A 14 i) (aX A 15 i) (aX A 16 i) (aX A 17 i) (aX A 10 i)) (fun j => if j < 8 then shipG A i j else ms_I S 131 (51 + j)) (aX A 10 i) := by
    refine ⟨fun j hj hj7 => ?_, by simp [askW, mG], b, hb, by rw [askW_I (by omega)]; exact hB, Or.inr ⟨ld, by omega, eld, ?_⟩⟩
    · by_cases h8 : j < 8
      · simp only [if_pos h8]
        unfold shipG
        rw [if_neg hj7]
        unfold askW
        simp only [mG]
        match j, h8, hj7 with
        | 0, _, _ => simp
        | 1, _, _ => simp
        | 2, _, _ => simp
        | 3, _, _ => simp
        | 4, _, _ => simp
        | 5, _, _ => simp
        | 6, _, _ => simp
        | j + 7, h8, h7 => exact absurd h8 (by omega)
      · simp only [if_neg h8]
        rw [askW_I (by omega)]
    · rw [(askW_E (by decide)).2.2.2.1, (hld ld hl).1]
      show aX A 5 (aX A 10 i).toNatClampNeg = _
      rw [eld, ofN_cl (by omega)]
      rcases w5 with w | w <;> rw [w] <;> rfl
  obtain ⟨S1, e1, k1⟩ := q208 (N := N) (s := s) hN (mCvAt_fr (cv s hs) (fun c h1 h2 => askW_E (by omega)) (askW_E (by decide))) hv hs hEnv
  have e1b : ∀ {β : Type} {f : Int32 → mM β}, mb (f208 N (Int32.ofNat s)) f (askW S (aX A 11 i) (aX A 12 i) (aX A 13 i) (aX A 14 i) (aX A 15 i) (aX A 16 i) (aX A 17 i) (aX A 10 i)) = f (kindL (aE A s) (shipG A i) (aX A 10 i) (aN A (10 + s)) 0) S1 := by
    intro β f
    rw [← kindG (G := fun j => if j < 8 then shipG A i j else ms_I S 131 (51 + j)) hv hs (fun j hj => if_pos hj)]
    simp only [mb, e1]
  refine ⟨ms_setI S1 131 62 (kindL (aE A s) (shipG A i) (aX A 10 i) (aN A (10 + s)) 0), ?_, ?_, by simp [mG], fun k hk h62 => ?_, fun c hc1 hc2 hc3 => ((askW_E hc1).tr (k1 c hc2 hc3)).tr (Eqc_I hc1)⟩
  · unfold f209
    unfold askW at e1b
    simp only [mE, h1, h2, a1, mGo, a2, a3, a4, a5, a6, a7]
    have hif : ∀ {x y : Option (Unit × ms_S)}, (if aX A 17 i = 0 then x else y) = if aX A 17 i = 0 then x else y := fun {_ _} => rfl
    rcases w17 with w | w
    · rw [if_pos w]
      simp only [mE, h1, h2, mGo, a0]
      rw [w] at e1b
      rw [e1b]
      rfl
    · rw [if_neg (by rw [w]; decide)]
      simp only [mE, h1, h2, mGo, a0]
      rw [w] at e1b
      rw [e1b]
      rfl
  · have hk := k1 131 (by decide) (by decide)
    have h141 := k1 141 (by decide) (by decide)
    obtain ⟨g1, g2, b', hb', hB', hs'⟩ := hEnv
    refine ⟨fun j hj hj7 => ?_, ?_, b', hb', ?_, ?_⟩
    · have : 51 + j ≠ 62 := by omega
      simp only [mG, this, and_false, if_false]
      rw [hk.1]; exact g1 j hj hj7
    · simp only [mG, show ¬ ((58 : Nat) = 62) by decide, and_false, if_false]
      rw [hk.1]; exact g2
    · simp only [mG, show ¬ ((20 : Nat) = 62) by decide, and_false, if_false]
      rw [hk.1]; exact hB'
    · simp only [mGo]
      rw [h141.2.2.2.1]; exact hs'
  · simp only [mG, h62, and_false, if_false]
    rw [(k1 131 (by decide) (by decide)).1, askW_I hk]
theorem M_kind {x y : Int32} (hN : 1300 ≤ N) (h : mBase S A) (hw : WF0 A) (hv : WFv A) : MP (f210 N x y) S (ansKind A x y) A := by
  have hn3 : aN A 3 ≤ 20 := hw.1.2.2.2.1
  have s1 := h.2.2.2.1.1
  have hq : (0 ≤ y ∧ y ≤ Int32.ofNat (aN A 3) - 1) ↔ (0 ≤ y ∧ y < Int32.ofNat (aN A 3)) := by have := i32_of (aN A 3) (by omega); clear h hw hv; grind
  unfold ansKind
  by_cases hx : 0 ≤ x ∧ x < 4
  · by_cases hy : 0 ≤ y ∧ y < Int32.ofNat (aN A 3)
    · rw [if_pos ⟨hx, hy⟩]
      have hy2 := hq.2 hy
      obtain ⟨s, hs, rfl⟩ := i32_nat (n := 4) hx.1 (by omega) hx.2
      obtain ⟨i, hi, rfl⟩ := i32_nat hy.1 (by omega) hy.2
      rw [ofN_cl (by omega), ofN_cl (by omega)]
      obtain ⟨S1, e1, _, e62, k1, k2⟩ := q209 (N := N) hN h hw hv hs hi
      refine ⟨S1, ?_, mBase_fr h (fun k hk => k1 k (by unfold tellM at hk; omega) (by unfold tellM at hk; omega)) (fun b h1 h2 => k2 b (by omega) (by unfold scrM at h2; omega) (by unfold scrM at h2; omega)), fun b hb => k2 b (by omega) (by omega) (by omega)⟩
      unfold f210
      simp only [mlet, mb, q176, if_pos hx, i10, if_false, mif, q197, s1, if_pos hy2, ne_eq, not_false_eq_true, if_true, e1, gI, e62, mret]
    · have hno : ¬ ((0 ≤ x ∧ x < 4) ∧ 0 ≤ y ∧ y < Int32.ofNat (aN A 3)) := fun q => hy q.2
      rw [if_neg hno]
      refine MP_same h ?_
      unfold f210
      simp only [mlet, mb, q176, if_pos hx, i10, if_false, mif, q197, s1, if_neg (fun q => hy (hq.1 q)), ne_eq, not_true_eq_false, mret]
  · have hno : ¬ ((0 ≤ x ∧ x < 4) ∧ 0 ≤ y ∧ y < Int32.ofNat (aN A 3)) := fun q => hx q.1
    rw [if_neg hno]
    refine MP_same h ?_
    unfold f210
    simp only [mlet, mb, q176, if_neg hx, if_true, mret]
theorem C_kind {x y : Int32} (hN : 1300 ≤ N) (h : cBase S A) (hw : WF0 A) (hv : WFv A) : CP (f120 N x y) S A (ansKind A x y) A := by
  have hn3 : aN A 3 ≤ 20 := hw.1.2.2.2.1
  obtain ⟨s1, s2, s3⟩ := h.2.2.2.1
  unfold ansKind
  by_cases hx : 0 ≤ x ∧ x < 4
  · by_cases hy : 0 ≤ y ∧ y < Int32.ofNat (aN A 3)
    · rw [if_pos ⟨hx, hy⟩]
      obtain ⟨s, hs, rfl⟩ := i32_nat (n := 4) hx.1 (by omega) hx.2
      obtain ⟨i, hi, rfl⟩ := i32_nat hy.1 (by omega) hy.2
      rw [ofN_cl (by omega), ofN_cl (by omega)]
      have h1 : mv_in (Int32.ofNat i) 20 := (ofN_in (by omega)).2 (by omega)
      have h2 := ofN_cl (i := i) (by omega)
      have h3 : mv_in (Int32.ofNat s) 4 := (ofN_in (by omega)).2 (by omega)
      have h4 := ofN_cl (i := s) (by omega)
      obtain ⟨p, p1, p2, p3, p4⟩ := h.2.2.2.2.2.2.1
      obtain ⟨S1, e1, r1, r2, r3, r4, k1⟩ := giveShip (N := N) h hw hi
      have hcv : cCvAt S1 A (p s) s := cCvAt_fr (p4 s hs).2 (fun b hb1 hb2 => k1 b (by rcases p2 s (by omega) with q | q | q | q | q <;> omega) (by rcases p2 s (by omega) with q | q | q | q | q <;> omega))
      obtain ⟨S2, e2, u1, u2, k2⟩ := q29 (N := N) (G := ms_A S1 56) (by omega) (p2 s (by omega)) hcv hv hs (fun j hj => rfl) r1
      rw [kindG (G' := shipG A i) hv hs (fun j hj => r3 j hj)] at e2
      have hQ : ms_Q S1 29 s = some (p s) := by rw [(k1 29 (by decide) (by decide)).2.2.2.2.2]; exact (p4 s hs).1
      have hE : ∀ b, b ≠ 54 → b ≠ 55 → b ≠ 56 → Eqc S S2 b := fun b h1 h2 h3 => (k1 b h1 h3).tr (k2 b h1 h2)
      refine ⟨S2, ?_, ?_, fun b hb1 hb2 => hE b (by omega) (by omega) (by omega), Or.inl ⟨by rw [(hE 4 (by decide) (by decide) (by decide)).1], rfl⟩⟩
      · unfold f120
        simp only [mlet, mb, q143, if_pos hx, i10, if_false, mif, q144, s1, if_pos hy, ne_eq, not_false_eq_true, if_true, lQo, if_pos h1, h2, s2 i (by omega), isSh_o (show i < 20 by omega), e1, if_pos h3, h4, hQ, isCv_o (p2 s (by omega)), e2, mret]
      · refine cBase_fr h hn3 (fun k _ => by rw [(hE 4 (by decide) (by decide) (by decide)).1]) (by rw [(hE 4 (by decide) (by decide) (by decide)).2.2.1]) ⟨by rw [(hE 6 (by decide) (by decide) (by decide)).1], by rw [(hE 6 (by decide) (by decide) (by decide)).1]⟩ (fun b _ _ _ _ _ _ _ hb => hE b (by omega) (by omega) (by omega))
    · have hno : ¬ ((0 ≤ x ∧ x < 4) ∧ 0 ≤ y ∧ y < Int32.ofNat (aN A 3)) := fun q => hy q.2
      rw [if_neg hno]
      refine CP_same h ?_
      unfold f120
      simp only [mlet, mb, q143, if_pos hx, i10, if_false, mif, q144, s1, if_neg hy, ne_eq, not_true_eq_false, mret]
  · have hno : ¬ ((0 ≤ x ∧ x < 4) ∧ 0 ≤ y ∧ y < Int32.ofNat (aN A 3)) := fun q => hx q.1
    rw [if_neg hno]
    refine CP_same h ?_
    unfold f120
    simp only [mlet, mb, q143, if_neg hx, if_true, mret]
end KDM
