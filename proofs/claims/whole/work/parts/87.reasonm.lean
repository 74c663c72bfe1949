/-! a passage judged in the reference -/
section RSM
variable {N : Nat} {S : ms_S} {A : Ab} {s f : Nat} {G : Nat → Int32} {land kd : Int32}
theorem mayL_M {K2 w k : Int32} (hN : 1300 ≤ N) (hcv : mCvAt S A s) (hv : WFv A) (hs : s < 4) (hEnv : mEnv S G land) (hkd : ms_I S 131 62 = kd) : ∀ m i n S', m + i = aN A (20 + s) → m < n → (∀ b, b ≠ 154 → Eqc S S' b) → ∃ S1, f223_L16 N (fun _ _ _ _ x5 => mret x5) (fun _ _ _ _ _ => mret (-1)) n (Int32.ofNat s) K2 k w (Int32.ofNat i) S' = some (mayL (aE A s) (aX A (60 + s)) G land (kfP kd) w m i, S1) ∧ ∀ b, b ≠ 154 → Eqc S S1 b := by
  obtain ⟨_, _, _, c4, c5, _, c7, _⟩ := hcv
  obtain ⟨_, w8, _, wM, _⟩ := hv s hs
  have g1 : inR (Int32.ofNat s) 5 := ofN_inR (by omega) (by omega)
  have g2 := ofN_cl (i := s) (by omega)
  intro m
  induction m with
  | zero =>
    intro i n S' hi hn hE
    obtain ⟨n, rfl⟩ : ∃ q, n = q + 1 := ⟨n - 1, by omega⟩
    have hge : Int32.ofNat i ≥ Int32.ofNat (aN A (20 + s)) := (ofN_le (by omega) (by omega)).2 (by omega)
    have e4 : ms_A S' 145 s = Int32.ofNat (aN A (20 + s)) := by rw [(hE 145 (by decide)).2.2.2.1]; exact c4
    refine ⟨S', ?_, hE⟩
    rw [f223_L16]
    simp only [mE, g1, g2, e4, if_pos hge, mayL]
  | succ m ih =>
    intro i n S' hi hn hE
    obtain ⟨n, rfl⟩ : ∃ q, n = q + 1 := ⟨n - 1, by omega⟩
    have hge : ¬ Int32.ofNat i ≥ Int32.ofNat (aN A (20 + s)) := fun q => by have := (ofN_le (i := aN A (20 + s)) (j := i) (by omega) (by omega)).1 q; omega
    have e4 : ms_A S' 145 s = Int32.ofNat (aN A (20 + s)) := by rw [(hE 145 (by decide)).2.2.2.1]; exact c4
    have e8 : 8 * Int32.ofNat s + Int32.ofNat i = Int32.ofNat (8 * s + i) := by clear c4 c5 c7 wM hEnv hE ih; grind [i32_of]
    have h1 : inR (Int32.ofNat (8 * s + i)) 40 := ofN_inR (by omega) (by omega)
    have e5 : ms_A S' 146 (8 * s + i) = aX A (60 + s) i := by rw [(hE 146 (by decide)).2.2.2.1]; exact c5 i (by omega)
    have e6 : 6 + Int32.ofNat i = Int32.ofNat (6 + i) := ofN_add (i := 6)
    obtain ⟨o1, o2⟩ := wM i (by omega)
    rw [f223_L16]
    simp only [mE, g1, g2, e4, if_neg hge, e8, h1, ofN_cl (i := 8 * s + i) (by omega), e5, e6, ofN_s]
    by_cases hc : aX A (60 + s) i = w
    · rw [if_neg (fun q => q hc)]
      have hseg : mSeg S' s (6 + i) (aE A s (6 + i)) := mSeg_fr (c7 i (by omega)) (fun c h1 h2 => hE c (by omega))
      have hEnv' : mEnv S' G land := mEnv_fr hEnv (hE 131 (by decide)).1 (hE 141 (by decide)).2.2.2.1
      obtain ⟨S1, e1, k1⟩ := q207 (N := N) (S := S') hN (by omega) (by omega) hseg (fun q _ _ h => absurd h (by omega)) o1 hEnv'
      have kfe : kfM S' (6 + i) = kfP kd := by
        funext x
        unfold kfM kfP
        rw [if_neg (by omega), (hE 131 (by decide)).1, hkd]
      rw [kfe] at e1
      have e1b : ∀ {β : Type} {f : Int32 → mM β}, mb (f207 N (Int32.ofNat s) (Int32.ofNat (6 + i))) f S' = f (valE G land (kfP kd) (aE A s (6 + i))) S1 := by intro β f; simp only [mb, e1]
      rw [e1b]
      by_cases hz : valE G land (kfP kd) (aE A s (6 + i)) = 0
      · obtain ⟨S2, e2, k2⟩ := ih (i + 1) n S1 (by omega) (by omega) (fun b hb => (hE b hb).tr (k1 b hb))
        refine ⟨S2, ?_, k2⟩
        rw [if_pos hz, mayL, if_neg (fun q => q.2 hz)]; exact e2
      · refine ⟨S1, ?_, fun b hb => (hE b hb).tr (k1 b hb)⟩
        rw [if_neg hz, mayL, if_pos ⟨hc, hz⟩]; rfl
    · rw [if_pos hc]
      obtain ⟨S2, e2, k2⟩ := ih (i + 1) n S' (by omega) (by omega) hE
      refine ⟨S2, ?_, k2⟩
      rw [mayL, if_neg (fun q => hc q.1)]; exact e2
set_option maxHeartbeats 4000000 in
theorem q224 {I : Nat → Int32} {k : Int32} (hN : 1300 ≤ N) (h : mBase S A) (hw : WF0 A) (hv : WFv A) (hs : s < 4) (hf : f < aN A 4) (hp : aX A 21 f ≠ -1) (hEnv : mEnv S (passG A f) (aX A 10 (shO A f))) (hkd : ms_I S 131 62 = kdF A s f) (hI : ∀ i, i < aN A 3 → ms_A S 179 i = I i) (h175 : ms_A S 175 f = -1) : ∃ S1, f224 N (Int32.ofNat s) (Int32.ofNat f) k S = some ((rsnF A s f I (caseF A (aX A 20 f) k)).1, S1) ∧ (∀ j, ms_A S1 175 j = if j = f then (rsnF A s f I (caseF A (aX A 20 f) k)).2 else ms_A S 175 j) ∧ ∀ b, b ≠ 154 → b ≠ 175 → Eqc S S1 b := by
  have hb0 := h
  have hn1 : aN A 1 ≤ 20 := hw.1.2.1
  have hn3 : aN A 3 ≤ 20 := hw.1.2.2.2.1
  have hn4 : aN A 4 ≤ 200 := hw.1.2.2.2.2.1
  obtain ⟨_, _, ⟨b, hb, hB, ⟨h4, _, _, hc, _⟩⟩, ⟨s1, s2⟩, hd, _, cv⟩ := h
  obtain ⟨wd0, wd1, wn, _, _, wf⟩ := hw.2.2.2.2.2.2.1 f hf
  have wf2 : 0 ≤ aX A 21 f ∧ aX A 21 f < Int32.ofNat (aN A 3) ∧ 0 ≤ aX A 23 f ∧ aX A 23 f ≤ 99 := by rcases wf with q | q; exact absurd q.1 hp; exact q
  obtain ⟨sh, hshl, esh⟩ := i32_nat wf2.1 (by omega) wf2.2.1
  have eshO : shO A f = sh := by unfold shO; rw [esh, ofN_cl (by omega)]
  have wl := (hw.2.2.2.2.2.1 sh hshl).1
  obtain ⟨g1, g2, g3, g4, g5, _, _⟩ := hd.2 f hf
  rw [if_neg hp] at g3 g5
  have hf1 : inR (Int32.ofNat f) 200 := ofN_inR (by omega) (by omega)
  have hf2 := ofN_cl (i := f) (by omega)
  have hs1 : inR (Int32.ofNat sh) 20 := ofN_inR (by omega) (by omega)
  have hs2 := ofN_cl (i := sh) (by omega)
  have a167 : ms_A S 167 f = Int32.ofNat sh := g3.trans esh
  have t1 : ∀ j, j < 4 → 4 * Int32.ofNat s + Int32.ofNat j = Int32.ofNat (4 * s + j) ∧ inR (Int32.ofNat (4 * s + j)) 20 ∧ ms_A S 147 (4 * s + j) = aX A (50 + s) (1 + j) := fun j hj => ⟨by
    rw [show (4 : Int32) = Int32.ofNat 4 from rfl, ofN_mul, ofN_add], ofN_inR (by omega) (by omega), (cv s hs).2.1 j hj⟩
  have t3 : 4 * Int32.ofNat s + 3 = Int32.ofNat (4 * s + 3) := (t1 3 (by omega)).1
  have t0 : 4 * Int32.ofNat s + 0 = Int32.ofNat (4 * s + 0) := (t1 0 (by omega)).1
  have t11 : 4 * Int32.ofNat s + 1 = Int32.ofNat (4 * s + 1) := (t1 1 (by omega)).1
  have same : ∀ v : Int32, (rsnF A s f I (caseF A (aX A 20 f) k)) = (v, -1) → f224 N (Int32.ofNat s) (Int32.ofNat f) k S = some (v, S) → ∃ S1, f224 N (Int32.ofNat s) (Int32.ofNat f) k S = some ((rsnF A s f I (caseF A (aX A 20 f) k)).1, S1) ∧ (∀ j, ms_A S1 175 j = if j = f then (rsnF A s f I (caseF A (aX A 20 f) k)).2 else ms_A S 175 j) ∧ ∀ b, b ≠ 154 → b ≠ 175 → Eqc S S1 b := by
    intro v e1 e3
    refine ⟨S, by rw [e1]; exact e3, fun j => ?_, fun _ _ _ => Eqc.rf⟩
    rw [e1]
    split
    · rename_i hj; rw [hj]; exact h175
    · rfl
  have hL := hitsL_M (N := N) (S := S) (s := sh) (nn := aX A 22 f) (by omega) hb hB hn1 h4 hc (s2 sh hshl 3 (by omega)) (s2 sh hshl 2 (by omega)) (aN A 1) 0 N (by omega) (by omega)
  have m200 : ∀ {β : Type} {f' : Int32 → mM β}, mb (f200 N (Int32.ofNat sh) (aX A 22 f)) f' S = f' (hitsL A sh (aX A 22 f) (aN A 1) 0) S := by
    intro β f'
    have : f200 N (Int32.ofNat sh) (aX A 22 f) S = some (hitsL A sh (aX A 22 f) (aN A 1) 0, S) := hL
    simp only [mb, this]
  have start : f224 N (Int32.ofNat s) (Int32.ofNat f) k S = f224 N (Int32.ofNat s) (Int32.ofNat f) k S := rfl
  unfold f224 at start ⊢
  simp only [mE, hf1, hf2, a167, hs1, hs2, hI sh hshl, g4, m200, g5, t3, (t1 3 (by omega)).2.1, ofN_cl (i := 4 * s + 3) (by omega), (t1 3 (by omega)).2.2]
  clear start
  have hn := hitsL_nn (s := sh) (n := aX A 22 f) hn1 (aN A 1) 0 (by omega)
  by_cases c1 : I sh = aX A 22 f
  · have e1 : rsnF A s f I (caseF A (aX A 20 f) k) = (1, -1) := by unfold rsnF; rw [eshO, if_pos c1]
    refine ⟨S, by rw [e1, if_neg (fun q => q c1)], fun j => ?_, fun _ _ _ => Eqc.rf⟩
    rw [e1]; split
    · rename_i hj; rw [hj]; exact h175
    · rfl
  · have c1' : ¬ I (shO A f) = aX A 22 f := by rw [eshO]; exact c1
    rw [if_pos c1]
    by_cases c2 : hitsL A sh (aX A 22 f) (aN A 1) 0 = -1
    · have c2' : hitsL A sh (aX A 22 f) (aN A 1) 0 < 0 := by rw [c2]; decide
      rw [if_pos c2']
      by_cases c3 : aX A 23 f < aX A (50 + s) 4
      · have e1 : rsnF A s f I (caseF A (aX A 20 f) k) = (3, -1) := by unfold rsnF; rw [if_neg c1', eshO, if_neg (fun q => q c2), if_pos c3]
        have c3' : ¬ aX A 23 f ≥ aX A (50 + s) (1 + 3) := Int32.not_le.mpr c3
        refine ⟨S, by rw [e1, if_neg c3'], fun j => ?_, fun _ _ _ => Eqc.rf⟩
        rw [e1]; split
        · rename_i hj; rw [hj]; exact h175
        · rfl
      · have c3' : aX A 23 f ≥ aX A (50 + s) (1 + 3) := Int32.not_lt.mp c3
        rw [if_pos c3']
        obtain ⟨S4, e4, k4⟩ := mayL_M (N := N) (S := S) (s := s) (G := passG A f) (land := aX A 10 (shO A f)) (kd := kdF A s f) (K2 := Int32.ofNat f) (k := k) (w := caseF A (aX A 20 f) k) hN (cv s hs) hv hs hEnv hkd (aN A (20 + s)) 0 N S (by omega) (by have := (hv s hs).2.1; omega) (fun _ _ => Eqc.rf)
        have e223 : f223 N (Int32.ofNat s) (Int32.ofNat f) k S = some (whyF A s f (caseF A (aX A 20 f) k), S4) := by
          unfold f223
          simp only [mE, hf1, hf2, g1]
          have m218 : ∀ {β : Type} {f' : Int32 → mM β}, mb (f218 N (aX A 20 f) k) f' S = f' (caseF A (aX A 20 f) k) S := by intro β f'; simp only [mb, q218 (show 201 ≤ N by omega) hd hw]
          rw [m218]
          exact e4
        have m223 : ∀ {β : Type} {f' : Int32 → mM β}, mb (f223 N (Int32.ofNat s) (Int32.ofNat f) k) f' S = f' (whyF A s f (caseF A (aX A 20 f) k)) S4 := by intro β f'; simp only [mb, e223]
        rw [m223]
        have hwn : whyF A s f (caseF A (aX A 20 f) k) = -1 ∨ 0 ≤ whyF A s f (caseF A (aX A 20 f) k) := mayL_nn _ _ (by have := (hv s hs).2.1; omega)
        have K5 : ∀ c, c ≠ 154 → c ≠ 175 → Eqc S (ms_setA S4 175 f (whyF A s f (caseF A (aX A 20 f) k))) c := fun c h1 h2 => (k4 c h1).tr (Eqc_A h2)
        have hb5 : mBase (ms_setA S4 175 f (whyF A s f (caseF A (aX A 20 f) k))) A := mBase_fr hb0 (fun j _ => by rw [(K5 131 (by decide) (by decide)).1]) (fun c h1 h2 => K5 c (by unfold scrM at h2; omega) (by unfold scrM at h2; omega))
        have A5 : ∀ c, c ≠ 154 → c ≠ 175 → ms_A (ms_setA S4 175 f (whyF A s f (caseF A (aX A 20 f) k))) c = ms_A S c := fun c h1 h2 => (K5 c h1 h2).2.2.2.1
        simp only [mE, hf1, hf2, mG, and_self, if_true]
        have v175 : ∀ v : Int32, rsnF A s f I (caseF A (aX A 20 f) k) = (v, whyF A s f (caseF A (aX A 20 f) k)) → ∀ j, ms_A (ms_setA S4 175 f (whyF A s f (caseF A (aX A 20 f) k))) 175 j = if j = f then (rsnF A s f I (caseF A (aX A 20 f) k)).2 else ms_A S 175 j := by
          intro v e j
          rw [e]
          simp only [mG, true_and]
          split
          · rfl
          · rw [(k4 175 (by decide)).2.2.2.1]
        by_cases c4 : whyF A s f (caseF A (aX A 20 f) k) = -1
        · have e1 : rsnF A s f I (caseF A (aX A 20 f) k) = (4, whyF A s f (caseF A (aX A 20 f) k)) := by unfold rsnF; rw [if_neg c1', eshO, if_neg (fun q => q c2), if_neg c3, if_pos c4, c4]
          refine ⟨_, by rw [e1, if_neg (by rw [c4]; decide)], v175 4 e1, K5⟩
        · have c4' : whyF A s f (caseF A (aX A 20 f) k) ≥ 0 := hwn.resolve_left c4
          rw [if_pos c4']
          have e173 : ms_A (ms_setA S4 175 f (whyF A s f (caseF A (aX A 20 f) k))) 173 f = aX A 22 f := by rw [A5 173 (by decide) (by decide)]; exact g4
          have e159 : ms_A (ms_setA S4 175 f (whyF A s f (caseF A (aX A 20 f) k))) 159 sh = aX A 11 sh := by rw [A5 159 (by decide) (by decide)]; exact s2 sh hshl 1 (by omega)
          have e158 : ms_A (ms_setA S4 175 f (whyF A s f (caseF A (aX A 20 f) k))) 158 sh = aX A 10 sh := by rw [A5 158 (by decide) (by decide)]; exact s2 sh hshl 0 (by omega)
          have e147 : ∀ j, j < 4 → ms_A (ms_setA S4 175 f (whyF A s f (caseF A (aX A 20 f) k))) 147 (4 * s + j) = aX A (50 + s) (1 + j) := fun j hj => by rw [A5 147 (by decide) (by decide)]; exact (t1 j hj).2.2
          have I5 : ∀ i, i < aN A 3 → ms_A (ms_setA S4 175 f (whyF A s f (caseF A (aX A 20 f) k))) 179 i = I i := fun i hi => by rw [A5 179 (by decide) (by decide)]; exact hI i hi
          have m221 : ∀ {β : Type} {f' : Int32 → mM β}, mb (f221 N (Int32.ofNat sh)) f' (ms_setA S4 175 f (whyF A s f (caseF A (aX A 20 f) k))) = f' (if gst A sh = true then 1 else 0) (ms_setA S4 175 f (whyF A s f (caseF A (aX A 20 f) k))) := by intro β f'; simp only [mb, q221 hb5 hw hshl]
          have m222 : ∀ {β : Type} {l : Int32} {f' : Int32 → mM β}, l = -1 ∨ 0 ≤ l → mb (f222 N l) f' (ms_setA S4 175 f (whyF A s f (caseF A (aX A 20 f) k))) = f' (tonsF A I l (aN A 3)) (ms_setA S4 175 f (whyF A s f (caseF A (aX A 20 f) k))) := by intro β l f' hl; simp only [mb, q222 (N := N) (by omega) hb5 hw I5 hl]
          have base : rsnF A s f I (caseF A (aX A 20 f) k) = (if aX A 22 f = 0 ∨ gst A sh = false then (0, whyF A s f (caseF A (aX A 20 f) k)) else if tonsF A I (-1) (aN A 3) + aX A 11 sh > aX A (50 + s) 1 then (5, whyF A s f (caseF A (aX A 20 f) k)) else if tonsF A I (aX A 10 sh) (aN A 3) + aX A 11 sh > aX A (50 + s) 2 then (6, whyF A s f (caseF A (aX A 20 f) k)) else (0, whyF A s f (caseF A (aX A 20 f) k))) := by
            unfold rsnF
            rw [if_neg c1', eshO, if_neg (fun q => q c2), if_neg c3, if_neg c4]
          have e173' : ms_A S4 173 f = aX A 22 f := by rw [(k4 173 (by decide)).2.2.2.1]; exact g4
          simp only [show ¬ ((173 : Nat) = 175) by decide, false_and, if_false, e173']
          by_cases c5 : aX A 22 f = 0
          · have e1 := base
            rw [if_pos (Or.inl c5)] at e1
            exact ⟨_, by rw [e1, if_pos c5], v175 0 e1, K5⟩
          · rw [if_neg c5, m221]
            by_cases c6 : gst A sh = true
            · have c56 : ¬ (aX A 22 f = 0 ∨ gst A sh = false) := by rintro (q | q); exact c5 q; rw [c6] at q; cases q
              rw [if_pos c6, if_pos (by decide), m222 (Or.inl rfl)]
              have r0 := e147 0 (by omega)
              have r1 := e147 1 (by omega)
              rw [t0]
              rw [show (4 * s + 0 : Nat) = 4 * s from rfl] at r0 ⊢
              have i0 : inR (Int32.ofNat (4 * s)) 20 := ofN_inR (by omega) (by omega)
              simp only [mE, hs1, hs2, e159, i0, ofN_cl (i := 4 * s) (by omega), r0]
              by_cases c7 : tonsF A I (-1) (aN A 3) + aX A 11 sh > aX A (50 + s) 1
              · have e1 := base
                rw [if_neg c56, if_pos c7] at e1
                exact ⟨_, by rw [e1, if_neg (Int32.not_le.mpr c7)], v175 5 e1, K5⟩
              · have c7' : tonsF A I (-1) (aN A 3) + aX A 11 sh ≤ aX A (50 + s) (1 + 0) := Int32.not_lt.mp c7
                rw [if_pos c7', e158, m222 (Or.inr wl)]
                simp only [mE, hs1, hs2, e159, t11, (t1 1 (by omega)).2.1, ofN_cl (i := 4 * s + 1) (by omega), r1]
                by_cases c8 : tonsF A I (aX A 10 sh) (aN A 3) + aX A 11 sh > aX A (50 + s) 2
                · have e1 := base
                  rw [if_neg c56, if_neg c7, if_pos c8] at e1
                  have c8' : ¬ tonsF A I (aX A 10 sh) (aN A 3) + aX A 11 sh ≤ aX A (50 + s) (1 + 1) := Int32.not_le.mpr c8
                  exact ⟨_, by rw [e1, if_neg c8'], v175 6 e1, K5⟩
                · have e1 := base
                  rw [if_neg c56, if_neg c7, if_neg c8] at e1
                  have c8' : tonsF A I (aX A 10 sh) (aN A 3) + aX A 11 sh ≤ aX A (50 + s) (1 + 1) := Int32.not_lt.mp c8
                  exact ⟨_, by rw [e1, if_pos c8'], v175 0 e1, K5⟩
            · have e1 := base
              rw [if_pos (Or.inr (by simpa using c6))] at e1
              exact ⟨_, by rw [e1, if_neg c6, if_neg (by simp)]; rfl, v175 0 e1, K5⟩
    · have e1 : rsnF A s f I (caseF A (aX A 20 f) k) = (2, -1) := by unfold rsnF; rw [if_neg c1', eshO, if_pos c2]
      have c2' : ¬ hitsL A sh (aX A 22 f) (aN A 1) 0 < 0 := Int32.not_lt.mpr (hn.resolve_left c2)
      refine ⟨S, by rw [e1, if_neg c2'], fun j => ?_, fun _ _ _ => Eqc.rf⟩
      rw [e1]; split
      · rename_i hj; rw [hj]; exact h175
      · rfl
end RSM
