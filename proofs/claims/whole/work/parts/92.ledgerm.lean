/-! goThrough -/
section LGM
variable {N : Nat} {A : Ab} {s : Nat}
set_option maxHeartbeats 4000000 in
/-- one passage of the reference -/
theorem goOne {S : ms_S} {k up : Int32} {K : Int32 → Int32 → Int32 → Int32 → mM Unit} {n i len f : Nat} {q : Lst} (hN : 1300 ≤ N) (h : mBase S A) (hw : WF0 A) (hv : WFv A) (hs : s < 4) (hf : f < aN A 4) (hps : isPs A f = true) (hi : i < len) (hlen : len ≤ 200) (h79 : ms_I S 131 79 = Int32.ofNat len) (h177 : ms_A S 177 i = Int32.ofNat f) (hup : aX A 20 f ≤ up) (hq : mLd S A q) (hy : q.2.2.2.1 f = -1) : ∃ S1, f225_L34 N K (n + 1) (Int32.ofNat s) up k (Int32.ofNat i) S = f225_L34 N K n (Int32.ofNat s) up k (Int32.ofNat (i + 1)) S1 ∧ mLd S1 A (stepF A s (caseF A (aX A 20 f) k) q f) ∧ offG S S1 := by
  have hn3 : aN A 3 ≤ 20 := hw.1.2.2.2.1
  have hn4 : aN A 4 ≤ 200 := hw.1.2.2.2.2.1
  have hp := of_decide_eq_true hps
  obtain ⟨hshl, hshe⟩ := shO_lt hw hf hps
  have wn := (hw.2.2.2.2.2.2.1 f hf).2.2.1
  have hd : mFact S A := h.2.2.2.2.1
  obtain ⟨g1, g2, g3, g4, g5, _, _⟩ := hd.2 f hf
  rw [if_neg hp] at g3 g5
  have hge : ¬ Int32.ofNat i ≥ Int32.ofNat len := fun q => by have := (ofN_le (i := len) (j := i) (by omega) (by omega)).1 q; omega
  have i1 : inR (Int32.ofNat i) 200 := ofN_inR (by omega) (by omega)
  have i2 := ofN_cl (i := i) (by omega)
  have j1 : inR (Int32.ofNat f) 200 := ofN_inR (by omega) (by omega)
  have j2 := ofN_cl (i := f) (by omega)
  have l1 : inR (Int32.ofNat (shO A f)) 20 := ofN_inR (by omega) (by omega)
  have l2 := ofN_cl (i := shO A f) (by omega)
  have a167 : ms_A S 167 f = Int32.ofNat (shO A f) := g3.trans hshe
  obtain ⟨S1, e1, ev1, e62, k1, k2⟩ := q209 (N := N) (S := S) (A := A) (s := s) (i := shO A f) hN h hw hv hs hshl
  have m209 : ∀ {β : Type} {f' : Unit → mM β}, mb (f209 N (Int32.ofNat s) (Int32.ofNat (shO A f))) f' S = f' () S1 := by intro β f'; simp only [mb, e1]
  have A1 : ∀ b, b ≠ 131 → b ≠ 154 → b ≠ 166 → ms_A S1 b = ms_A S b := fun b h1 h2 h3 => (k2 b h1 h2 h3).2.2.2.1
  -- the state with the passage's own numbers
  have X0 : ∃ X, X = ms_setI (ms_setI (ms_setI S1 131 59 (aX A 22 f)) 131 60 (aX A 23 f)) 131 61 (aX A 20 f) := ⟨_, rfl⟩
  obtain ⟨X, hX⟩ := X0
  have oX : ∀ b, b ≠ 131 → b ≠ 154 → b ≠ 166 → Eqc S X b := fun b h1 h2 h3 => by rw [hX]; exact (((k2 b h1 h2 h3).tr (Eqc_I h1)).tr (Eqc_I h1)).tr (Eqc_I h1)
  have iX : ∀ j, (j < 51 ∨ 58 < j) → j ≠ 59 → j ≠ 60 → j ≠ 61 → j ≠ 62 → ms_I X 131 j = ms_I S 131 j := fun j hj a b c d => by
    rw [hX]
    simp only [mG, a, b, c, and_false, if_false]
    exact k1 j hj d
  have hbX : mBase X A := mBase_fr h (fun j hj => iX j (by unfold tellM at hj; omega) (by unfold tellM at hj; omega) (by unfold tellM at hj; omega) (by unfold tellM at hj; omega) (by unfold tellM at hj; omega)) (fun b h1 h2 => oX b (by omega) (by unfold scrM at h2; omega) (by unfold scrM at h2; omega))
  have evX : mEnv X (passG A f) (aX A 10 (shO A f)) := by
    obtain ⟨v1, v2, b', hb', hB', hs'⟩ := ev1
    have e141 : ms_A X 141 = ms_A S1 141 := by rw [hX]; simp only [mGo]
    refine ⟨fun j hj hj7 => ?_, ?_, b', hb', ?_, ?_⟩
    · rw [hX]
      unfold passG
      by_cases h8 : j < 8
      · have w := v1 j hj hj7
        simp only [if_pos h8] at w ⊢
        simp only [mG]
        rw [if_neg (by omega), if_neg (by omega), if_neg (by omega)]
        exact w
      · rw [if_neg h8]
        have : j = 8 ∨ j = 9 ∨ j = 10 := by omega
        rcases this with rfl | rfl | rfl <;> simp [mG]
    · rw [hX]; simp [mG]; exact v2
    · rw [hX]; simp [mG]; exact hB'
    · rw [e141]
      have e7 : (fun j => if j < 8 then shipG A (shO A f) j else ms_I S 131 (51 + j)) 7 = passG A f 7 := rfl
      rw [e7] at hs'
      exact hs'
  have kdX : ms_I X 131 62 = kdF A s f := by rw [hX]; simp [mG]; exact e62
  obtain ⟨S2, e2, v175, k3⟩ := q224 (N := N) (S := X) (A := A) (s := s) (f := f) (I := q.1) (k := k) hN hbX hw hv hs hf hp evX kdX (fun j hj => by rw [(oX 179 (by decide) (by decide) (by decide)).2.2.2.1]; exact (hq.1 j hj).1) (by rw [(oX 175 (by decide) (by decide) (by decide)).2.2.2.1, (hq.2 f hf).2.1]; exact hy)
  have m224 : ∀ {β : Type} {f' : Int32 → mM β}, mb (f224 N (Int32.ofNat s) (Int32.ofNat f) k) f' X = f' (rsnF A s f q.1 (caseF A (aX A 20 f) k)).1 S2 := by intro β f'; simp only [mb, e2]
  have K3 : ∀ b, b ≠ 131 → b ≠ 154 → b ≠ 166 → b ≠ 174 → b ≠ 175 → Eqc S (ms_setA S2 174 f (rsnF A s f q.1 (caseF A (aX A 20 f) k)).1) b := fun b h1 h2 h3 h4 h5 => ((oX b h1 h2 h3).tr (k3 b h2 h5)).tr (Eqc_A h4)
  have I3 : ms_I (ms_setA S2 174 f (rsnF A s f q.1 (caseF A (aX A 20 f) k)).1) 131 = ms_I X 131 := by simp only [mGo]; exact (k3 131 (by decide) (by decide)).1
  have base : f225_L34 N K (n + 1) (Int32.ofNat s) up k (Int32.ofNat i) S = (if (rsnF A s f q.1 (caseF A (aX A 20 f) k)).1 = 0 then (mlet (fun (y0 : Int32) => (mlet (fun (y2 : Int32) => (mb (sA 176 200 (Int32.ofNat f) y2) fun _ => mb (lA 167 200 (Int32.ofNat f)) fun v24 => mb (lA 173 200 (Int32.ofNat f)) fun v26 => mb (sB 179 20 v24 v26) fun _ => mb (lA 173 200 (Int32.ofNat f)) fun v29 => if v29 = 0 then f225_L34 N K n (Int32.ofNat s) up k (Int32.ofNat (i + 1)) else (mb (lA 167 200 (Int32.ofNat f)) fun v31 => mb (lA 168 200 (Int32.ofNat f)) fun v33 => mb (sA 178 20 v31 v33) fun _ => f225_L34 N K n (Int32.ofNat s) up k (Int32.ofNat (i + 1))))) fun J188 => if y0 ≤ 0 then (J188 0) else (J188 y0))) fun J169 => mb (lA 156 5 (Int32.ofNat s)) fun v36 => if v36 = 0 then (J169 0) else (mb (f207 N (Int32.ofNat s) 14) fun v38 => J169 v38)) else f225_L34 N K n (Int32.ofNat s) up k (Int32.ofNat (i + 1))) (ms_setA S2 174 f (rsnF A s f q.1 (caseF A (aX A 20 f) k)).1) := by
    rw [f225_L34]
    simp only [mE, h79, if_neg hge, i1, i2, h177, j1, j2, g1]
    rw [if_neg (Int32.not_lt.mpr hup), a167, m209]
    have a173 : ms_A S1 173 f = aX A 22 f := by rw [A1 173 (by decide) (by decide) (by decide)]; exact g4
    have a169 : ms_A S1 169 f = aX A 23 f := by rw [A1 169 (by decide) (by decide) (by decide)]; exact g5
    have a168 : ms_A S1 168 f = aX A 20 f := by rw [A1 168 (by decide) (by decide) (by decide)]; exact g1
    simp only [mE, j1, j2, a173]
    have tail : ∀ x : Int32, x = aX A 22 f → (mb (pI 131 59 x) fun _ => mb (lA 169 200 (Int32.ofNat f)) fun v12 => mb (pI 131 60 v12) fun _ => mb (lA 168 200 (Int32.ofNat f)) fun v15 => mb (pI 131 61 v15) fun _ => mb (f224 N (Int32.ofNat s) (Int32.ofNat f) k) fun v18 => mb (sA 174 200 (Int32.ofNat f) v18) fun _ => mb (lA 174 200 (Int32.ofNat f)) fun v21 => if v21 = 0 then (mlet (fun (y0 : Int32) => (mlet (fun (y2 : Int32) => (mb (sA 176 200 (Int32.ofNat f) y2) fun _ => mb (lA 167 200 (Int32.ofNat f)) fun v24 => mb (lA 173 200 (Int32.ofNat f)) fun v26 => mb (sB 179 20 v24 v26) fun _ => mb (lA 173 200 (Int32.ofNat f)) fun v29 => if v29 = 0 then f225_L34 N K n (Int32.ofNat s) up k (Int32.ofNat (i + 1)) else (mb (lA 167 200 (Int32.ofNat f)) fun v31 => mb (lA 168 200 (Int32.ofNat f)) fun v33 => mb (sA 178 20 v31 v33) fun _ => f225_L34 N K n (Int32.ofNat s) up k (Int32.ofNat (i + 1))))) fun J188 => if y0 ≤ 0 then (J188 0) else (J188 y0))) fun J169 => mb (lA 156 5 (Int32.ofNat s)) fun v36 => if v36 = 0 then (J169 0) else (mb (f207 N (Int32.ofNat s) 14) fun v38 => J169 v38)) else f225_L34 N K n (Int32.ofNat s) up k (Int32.ofNat (i + 1))) S1 = (if (rsnF A s f q.1 (caseF A (aX A 20 f) k)).1 = 0 then (mlet (fun (y0 : Int32) => (mlet (fun (y2 : Int32) => (mb (sA 176 200 (Int32.ofNat f) y2) fun _ => mb (lA 167 200 (Int32.ofNat f)) fun v24 => mb (lA 173 200 (Int32.ofNat f)) fun v26 => mb (sB 179 20 v24 v26) fun _ => mb (lA 173 200 (Int32.ofNat f)) fun v29 => if v29 = 0 then f225_L34 N K n (Int32.ofNat s) up k (Int32.ofNat (i + 1)) else (mb (lA 167 200 (Int32.ofNat f)) fun v31 => mb (lA 168 200 (Int32.ofNat f)) fun v33 => mb (sA 178 20 v31 v33) fun _ => f225_L34 N K n (Int32.ofNat s) up k (Int32.ofNat (i + 1))))) fun J188 => if y0 ≤ 0 then (J188 0) else (J188 y0))) fun J169 => mb (lA 156 5 (Int32.ofNat s)) fun v36 => if v36 = 0 then (J169 0) else (mb (f207 N (Int32.ofNat s) 14) fun v38 => J169 v38)) else f225_L34 N K n (Int32.ofNat s) up k (Int32.ofNat (i + 1))) (ms_setA S2 174 f (rsnF A s f q.1 (caseF A (aX A 20 f) k)).1) := by
      intro x hx
      subst hx
      have q1 : ∀ {β : Type} {f' : Unit → mM β} {Y : ms_S} {kk : Nat} {v : Int32}, mb (pI 131 kk v) f' Y = f' () (ms_setI Y 131 kk v) := fun {_ _ _ _ _} => rfl
      rw [q1]
      have b169 : ms_A (ms_setI S1 131 59 (aX A 22 f)) 169 f = aX A 23 f := a169
      have b168 : ms_A (ms_setI (ms_setI S1 131 59 (aX A 22 f)) 131 60 (aX A 23 f)) 168 f = aX A 20 f := a168
      have lAe : ∀ {β : Type} {f' : Int32 → mM β} {Y : ms_S} {c : Nat}, mb (lA c 200 (Int32.ofNat f)) f' Y = f' (ms_A Y c f) Y := by intro β f' Y c; have := mE.2.2.2.1 β c 200 (Int32.ofNat f) f' Y j1; rw [j2] at this; exact this
      rw [lAe, b169, q1, lAe, b168, q1, ← hX, m224]
      have sAe : ∀ {β : Type} {f' : Unit → mM β} {Y : ms_S} {c : Nat} {v : Int32}, mb (sA c 200 (Int32.ofNat f) v) f' Y = f' () (ms_setA Y c f v) := by intro β f' Y c v; have := mE.2.2.2.2.1 β c 200 (Int32.ofNat f) v f' Y j1; rw [j2] at this; exact this
      rw [sAe, lAe]
      have : ms_A (ms_setA S2 174 f (rsnF A s f q.1 (caseF A (aX A 20 f) k)).1) 174 f = (rsnF A s f q.1 (caseF A (aX A 20 f) k)).1 := by simp [mG]
      rw [this]
    simp only [ofN_s]
    rcases wn with w | w
    · rw [if_pos w]
      have := tail 0 w.symm
      simp only [mE, j1, j2, mGo, a169, a168] at this ⊢
      exact this
    · rw [if_neg (by rw [w]; decide)]
      have := tail 1 w.symm
      simp only [mE, j1, j2, mGo, a169, a168] at this ⊢
      exact this
  have q2 : offG S (ms_setA S2 174 f (rsnF A s f q.1 (caseF A (aX A 20 f) k)).1) := ⟨fun j hj => by rw [I3]; exact iX j (by unfold tellM at hj; omega) (by unfold tellM at hj; omega) (by unfold tellM at hj; omega) (by unfold tellM at hj; omega) (by unfold tellM at hj; omega), fun b h1 h2 h3 h4 h5 => K3 b h1 h2 h3 (by omega) (by omega)⟩
  have a174 : ∀ j, ms_A (ms_setA S2 174 f (rsnF A s f q.1 (caseF A (aX A 20 f) k)).1) 174 j = if j = f then (rsnF A s f q.1 (caseF A (aX A 20 f) k)).1 else ms_A S 174 j := fun j => by
    simp only [mG, true_and]
    split
    · rfl
    · rw [(k3 174 (by decide) (by decide)).2.2.2.1, (oX 174 (by decide) (by decide) (by decide)).2.2.2.1]
  have a175 : ∀ j, ms_A (ms_setA S2 174 f (rsnF A s f q.1 (caseF A (aX A 20 f) k)).1) 175 j = if j = f then (rsnF A s f q.1 (caseF A (aX A 20 f) k)).2 else ms_A S 175 j := fun j => by
    simp only [mG, show ¬ ((175 : Nat) = 174) by decide, false_and, if_false]
    rw [v175 j, (oX 175 (by decide) (by decide) (by decide)).2.2.2.1]
  have aO : ∀ c, 176 ≤ c → c ≤ 179 → ms_A (ms_setA S2 174 f (rsnF A s f q.1 (caseF A (aX A 20 f) k)).1) c = ms_A S c := fun c h1 h2 => (K3 c (by omega) (by omega) (by omega) (by omega) (by omega)).2.2.2.1
  rw [base]
  by_cases hr : (rsnF A s f q.1 (caseF A (aX A 20 f) k)).1 = 0
  · rw [if_pos hr]
    have hb3 := offG_base h q2
    obtain ⟨t1, t2, t3, t4, t5, _, _⟩ := hb3.2.2.2.2.1.2 f hf
    rw [if_neg hp] at t3 t5
    have b167 : ms_A (ms_setA S2 174 f (rsnF A s f q.1 (caseF A (aX A 20 f) k)).1) 167 f = Int32.ofNat (shO A f) := t3.trans hshe
    have s1' : inR (Int32.ofNat s) 5 := ofN_inR (by omega) (by omega)
    have s2' := ofN_cl (i := s) (by omega)
    have tailD : ∀ (Y : ms_S), (∀ b, b ≠ 154 → Eqc (ms_setA S2 174 f (rsnF A s f q.1 (caseF A (aX A 20 f) k)).1) Y b) → ∃ S1, (mb (sA 176 200 (Int32.ofNat f) (dueF A s f)) fun _ => mb (lA 167 200 (Int32.ofNat f)) fun v24 => mb (lA 173 200 (Int32.ofNat f)) fun v26 => mb (sB 179 20 v24 v26) fun _ => mb (lA 173 200 (Int32.ofNat f)) fun v29 => if v29 = 0 then f225_L34 N K n (Int32.ofNat s) up k (Int32.ofNat (i + 1)) else (mb (lA 167 200 (Int32.ofNat f)) fun v31 => mb (lA 168 200 (Int32.ofNat f)) fun v33 => mb (sA 178 20 v31 v33) fun _ => f225_L34 N K n (Int32.ofNat s) up k (Int32.ofNat (i + 1)))) Y = f225_L34 N K n (Int32.ofNat s) up k (Int32.ofNat (i + 1)) S1 ∧ mLd S1 A (stepF A s (caseF A (aX A 20 f) k) q f) ∧ offG S S1 := by
      intro Y hY
      have y167 : ms_A Y 167 f = Int32.ofNat (shO A f) := by rw [(hY 167 (by decide)).2.2.2.1]; exact b167
      have y173 : ms_A Y 173 f = aX A 22 f := by rw [(hY 173 (by decide)).2.2.2.1]; exact t4
      have y168 : ms_A Y 168 f = aX A 20 f := by rw [(hY 168 (by decide)).2.2.2.1]; exact t1
      have oY : ∀ Z, (∀ b, b ≠ 176 → b ≠ 178 → b ≠ 179 → Eqc Y Z b) → offG S Z := fun Z hZ => q2.tr ⟨fun j _ => by rw [(hZ 131 (by decide) (by decide) (by decide)).1, (hY 131 (by decide)).1], fun b h1 h2 h3 h4 h5 => (hY b h2).tr (hZ b (by omega) (by omega) (by omega))⟩
      have fin : ∀ (Z : ms_S), (∀ b, b ≠ 176 → b ≠ 178 → b ≠ 179 → Eqc Y Z b) → (∀ j, ms_A Z 176 j = if j = f then dueF A s f else ms_A Y 176 j) → (∀ j, ms_A Z 179 j = if j = shO A f then aX A 22 f else ms_A Y 179 j) → (∀ j, ms_A Z 178 j = if j = shO A f ∧ aX A 22 f ≠ 0 then aX A 20 f else ms_A Y 178 j) → mLd Z A (stepF A s (caseF A (aX A 20 f) k) q f) := by
        intro Z hZ z6 z9 z8
        have y6 : ms_A Y 176 = ms_A S 176 := by rw [(hY 176 (by decide)).2.2.2.1]; exact aO 176 (by omega) (by omega)
        have y8 : ms_A Y 178 = ms_A S 178 := by rw [(hY 178 (by decide)).2.2.2.1]; exact aO 178 (by omega) (by omega)
        have y9 : ms_A Y 179 = ms_A S 179 := by rw [(hY 179 (by decide)).2.2.2.1]; exact aO 179 (by omega) (by omega)
        have z4 : ms_A Z 174 = ms_A (ms_setA S2 174 f (rsnF A s f q.1 (caseF A (aX A 20 f) k)).1) 174 := by rw [(hZ 174 (by decide) (by decide) (by decide)).2.2.2.1, (hY 174 (by decide)).2.2.2.1]
        have z5 : ms_A Z 175 = ms_A (ms_setA S2 174 f (rsnF A s f q.1 (caseF A (aX A 20 f) k)).1) 175 := by rw [(hZ 175 (by decide) (by decide) (by decide)).2.2.2.1, (hY 175 (by decide)).2.2.2.1]
        unfold stepF
        rw [if_pos hr]
        refine ⟨fun j hj => ⟨?_, fun hne => ?_⟩, fun j hj => ⟨?_, ?_, fun hz => ?_⟩⟩
        · rw [z9 j, y9]
          show _ = updI q.1 (shO A f) (aX A 22 f) j
          unfold updI
          split
          · rfl
          · exact (hq.1 j hj).1
        · rw [z8 j, y8]
          have hne : updI q.1 (shO A f) (aX A 22 f) j ≠ 0 := hne
          show _ = updI q.2.1 (shO A f) (if aX A 22 f = 0 then q.2.1 (shO A f) else aX A 20 f) j
          by_cases hj2 : j = shO A f
          · subst hj2
            rw [updI_at] at hne
            rw [updI_at, if_pos ⟨rfl, hne⟩, if_neg hne]
          · rw [updI_ne hj2] at hne
            rw [updI_ne hj2, if_neg (fun w => hj2 w.1)]
            exact (hq.1 j hj).2 hne
        · rw [z4, a174 j]
          show _ = updI q.2.2.1 f 0 j
          unfold updI
          split
          · exact hr
          · exact (hq.2 j hj).1
        · rw [z5, a175 j]
          show _ = updI q.2.2.2.1 f (rsnF A s f q.1 (caseF A (aX A 20 f) k)).2 j
          unfold updI
          split
          · rfl
          · exact (hq.2 j hj).2.1
        · rw [z6 j, y6]
          have hz : updI q.2.2.1 f 0 j = 0 := hz
          show _ = updI q.2.2.2.2 f (dueF A s f) j
          by_cases hj2 : j = f
          · subst hj2; rw [updI_at, if_pos rfl]
          · rw [updI_ne hj2] at hz
            rw [updI_ne hj2, if_neg hj2]
            exact (hq.2 j hj).2.2 hz
      have r173 : ms_A (ms_setA (ms_setA Y 176 f (dueF A s f)) 179 (shO A f) (aX A 22 f)) 173 f = aX A 22 f := by simp [mG]; exact y173
      have r167 : ms_A (ms_setA (ms_setA Y 176 f (dueF A s f)) 179 (shO A f) (aX A 22 f)) 167 f = Int32.ofNat (shO A f) := by simp [mG]; exact y167
      have r168 : ms_A (ms_setA (ms_setA Y 176 f (dueF A s f)) 179 (shO A f) (aX A 22 f)) 168 f = aX A 20 f := by simp [mG]; exact y168
      have p167 : ms_A (ms_setA Y 176 f (dueF A s f)) 167 f = Int32.ofNat (shO A f) := by simp [mG]; exact y167
      have p173 : ms_A (ms_setA Y 176 f (dueF A s f)) 173 f = aX A 22 f := by simp [mG]; exact y173
      simp only [mE, j1, j2, p167, p173, l1, l2, vpb wn, r173]
      by_cases hz : aX A 22 f = 0
      · rw [if_pos hz]
        refine ⟨_, rfl, fin _ (fun b h1 h2 h3 => (Eqc_A h1).tr (Eqc_A h3)) (fun j => ?_) (fun j => ?_) (fun j => ?_), oY _ (fun b h1 h2 h3 => (Eqc_A h1).tr (Eqc_A h3))⟩
        · simp [mG]
        · simp [mG]
        · rw [if_neg (fun w => w.2 hz)]; simp [mG]
      · rw [if_neg hz]
        simp only [mE, j1, j2, r167, r168, l1, l2]
        refine ⟨_, rfl, fin _ (fun b h1 h2 h3 => ((Eqc_A h1).tr (Eqc_A h3)).tr (Eqc_A h2)) (fun j => ?_) (fun j => ?_) (fun j => ?_), oY _ (fun b h1 h2 h3 => ((Eqc_A h1).tr (Eqc_A h3)).tr (Eqc_A h2))⟩
        · simp [mG]
        · simp [mG]
        · simp [mG, hz]
    simp only [mlet]
    have lA156 : ∀ {β : Type} {f' : Int32 → mM β} {Y : ms_S}, mb (lA 156 5 (Int32.ofNat s)) f' Y = f' (ms_A Y 156 s) Y := by intro β f' Y; have := mE.2.2.2.1 β 156 5 (Int32.ofNat s) f' Y s1'; rw [s2'] at this; exact this
    rw [lA156]
    rcases (hb3.2.2.2.2.2.2 s hs).2.2.2.2.2.2.2 with ⟨w0, w1⟩ | ⟨w0, w1, w2⟩
    · have hdue : dueF A s f = 0 := by unfold dueF; rw [w1]; rfl
      have := tailD _ (fun b _ => Eqc.rf)
      rw [hdue] at this
      rw [w0, if_pos rfl, if_pos (by decide)]
      exact this
    · rw [w0, if_neg (by decide)]
      have hok : okL (aE A s 14) 0 = some 1 := (hv s hs).2.2.2.2.1.resolve_right w1
      have ev3 : mEnv (ms_setA S2 174 f (rsnF A s f q.1 (caseF A (aX A 20 f) k)).1) (passG A f) (aX A 10 (shO A f)) := mEnv_fr evX I3 (by rw [(Eqc_A (S := S2) (a := 174) (b := 141) (by decide)).2.2.2.1, (k3 141 (by decide) (by decide)).2.2.2.1])
      obtain ⟨S4, e4, k4⟩ := q207 (N := N) (S := ms_setA S2 174 f (rsnF A s f q.1 (caseF A (aX A 20 f) k)).1) (s := s) (line := 14) hN (by omega) (by omega) w2 (fun _ _ _ h => absurd h (by omega)) hok ev3
      have kfe : kfM (ms_setA S2 174 f (rsnF A s f q.1 (caseF A (aX A 20 f) k)).1) 14 = kfP (kdF A s f) := by
        funext x
        unfold kfM kfP
        rw [if_neg (by omega), I3, kdX]
      rw [kfe] at e4
      have m207 : ∀ {β : Type} {f' : Int32 → mM β}, mb (f207 N (Int32.ofNat s) 14) f' (ms_setA S2 174 f (rsnF A s f q.1 (caseF A (aX A 20 f) k)).1) = f' (valE (passG A f) (aX A 10 (shO A f)) (kfP (kdF A s f)) (aE A s 14)) S4 := by
        intro β f'
        have e4 : f207 N (Int32.ofNat s) 14 _ = some (_, S4) := e4
        simp only [mb, e4]
      rw [m207]
      have := tailD S4 k4
      unfold dueF max0 at this
      by_cases hle : valE (passG A f) (aX A 10 (shO A f)) (kfP (kdF A s f)) (aE A s 14) ≤ 0
      · rw [if_pos hle]
        rw [if_neg (Int32.not_lt.mpr hle)] at this
        exact this
      · rw [if_neg hle]
        rw [if_pos (Int32.not_le.mp hle)] at this
        exact this
  · rw [if_neg hr]
    refine ⟨_, rfl, ?_, q2⟩
    unfold stepF
    rw [if_neg hr]
    refine ⟨fun j hj => ⟨by rw [aO 179 (by omega) (by omega)]; exact (hq.1 j hj).1, fun hne => by rw [aO 178 (by omega) (by omega)]; exact (hq.1 j hj).2 hne⟩, fun j hj => ⟨?_, ?_, fun hz => ?_⟩⟩
    · rw [a174 j]
      show _ = updI q.2.2.1 f (rsnF A s f q.1 (caseF A (aX A 20 f) k)).1 j
      unfold updI
      split
      · rfl
      · exact (hq.2 j hj).1
    · rw [a175 j]
      show _ = updI q.2.2.2.1 f (rsnF A s f q.1 (caseF A (aX A 20 f) k)).2 j
      unfold updI
      split
      · rfl
      · exact (hq.2 j hj).2.1
    · rw [aO 176 (by omega) (by omega)]
      have hz : updI q.2.2.1 f (rsnF A s f q.1 (caseF A (aX A 20 f) k)).1 j = 0 := hz
      by_cases hj2 : j = f
      · subst hj2; rw [updI_at] at hz; exact absurd hz hr
      · rw [updI_ne hj2] at hz; exact (hq.2 j hj).2.2 hz
end LGM
