/-! a passage judged: reason and why -/
def shO (A : Ab) (f : Nat) : Nat := (aX A 21 f).toNatClampNeg
def kdF (A : Ab) (s f : Nat) : Int32 := kindL (aE A s) (shipG A (shO A f)) (aX A 10 (shO A f)) (aN A (10 + s)) 0
def kfP (kd x : Int32) : Int32 := if kd = x then 1 else 0
def whyF (A : Ab) (s f : Nat) (cs : Int32) : Int32 := mayL (aE A s) (aX A (60 + s)) (passG A f) (aX A 10 (shO A f)) (kfP (kdF A s f)) cs (aN A (20 + s)) 0
def rsnF (A : Ab) (s f : Nat) (I : Nat → Int32) (cs : Int32) : Int32 × Int32 :=
  if I (shO A f) = aX A 22 f then (1, -1) else if hitsL A (shO A f) (aX A 22 f) (aN A 1) 0 ≠ -1 then (2, -1) else if aX A 23 f < aX A (50 + s) 4 then (3, -1) else if whyF A s f cs = -1 then (4, -1)
  else if aX A 22 f = 0 ∨ gst A (shO A f) = false then (0, whyF A s f cs) else if tonsF A I (-1) (aN A 3) + aX A 11 (shO A f) > aX A (50 + s) 1 then (5, whyF A s f cs)
  else if tonsF A I (aX A 10 (shO A f)) (aN A 3) + aX A 11 (shO A f) > aX A (50 + s) 2 then (6, whyF A s f cs) else (0, whyF A s f cs)
def dueF (A : Ab) (s f : Nat) : Int32 := max0 (valE (passG A f) (aX A 10 (shO A f)) (kfP (kdF A s f)) (aE A s 14))
theorem hitsL_nn {A : Ab} {s : Nat} {n : Int32} (hn : aN A 1 ≤ 20) : ∀ m i, m + i = aN A 1 → hitsL A s n m i = -1 ∨ 0 ≤ hitsL A s n m i := by
  intro m
  induction m with
  | zero => intro i _; exact Or.inl rfl
  | succ m ih =>
    intro i hi
    rw [hitsL]
    have hle : (if n = 0 then aN A 1 - 1 - i else i) ≤ 20 := by split <;> omega
    by_cases hh : hitsF A s n (if n = 0 then aN A 1 - 1 - i else i) = true
    · rw [if_pos hh]
      generalize (if n = 0 then aN A 1 - 1 - i else i) = k at hle
      right
      exact ofN_nn (by omega)
    · rw [if_neg hh]
      exact ih (i + 1) (by omega)
theorem mayL_nn {E : Nat → List (Nat × Int32)} {C G : Nat → Int32} {land w : Int32} {kf : Int32 → Int32} : ∀ m i, m + i ≤ 8 → mayL E C G land kf w m i = -1 ∨ 0 ≤ mayL E C G land kf w m i := by
  intro m
  induction m with
  | zero => intro i _; exact Or.inl rfl
  | succ m ih =>
    intro i hi
    rw [mayL]
    split
    · right; exact ofN_nn (by omega)
    · exact ih (i + 1) (by omega)
/-- the references of the class's ledger -/
def refL (S : ms_S) (st pc : Nat) : Prop := ms_R S 57 0 = some 40 ∧ ms_R S 57 1 = some 39 ∧ ms_R S 57 2 = some st ∧ ms_R S 57 3 = some pc ∧ ms_R S 57 4 = some 54
section RSN
variable {N : Nat} {S : ms_S} {A : Ab} {st pc s f : Nat}
set_option maxHeartbeats 4000000 in
theorem q42 {I : Nat → Int32} {cs : Int32} (hN : 1300 ≤ N) (h : cBase S A) (hw : WF0 A) (hv : WFv A) (hs : s < 4) (oc : o_cv pc) (hcv : cCvAt S A pc s) (ost : o_st st) (hst : cStrAt S A st) (hR : refL S st pc) (hf : f < aN A 4) (hp : aX A 21 f ≠ -1) (hI : ∀ i, i < 20 → ms_A S 62 i = I i) (hz : ∀ i, aN A 3 ≤ i → I i = 0) (h60 : ms_A S 60 f = -1) : ∃ S1, f42 N (Int32.ofNat f) cs S = some ((rsnF A s f I cs).1, S1) ∧ (∀ j, ms_A S1 60 j = if j = f then (rsnF A s f I cs).2 else ms_A S 60 j) ∧ ((rsnF A s f I cs).1 = 0 → (∀ j, j < 11 → ms_A S1 56 j = passG A f j) ∧ ms_I S1 54 2 = aX A 10 (shO A f) ∧ kfC S1 = kfP (kdF A s f)) ∧ ∀ b, ¬ (54 ≤ b ∧ b ≤ 56) → b ≠ 60 → Eqc S S1 b := by
  have hb0 := h
  have hsh : cShip S A := h.2.2.2.1
  have hd : cDi S A 40 4 20 := h.2.2.2.2.1
  obtain ⟨s1, s2, s3⟩ := hsh
  have hn1 : aN A 1 ≤ 20 := hw.1.2.1
  have hn3 : aN A 3 ≤ 20 := hw.1.2.2.2.1
  have hn4 : aN A 4 ≤ 200 := hw.1.2.2.2.2.1
  obtain ⟨wd0, wd1, wn, _, _, wf⟩ := hw.2.2.2.2.2.2.1 f hf
  have wf2 : 0 ≤ aX A 21 f ∧ aX A 21 f < Int32.ofNat (aN A 3) ∧ 0 ≤ aX A 23 f ∧ aX A 23 f ≤ 99 := by rcases wf with q | q; exact absurd q.1 hp; exact q
  obtain ⟨sh, hshl, esh⟩ := i32_nat wf2.1 (by omega) wf2.2.1
  have eshO : shO A f = sh := by unfold shO; rw [esh, ofN_cl (by omega)]
  obtain ⟨g1, g2, g3, g4, _, _⟩ := hd.2 f hf
  have hf1 : inR (Int32.ofNat f) 200 := ofN_inR (by omega) (by omega)
  have hf2 := ofN_cl (i := f) (by omega)
  have hs1 : inR (Int32.ofNat sh) 20 := ofN_inR (by omega) (by omega)
  have hs2 := ofN_cl (i := sh) (by omega)
  obtain ⟨r0, r1, r2, r3, r4⟩ := hR
  obtain ⟨gs, gs8⟩ := s3 sh hshl
  have a42 : ms_A S 42 f = Int32.ofNat sh := g2.trans esh
  have a43 : ms_A S 43 f = aX A 22 f := g3
  have a44 : ms_A S 44 f = aX A 23 f := g4
  have a41 : ms_A S 41 f = aX A 20 f := g1
  have same : ∀ v : Int32, (rsnF A s f I cs) = (v, -1) → v ≠ 0 → f42 N (Int32.ofNat f) cs S = some (v, S) → ∃ S1, f42 N (Int32.ofNat f) cs S = some ((rsnF A s f I cs).1, S1) ∧ (∀ j, ms_A S1 60 j = if j = f then (rsnF A s f I cs).2 else ms_A S 60 j) ∧ ((rsnF A s f I cs).1 = 0 → (∀ j, j < 11 → ms_A S1 56 j = passG A f j) ∧ ms_I S1 54 2 = aX A 10 (shO A f) ∧ kfC S1 = kfP (kdF A s f)) ∧ ∀ b, ¬ (54 ≤ b ∧ b ≤ 56) → b ≠ 60 → Eqc S S1 b := by
    intro v e1 e2 e3
    refine ⟨S, by rw [e1]; exact e3, fun j => ?_, fun q => absurd (by rw [e1] at q; exact q) e2, fun _ _ _ => Eqc.rf⟩
    rw [e1]
    split
    · rename_i hj; rw [hj]; exact h60
    · rfl
  have start : f42 N (Int32.ofNat f) cs S = (if I sh ≠ aX A 22 f then (mb (gRo isSt 57 2) fun r15 => mb (f77 N r15 (111 + sh) (aX A 22 f)) fun v17 => if v17 = (-1) then (mb (gRo (isA 40) 57 0) fun _ => mb (lA 44 200 (Int32.ofNat f)) fun v21 => mb (gRo isCv 57 3) fun r23 => mb (gI r23 14) fun v25 => if v21 ≥ v25 then (mb (gRo (isA 54) 57 4) fun _ => mb (f27 N (111 + sh)) fun _ => mb (gRo (isA 54) 57 4) fun _ => mb (gRo (isA 40) 57 0) fun _ => mb (lA 44 200 (Int32.ofNat f)) fun v34 => mb (gRo (isA 40) 57 0) fun _ => mb (lA 41 200 (Int32.ofNat f)) fun v38 => mb (f28 N (aX A 22 f) v34 v38) fun _ => mb (gRo (isA 54) 57 4) fun _ => mb (gRo isCv 57 3) fun r43 => mb (f29 N r43) fun v45 => mb (gRo (isA 54) 57 4) fun _ => mb (gRo isCv 57 3) fun r49 => mb (f30 N r49 cs) fun v51 => mb (sA 60 200 (Int32.ofNat f) v51) fun _ => mb (lA 60 200 (Int32.ofNat f)) fun v54 => if v54 ≠ (-1) then (if aX A 22 f = 0 then mret 0 else (mb (f70 N (111 + sh)) fun v56 => if v56 ≠ 0 then (mb (f43 N (-1)) fun v58 => mb (gI (111 + sh) 1) fun v60 => mb (gRo isCv 57 3) fun r62 => mb (gI r62 11) fun v64 => if (v58 + v60) ≤ v64 then (mb (gI (111 + sh) 0) fun v66 => mb (f43 N v66) fun v68 => mb (gI (111 + sh) 1) fun v70 => mb (gRo isCv 57 3) fun r72 => mb (gI r72 12) fun v74 => if (v68 + v70) ≤ v74 then mret 0 else mret 6) else (mret 5)) else mret 0)) else (mret 4)) else (mret 3)) else (mret 2)) else (mret 1) : mM Int32) S := by
    unfold f42
    rw [EgRo r0 rfl]
    simp only [mE, hf1, hf2, a42]
    rw [EgRo r0 rfl]
    simp only [mE, hf1, hf2, a43]
    rw [EgRo r1 rfl, ElQo hs1 (by rw [hs2]; exact s2 sh (by omega)) (isSh_o (by omega))]
    simp only [mE, hs1, hs2, hI sh (by omega)]
  by_cases c1 : I sh = aX A 22 f
  · refine same 1 (by unfold rsnF; rw [eshO, if_pos c1]) (by decide) ?_
    rw [start, if_neg (fun q => q c1)]; rfl
  · have c1' : ¬ I (shO A f) = aX A 22 f := by rw [eshO]; exact c1
    rw [if_pos c1, EgRo r2 (isSt_o ost)] at start
    have hL := hitsL_C (N := N) (S := S) (a := st) (s := sh) (nn := aX A 22 f) hn1 hst.1 hst.2.2.2.1 (gs 3 (by omega)) (gs 2 (by omega)) (aN A 1) 0 N (by omega) (by omega)
    have m77 : ∀ {β : Type} {f' : Int32 → mM β}, mb (f77 N st (111 + sh) (aX A 22 f)) f' S = f' (hitsL A sh (aX A 22 f) (aN A 1) 0) S := by
      intro β f'
      have : f77 N st (111 + sh) (aX A 22 f) S = some (hitsL A sh (aX A 22 f) (aN A 1) 0, S) := hL
      simp only [mb, this]
    rw [m77] at start
    by_cases c2 : hitsL A sh (aX A 22 f) (aN A 1) 0 = -1
    · rw [if_pos c2, EgRo r0 rfl] at start
      simp only [mE, hf1, hf2, a44] at start
      rw [EgRo r3 (isCv_o oc)] at start
      have e14 : ms_I S pc 14 = aX A (50 + s) 4 := hcv.2.2.2.2.1
      simp only [mE, e14] at start
      by_cases c3 : aX A 23 f < aX A (50 + s) 4
      · refine same 3 (by unfold rsnF; rw [if_neg c1', eshO, if_neg (fun q => q c2), if_pos c3]) (by decide) ?_
        rw [start, if_neg (Int32.not_le.mpr c3)]
      · rw [if_pos (Int32.not_lt.mp c3), EgRo r4 rfl] at start
        -- the evaluator gets ship and passage
        obtain ⟨S1, e1, l1, _, q1, q1b, k1⟩ := giveShip (N := N) hb0 hw hshl
        have m27 : ∀ {β : Type} {f' : Unit → mM β}, mb (f27 N (111 + sh)) f' S = f' () S1 := by intro β f'; simp only [mb, e1]
        rw [m27] at start
        have R1 : ∀ X : ms_S, Eqc S X 57 → refL X st pc := fun X h => by unfold refL; rw [h.2.2.1]; exact ⟨r0, r1, r2, r3, r4⟩
        have x1 := R1 S1 (k1 57 (by decide) (by decide))
        have A1 : ∀ b, 40 ≤ b → b ≤ 46 → ms_A S1 b = ms_A S b := fun b h1 h2 => (k1 b (by omega) (by omega)).2.2.2.1
        rw [EgRo x1.2.2.2.2 rfl, EgRo x1.1 rfl] at start
        simp only [mE, hf1, hf2, A1 44 (by omega) (by omega), a44] at start
        rw [EgRo x1.1 rfl] at start
        simp only [mE, hf1, hf2, A1 41 (by omega) (by omega), a41] at start
        have m28 : ∀ {β : Type} {f' : Unit → mM β}, mb (f28 N (aX A 22 f) (aX A 23 f) (aX A 20 f)) f' S1 = f' () (ms_setA (ms_setA (ms_setA S1 56 8 (aX A 22 f)) 56 9 (aX A 23 f)) 56 10 (aX A 20 f)) := by intro β f'; simp only [mb, q28 wn]
        rw [m28] at start
        have k2 : ∀ b, b ≠ 54 → b ≠ 56 → Eqc S (ms_setA (ms_setA (ms_setA S1 56 8 (aX A 22 f)) 56 9 (aX A 23 f)) 56 10 (aX A 20 f)) b := fun b h1 h2 => (((k1 b h1 h2).tr (Eqc_A h2)).tr (Eqc_A h2)).tr (Eqc_A h2)
        have x2 := R1 _ (k2 57 (by decide) (by decide))
        rw [EgRo x2.2.2.2.2 rfl, EgRo x2.2.2.2.1 (isCv_o oc)] at start
        have G2 : ∀ j, j < 11 → ms_A (ms_setA (ms_setA (ms_setA S1 56 8 (aX A 22 f)) 56 9 (aX A 23 f)) 56 10 (aX A 20 f)) 56 j = passG A f j := by
          intro j hj
          simp only [mG, true_and]
          unfold passG
          by_cases h8 : j < 8
          · rw [if_neg (by omega), if_neg (by omega), if_neg (by omega), if_pos h8, q1 j h8]
            show shipG A sh j = shipG A (shO A f) j
            rw [eshO]
          · rw [if_neg h8]
            have : j = 8 ∨ j = 9 ∨ j = 10 := by omega
            rcases this with rfl | rfl | rfl <;> simp
        have L2 : ms_I (ms_setA (ms_setA (ms_setA S1 56 8 (aX A 22 f)) 56 9 (aX A 23 f)) 56 10 (aX A 20 f)) 54 2 = aX A 10 sh := by simp only [mGo]; exact l1
        have cvE : ∀ X, (∀ b, b ≠ 54 → b ≠ 55 → b ≠ 56 → b ≠ 60 → Eqc S X b) → cCvAt X A pc s := fun X hX => cCvAt_fr hcv (fun b h1 h2 => hX b (by rcases oc with rfl | rfl | rfl | rfl | rfl <;> omega) (by rcases oc with rfl | rfl | rfl | rfl | rfl <;> omega) (by rcases oc with rfl | rfl | rfl | rfl | rfl <;> omega) (by rcases oc with rfl | rfl | rfl | rfl | rfl <;> omega))
        obtain ⟨S3, e3, u3, l3, k3⟩ := q29 (N := N) (S := ms_setA (ms_setA (ms_setA S1 56 8 (aX A 22 f)) 56 9 (aX A 23 f)) 56 10 (aX A 20 f)) (A := A) (G := passG A f) (land := aX A 10 sh) (by omega) oc (cvE _ (fun b h1 _ h3 _ => k2 b h1 h3)) hv hs G2 L2
        have hkd : kindL (aE A s) (passG A f) (aX A 10 sh) (aN A (10 + s)) 0 = kdF A s f := by
          unfold kdF
          rw [eshO]
          exact kindG hv hs (fun j hj => by unfold passG; rw [if_pos hj]; show shipG A (shO A f) j = _; rw [eshO])
        rw [hkd] at e3 u3
        have m29 : ∀ {β : Type} {f' : Int32 → mM β}, mb (f29 N pc) f' (ms_setA (ms_setA (ms_setA S1 56 8 (aX A 22 f)) 56 9 (aX A 23 f)) 56 10 (aX A 20 f)) = f' (kdF A s f) S3 := by intro β f'; simp only [mb, e3]
        rw [m29] at start
        have K3 : ∀ b, b ≠ 54 → b ≠ 55 → b ≠ 56 → Eqc S S3 b := fun b h1 h2 h3 => (k2 b h1 h3).tr (k3 b h1 h2)
        have x3 := R1 _ (K3 57 (by decide) (by decide) (by decide))
        rw [EgRo x3.2.2.2.2 rfl, EgRo x3.2.2.2.1 (isCv_o oc)] at start
        have G3 : ∀ j, j < 11 → ms_A S3 56 j = passG A f j := fun j hj => by rw [(k3 56 (by decide) (by decide)).2.2.2.1]; exact G2 j hj
        have kf3 : kfC S3 = kfP (kdF A s f) := by funext x; unfold kfC kfP; rw [u3]
        obtain ⟨S4, e4, k4⟩ := q30 (N := N) (S := S3) (w := cs) (A := A) (G := passG A f) (land := aX A 10 sh) (by omega) oc (cvE _ (fun b h1 h2 h3 _ => K3 b h1 h2 h3)) hv hs G3 l3
        rw [kf3] at e4
        have hwhy : mayL (aE A s) (aX A (60 + s)) (passG A f) (aX A 10 sh) (kfP (kdF A s f)) cs (aN A (20 + s)) 0 = whyF A s f cs := by unfold whyF; rw [eshO]
        rw [hwhy] at e4
        have m30 : ∀ {β : Type} {f' : Int32 → mM β}, mb (f30 N pc cs) f' S3 = f' (whyF A s f cs) S4 := by intro β f'; simp only [mb, e4]
        rw [m30] at start
        have K5 : ∀ b, b ≠ 54 → b ≠ 55 → b ≠ 56 → b ≠ 60 → Eqc S (ms_setA S4 60 f (whyF A s f cs)) b := fun b h1 h2 h3 h4 => ((K3 b h1 h2 h3).tr (k4 b h2)).tr (Eqc_A h4)
        simp only [mE, hf1, hf2, mG, and_self, if_true] at start
        have x5 := R1 _ (K5 57 (by decide) (by decide) (by decide) (by decide))
        have fin : ∀ v : Int32, rsnF A s f I cs = (v, whyF A s f cs) → f42 N (Int32.ofNat f) cs S = some (v, ms_setA S4 60 f (whyF A s f cs)) → ∃ S1, f42 N (Int32.ofNat f) cs S = some ((rsnF A s f I cs).1, S1) ∧ (∀ j, ms_A S1 60 j = if j = f then (rsnF A s f I cs).2 else ms_A S 60 j) ∧ ((rsnF A s f I cs).1 = 0 → (∀ j, j < 11 → ms_A S1 56 j = passG A f j) ∧ ms_I S1 54 2 = aX A 10 (shO A f) ∧ kfC S1 = kfP (kdF A s f)) ∧ ∀ b, ¬ (54 ≤ b ∧ b ≤ 56) → b ≠ 60 → Eqc S S1 b := by
          intro v e5 e6
          refine ⟨_, by rw [e5]; exact e6, fun j => ?_, fun _ => ⟨fun j hj => ?_, ?_, ?_⟩, fun b h1 h2 => K5 b (by omega) (by omega) (by omega) h2⟩
          · rw [e5]
            simp only [mG, true_and]
            split
            · rfl
            · rw [(k4 60 (by decide)).2.2.2.1, (K3 60 (by decide) (by decide) (by decide)).2.2.2.1]
          · simp only [mG, show ¬ ((56 : Nat) = 60) by decide, false_and, if_false]
            rw [(k4 56 (by decide)).2.2.2.1]; exact G3 j hj
          · simp only [mGo]; rw [(k4 54 (by decide)).1, l3, eshO]
          · rw [← kf3]; unfold kfC; simp only [mGo]; rw [(k4 54 (by decide)).1]
        by_cases c4 : whyF A s f cs = -1
        · refine fin 4 (by unfold rsnF; rw [if_neg c1', eshO, if_neg (fun q => q c2), if_neg c3, if_pos c4, c4]) ?_
          rw [start, if_neg (fun q => q c4)]
        · rw [if_pos c4] at start
          have e111 : ∀ k, ms_I (ms_setA S4 60 f (whyF A s f cs)) (111 + sh) k = ms_I S (111 + sh) k := fun k => by rw [(K5 (111 + sh) (by omega) (by omega) (by omega) (by omega)).1]
          have epc : ∀ k, ms_I (ms_setA S4 60 f (whyF A s f cs)) pc k = ms_I S pc k := fun k => by rw [(K5 pc (by rcases oc with rfl | rfl | rfl | rfl | rfl <;> decide) (by rcases oc with rfl | rfl | rfl | rfl | rfl <;> decide) (by rcases oc with rfl | rfl | rfl | rfl | rfl <;> decide) (by rcases oc with rfl | rfl | rfl | rfl | rfl <;> decide)).1]
          have e11 : ms_I S pc 11 = aX A (50 + s) 1 := hcv.2.1
          have e12 : ms_I S pc 12 = aX A (50 + s) 2 := hcv.2.2.1
          have cs5 : cShip (ms_setA S4 60 f (whyF A s f cs)) A := cShip_fr ⟨s1, s2, s3⟩ (by rw [(K5 4 (by decide) (by decide) (by decide) (by decide)).1]) (K5 39 (by decide) (by decide) (by decide) (by decide)) (fun b h1 h2 => K5 b (by omega) (by omega) (by omega) (by omega)) hn3
          have I62 : ∀ i, i < 20 → ms_A (ms_setA S4 60 f (whyF A s f cs)) 62 i = I i := fun i hi => by rw [(K5 62 (by decide) (by decide) (by decide) (by decide)).2.2.2.1]; exact hI i hi
          have m43 : ∀ {β : Type} {l : Int32} {f' : Int32 → mM β}, mb (f43 N l) f' (ms_setA S4 60 f (whyF A s f cs)) = f' (tonsF A I l (aN A 3)) (ms_setA S4 60 f (whyF A s f cs)) := by intro β l f'; simp only [mb, q43 (N := N) (by omega) cs5 hn3 x5.2.1 I62 hz]
          have m70 : ∀ {β : Type} {f' : Int32 → mM β}, mb (f70 N (111 + sh)) f' (ms_setA S4 60 f (whyF A s f cs)) = f' (if gst A sh = true then 1 else 0) (ms_setA S4 60 f (whyF A s f cs)) := by
            intro β f'
            have e : (ms_I (ms_setA S4 60 f (whyF A s f cs)) (111 + sh) 7 ≠ 0 ∧ ms_I (ms_setA S4 60 f (whyF A s f cs)) (111 + sh) 8 = 0) ↔ gst A sh = true := by
              rw [e111, e111, gs 7 (by omega), gs8]
              unfold gst
              rw [decide_eq_true_eq]
            have : f70 N (111 + sh) (ms_setA S4 60 f (whyF A s f cs)) = some (if gst A sh = true then 1 else 0, ms_setA S4 60 f (whyF A s f cs)) := by
              rw [q70]
              by_cases hg : gst A sh = true
              · rw [if_pos hg, if_pos (e.2 hg)]
              · rw [if_neg hg, if_neg (fun q => hg (e.1 q))]
            simp only [mb, this]
          have base : rsnF A s f I cs = (if aX A 22 f = 0 ∨ gst A sh = false then (0, whyF A s f cs) else if tonsF A I (-1) (aN A 3) + aX A 11 sh > aX A (50 + s) 1 then (5, whyF A s f cs) else if tonsF A I (aX A 10 sh) (aN A 3) + aX A 11 sh > aX A (50 + s) 2 then (6, whyF A s f cs) else (0, whyF A s f cs)) := by
            unfold rsnF
            rw [if_neg c1', eshO, if_neg (fun q => q c2), if_neg c3, if_neg c4]
          by_cases c5 : aX A 22 f = 0
          · refine fin 0 (by rw [base, if_pos (Or.inl c5)]) ?_
            rw [start, if_pos c5]
          · rw [if_neg c5, m70] at start
            by_cases c6 : gst A sh = true
            · have c56 : ¬ (aX A 22 f = 0 ∨ gst A sh = false) := by rintro (q | q); exact c5 q; rw [c6] at q; cases q
              rw [if_pos c6, if_pos (by decide), m43] at start
              simp only [mE, e111, gs 1 (by omega)] at start
              rw [EgRo x5.2.2.2.1 (isCv_o oc)] at start
              simp only [mE, epc, e11] at start
              by_cases c7 : tonsF A I (-1) (aN A 3) + aX A 11 sh > aX A (50 + s) 1
              · refine fin 5 (by rw [base, if_neg c56, if_pos c7]) ?_
                rw [start, if_neg (Int32.not_le.mpr c7)]
              · have c7' : tonsF A I (-1) (aN A 3) + aX A (10 + 1) sh ≤ aX A (50 + s) 1 := Int32.not_lt.mp c7
                rw [if_pos c7', e111, gs 0 (by omega), m43] at start
                simp only [mE, e111, gs 1 (by omega)] at start
                rw [EgRo x5.2.2.2.1 (isCv_o oc)] at start
                simp only [mE, epc, e12] at start
                by_cases c8 : tonsF A I (aX A 10 sh) (aN A 3) + aX A 11 sh > aX A (50 + s) 2
                · refine fin 6 (by rw [base, if_neg c56, if_neg c7, if_pos c8]) ?_
                  rw [start, if_neg (Int32.not_le.mpr c8)]
                · refine fin 0 (by rw [base, if_neg c56, if_neg c7, if_neg c8]) ?_
                  have c8' : tonsF A I (aX A (10 + 0) sh) (aN A 3) + aX A (10 + 1) sh ≤ aX A (50 + s) 2 := Int32.not_lt.mp c8
                  rw [start, if_pos c8']
            · refine fin 0 (by rw [base, if_pos (Or.inr (by simpa using c6))]) ?_
              rw [start, if_neg c6, if_neg (by simp)]; rfl
    · refine same 2 (by unfold rsnF; rw [if_neg c1', eshO, if_pos c2]) (by decide) ?_
      rw [start, if_neg c2]; rfl
end RSN
