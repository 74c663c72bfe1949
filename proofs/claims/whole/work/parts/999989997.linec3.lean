/-! lines of a convention: the class, may, limits, dues -/
section LC3
variable {N : Nat} {X : Nat → Int32} {L : Nat} {a st : Nat} {ln : List (List Int32)}
theorem q7 {S : ms_S} {σ : Sg} (hb : TxB X L) (hR : ms_R S 38 0 = some 6) (hc : CS S X L σ) : ∃ S1, f7 N S = some (mV X L σ, S1) ∧ CS S1 X L (mC X L σ) ∧ offX S S1 := by
  obtain ⟨S1, e1, c1, x1⟩ := q102 (N := N) (ty := 125) hb (by omega) hc
  have e1 : f102 N 125 S = _ := e1
  have m1 : ∀ {β : Type} {f' : Int32 → mM β}, mb (f102 N 125) f' S = f' (if isT X L 125 σ = true then 1 else 0) S1 := by intro β f'; simp only [mb, e1]
  have R1 : ms_R S1 38 0 = some 6 := by rw [(x1.2 38 (by decide)).2.2.1]; exact hR
  unfold f7 mV mC
  rw [EgRo hR isA6, m1]
  unfold ac at c1
  by_cases h5 : isT X L 125 σ = true
  · rw [if_pos h5] at c1
    rw [if_pos h5, if_neg (show ¬ ((1 : Int32) = 0) by decide), if_pos h5, if_pos h5]
    exact ⟨S1, rfl, c1, x1⟩
  · rw [if_neg h5] at c1
    rw [if_neg h5, if_pos (show (0 : Int32) = 0 from rfl), if_neg h5, if_neg h5]
    obtain ⟨S2, e2, c2, x2⟩ := q102 (N := N) (ty := 126) hb (by omega) c1
    have e2 : f102 N 126 S1 = _ := e2
    have m2 : ∀ {β : Type} {f' : Int32 → mM β}, mb (f102 N 126) f' S1 = f' (if isT X L 126 σ = true then 1 else 0) S2 := by intro β f'; simp only [mb, e2]
    have R2 : ms_R S2 38 0 = some 6 := by rw [(x2.2 38 (by decide)).2.2.1]; exact R1
    rw [EgRo R1 isA6, m2]
    unfold ac at c2
    by_cases h6 : isT X L 126 σ = true
    · rw [if_pos h6] at c2
      rw [if_pos h6, if_neg (show ¬ ((1 : Int32) = 0) by decide), if_pos h6, if_pos h6]
      exact ⟨S2, rfl, c2, x1.tr x2⟩
    · rw [if_neg h6] at c2
      rw [if_neg h6, if_pos (show (0 : Int32) = 0 from rfl), if_neg h6, if_neg h6]
      obtain ⟨S3, e3, c3, x3⟩ := q103 (N := N) (ty := 106) hb (by omega) c2
      have e3 : f103 N 106 S2 = _ := e3
      refine ⟨S3, ?_, c3, (x1.tr x2).tr x3⟩
      rw [EgRo R2 isA6]
      simp only [mb, e3]
      rfl
set_option maxHeartbeats 1000000 in
theorem q6 {S : ms_S} {w : Cw} {j : Nat} (hN : 1300 ≤ N) (hb : TxB X L) (oa : o_cv a) (ost : o_st st) (hln : ln.length ≤ 8) (hg : CwG X L w) (hj : wSg w = .inr j) (h0 : tTy (tkJ X L j) ≠ 0) (hr : RC S a st false (knW w) ln) (hc : CS S X L (.inr j)) (hw : CW S a w) : ResV (f6 N) S X L a (mLn X L ln w) := by
  have hne := cvne oa
  have hgd : gd (wSg w) = true := by rw [hj]; rfl
  obtain ⟨⟨b1, b2, b3⟩, _⟩ := hg.2.2.2 hgd
  have hjx : idx (wSg w) = j := by rw [hj]; rfl
  rw [hjx] at b1 b3
  have hnt := ntk_bd hb (j := j) (by omega)
  have hK6 := hg.1
  have hM8 := hg.2.1
  have hl := knW_len (w := w)
  have l8 : (Int32.ofNat (wM w).length < 8) ↔ (wM w).length < 8 := ofN_lt (j := 8) (by omega) (by omega)
  unfold mLn
  by_cases h8 : 8 ≤ (wM w).length
  · rw [if_pos h8]
    obtain ⟨S1, e1, r⟩ := refV (N := N) (a := a) (w := w) hb hj hc
    refine ⟨S1, ?_, r⟩
    unfold f6
    rw [EgRo hr.2.2.1 (isCv_o oa)]
    simp only [mE, hw.1.2.2.1]
    rw [if_neg (fun z => by have := l8.1 z; omega), EgRo hr.1 isA6]
    simp only [mb, e1]
    rfl
  · rw [if_neg h8]
    have i1 : inR (Int32.ofNat (wM w).length) 8 := ofN_inR (by omega) (by omega)
    have i2 := ofN_cl (i := (wM w).length) (by omega)
    obtain ⟨S1, e1, c1, x1⟩ := q100 (N := N) hb hc h0
    have r1 := RC_x oa ost hr x1
    obtain ⟨S2, e2, c2, x2⟩ := q7 (N := N) hb r1.1 c1
    have r2 := RC_x oa ost r1 x2
    have n5 := hne (a + 5) (by omega) (by omega)
    have n6 := hne (a + 6) (by omega) (by omega)
    have n7 := hne (a + 7) (by omega) (by omega)
    have n2 := hne (a + 2) (by omega) (by omega)
    have n1 := hne (a + 1) (by omega) (by omega)
    have na := hne a (by omega) (by omega)
    have Z3 : ∃ Z, Z = ms_setA S2 (a + 5) (wM w).length (mV X L (.inr (j + 1))) := ⟨_, rfl⟩
    obtain ⟨S3, hS3⟩ := Z3
    have r3 : RC S3 a st false (knW w) ln := by rw [hS3]; exact RC_A r2
    have c3 : CS S3 X L (mC X L (.inr (j + 1))) := by rw [hS3]; exact CS_A c2 n5.2.2.1 n5.2.2.2.1
    obtain ⟨S4, e4, c4, x4⟩ := q103 (N := N) (ty := 124) hb (by omega) c3
    have e4 : f103 N 124 S3 = some ((), S4) := e4
    have r4 := RC_x oa ost r3 x4
    have E4 : ∀ b, b ≠ 6 → b ≠ a + 5 → Eqc S S4 b := fun b h1 h2 => (((x1.2 b h1).tr (x2.2 b h1)).tr (by rw [hS3]; exact Eqc_A h2)).tr (x4.2 b h1)
    have k1 : ms_I S4 a 1 = Int32.ofNat (ccW w) := by rw [(E4 a na.1 (by omega)).1]; exact hw.1.2.2.2
    have Z5 : ∃ Z, Z = ms_setA S4 (a + 6) (wM w).length (Int32.ofNat (ccW w)) := ⟨_, rfl⟩
    obtain ⟨S5, hS5⟩ := Z5
    have r5 : RC S5 a st false (knW w) ln := by rw [hS5]; exact RC_A r4
    have c5 : CS S5 X L (dm X L 124 (mC X L (.inr (j + 1)))) := by rw [hS5]; exact CS_A c4 n6.2.2.1 n6.2.2.2.1
    have E5 : ∀ b, b ≠ 6 → b ≠ a + 5 → b ≠ a + 6 → Eqc S S5 b := fun b h1 h2 h3 => (E4 b h1 h2).tr (by rw [hS5]; exact Eqc_A h3)
    have hin : InT X L (dm X L 124 (mC X L (.inr (j + 1)))) := inT_dm hb (inT_mC hb (fun _ => (tkJ_nx hb b1 h0).1)) (by decide)
    have hidx : gd (dm X L 124 (mC X L (.inr (j + 1)))) = true → idx (dm X L 124 (mC X L (.inr (j + 1)))) = j + 3 := fun z => by
      have q1 := idx_dm z
      obtain ⟨_, q2, _⟩ := gd_mC (gd_dm z).1
      have q3 : idx (mC X L (.inr (j + 1))) = j + 1 + 1 := by rw [q2]; rfl
      omega
    obtain ⟨S6, e6, c6, r6, k6, x6⟩ := exC (N := N) (a := a) (st := st) (c0 := ccW w) (as0 := askK (wK w)) (kl := false) (kn := knW w) (ln := ln) hN hb oa ost (by omega) hln 100 0 0 (by omega) (by omega) (by decide) (dm X L 124 (mC X L (.inr (j + 1))), [], wU w) S5 hin r5 c5 (fun hq => ⟨⟨by rw [hS5]; simp only [mGo]; exact k1, fun i hi => absurd hi (Nat.not_lt_zero i), by rw [(E5 38 (by decide) n5.2.1.symm n6.2.1.symm).1]; exact hw.2.2.1.2.1, by rw [if_neg (by decide), (E5 a na.1 (by omega) (by omega)).1]; exact hw.2.2.1.2.2⟩, by
      unfold Pot
      show ccW w + 0 + 0 ≤ 2 * wU w + ntk X L (idx (dm X L 124 (mC X L (.inr (j + 1)))))
      have := ntk_le (X := X) (L := L) (show j ≤ idx (dm X L 124 (mC X L (.inr (j + 1)))) by rw [hidx hq]; omega)
      omega, b2⟩)
    have ek : mEx X L ln w = pE X L false (knW w) ln 100 0 0 (dm X L 124 (mC X L (.inr (j + 1))), [], wU w) := by unfold mEx; rw [hj]; rfl
    rw [← ek] at c6 k6
    have e6 : f11 N 100 0 0 S5 = some ((), S6) := e6
    have Z7 : ∃ Z, Z = ms_setA S6 (a + 7) (wM w).length (ms_I S6 a 1) := ⟨_, rfl⟩
    obtain ⟨S7, hS7⟩ := Z7
    have r7 : RC S7 a st false (knW w) ln := by rw [hS7]; exact RC_A r6
    have c7 : CS S7 X L (mEx X L ln w).1 := by rw [hS7]; exact CS_A c6 n7.2.2.1 n7.2.2.2.1
    obtain ⟨S8, e8, c8, x8⟩ := q103 (N := N) (ty := 59) hb (by omega) c7
    have e8 : f103 N 59 S7 = some ((), S8) := e8
    have r8 := RC_x oa ost r7 x8
    have E8 : ∀ b, b ≠ 6 → b ≠ a + 7 → Eqc S6 S8 b := fun b h1 h2 => (show Eqc S6 S7 b by rw [hS7]; exact Eqc_A h2).tr (x8.2 b h1)
    have k10 : ms_I S8 a 10 = Int32.ofNat (wM w).length := by rw [(E8 a na.1 (by omega)).1, x6.2.2.2.1 10 (by decide) (by decide), (E5 a na.1 (by omega) (by omega)).1]; exact hw.1.2.2.1
    have Z9 : ∃ Z, Z = ms_setI S8 a 10 (Int32.ofNat ((wM w).length + 1)) := ⟨_, rfl⟩
    obtain ⟨S9, hS9⟩ := Z9
    have mvj : mV X L (nx (wSg w)) = mV X L (.inr (j + 1)) := by rw [hj]; rfl
    rw [mvj]
    refine ⟨S9, ?_, by rw [hS9]; exact CS_I c8 na.1, fun z => ?_, ?_⟩
    · have m100 : ∀ {β : Type} {f' : Unit → mM β}, mb (f100 N) f' S = f' () S1 := by intro β f'; simp only [mb, e1]
      have m7 : ∀ {β : Type} {f' : Int32 → mM β}, mb (f7 N) f' S1 = f' (mV X L (.inr (j + 1))) S2 := by intro β f'; simp only [mb, e2]
      have m124 : ∀ {β : Type} {f' : Unit → mM β}, mb (f103 N 124) f' S3 = f' () S4 := by intro β f'; simp only [mb, e4]
      have m11 : ∀ {β : Type} {f' : Unit → mM β}, mb (f11 N 100 0 0) f' S5 = f' () S6 := by intro β f'; simp only [mb, e6]
      have m59 : ∀ {β : Type} {f' : Unit → mM β}, mb (f103 N 59) f' S7 = f' () S8 := by intro β f'; simp only [mb, e8]
      unfold f6
      rw [EgRo hr.2.2.1 (isCv_o oa)]
      simp only [mE, hw.1.2.2.1]
      rw [if_pos (l8.2 (by omega)), EgRo hr.1 isA6, m100, EgRo r1.2.2.1 (isCv_o oa), m7]
      simp only [mE, i1, i2, ← hS3]
      rw [EgRo r3.1 isA6, m124, EgRo r4.2.2.1 (isCv_o oa), EgRo r4.2.2.1 (isCv_o oa)]
      simp only [mE, i1, i2, k1, ← hS5]
      rw [m11, EgRo r6.2.2.1 (isCv_o oa), EgRo r6.2.2.1 (isCv_o oa)]
      simp only [mE, i1, i2, ← hS7]
      rw [EgRo r7.1 isA6, m59, EgRo r8.2.2.1 (isCv_o oa)]
      simp only [mE, k10, ofN_s, ← hS9]
    · have z : gd (dm X L 59 (mEx X L ln w).1) = true := z
      have gr := (gd_dm z).1
      obtain ⟨w1, w2, w3, w4⟩ := k6 gr
      have I9 : ∀ i, i ≠ 10 → ms_I S9 a i = ms_I S6 a i := fun i hi => by rw [hS9]; simp only [mG, true_and, if_neg hi]; rw [(E8 a na.1 (by omega)).1]
      have E9 : ∀ b, b ≠ a → Eqc S8 S9 b := fun b hb' => by rw [hS9]; exact Eqc_I hb'
      have A9 : ∀ b, ms_A S9 b = ms_A S8 b := fun b => by rw [hS9]; simp only [mGo]
      have L9 : ∀ b, ms_L S9 b = ms_L S8 b := fun b => by rw [hS9]; simp only [mGo]
      have o6 := x6.2.2.2.2.2 (ccW w) (by omega) (by rw [hS5]; simp only [mGo]; exact k1)
      obtain ⟨_, _, _, _, o6⟩ := o6
      have I6 : ∀ i, i ≠ 1 → i ≠ 10 → ms_I S9 a i = ms_I S a i := fun i h1 h2 => by
        rw [I9 i h2]
        by_cases e : i = 6
        · rw [e, w4, if_neg (by decide)]; exact hw.2.2.1.2.2.symm
        · rw [x6.2.2.2.1 i h1 e, (E5 a na.1 (by omega) (by omega)).1]
      refine CW_may hw I6 ?_ ?_ ?_ ?_ ?_ (fun b i h1 h2 hi => ?_) ?_ ?_ ?_ (fun b hb' => ?_) (fun i hi => ?_) (fun i hi => ?_)
      · rw [I9 1 (by decide)]; exact w1
      · rw [hS9]; simp only [mG, and_self, if_true]
      · rw [(E9 38 na.2.1.symm).1, (E8 38 (by decide) n7.2.1.symm).1, x6.2.1 5 (by decide), (E5 38 (by decide) n5.2.1.symm n6.2.1.symm).1]
      · rw [(E9 38 na.2.1.symm).1, (E8 38 (by decide) n7.2.1.symm).1]; exact w3
      · rw [L9, (E8 (a + 2) n2.1 (by omega)).2.2.2.2.1, (x6.2.2.2.2.1 (a + 2) n2.1 n2.2.1 (by omega) (by omega)).2.2.2.2.1, (E5 (a + 2) n2.1 (by omega) (by omega)).2.2.2.2.1]
      · rw [A9]
        rcases (show b = 5 ∨ b = 6 ∨ b = 7 by omega) with rfl | rfl | rfl
        · rw [(E8 (a + 5) n5.1 (by omega)).2.2.2.1, (x6.2.2.2.2.1 (a + 5) n5.1 n5.2.1 (by omega) (by omega)).2.2.2.1, show ms_A S5 (a + 5) = ms_A S4 (a + 5) by rw [hS5, (Eqc_A (by omega)).2.2.2.1], (x4.2 (a + 5) n5.1).2.2.2.1, hS3]
          simp only [mG, true_and]
          rw [if_neg hi, (x2.2 (a + 5) n5.1).2.2.2.1, (x1.2 (a + 5) n5.1).2.2.2.1]
        · rw [(E8 (a + 6) n6.1 (by omega)).2.2.2.1, (x6.2.2.2.2.1 (a + 6) n6.1 n6.2.1 (by omega) (by omega)).2.2.2.1, hS5]
          simp only [mG, true_and]
          rw [if_neg hi, (E4 (a + 6) n6.1 (by omega)).2.2.2.1]
        · rw [(x8.2 (a + 7) n7.1).2.2.2.1, hS7]
          simp only [mG, true_and]
          rw [if_neg hi, (x6.2.2.2.2.1 (a + 7) n7.1 n7.2.1 (by omega) (by omega)).2.2.2.1, (E5 (a + 7) n7.1 (by omega) (by omega)).2.2.2.1]
      · rw [A9, (E8 (a + 5) n5.1 (by omega)).2.2.2.1, (x6.2.2.2.2.1 (a + 5) n5.1 n5.2.1 (by omega) (by omega)).2.2.2.1, show ms_A S5 (a + 5) = ms_A S4 (a + 5) by rw [hS5, (Eqc_A (by omega)).2.2.2.1], (x4.2 (a + 5) n5.1).2.2.2.1, hS3]
        simp only [mG, and_self, if_true]
      · rw [A9, (E8 (a + 6) n6.1 (by omega)).2.2.2.1, (x6.2.2.2.2.1 (a + 6) n6.1 n6.2.1 (by omega) (by omega)).2.2.2.1, hS5]
        simp only [mG, and_self, if_true]
      · rw [A9, (x8.2 (a + 7) n7.1).2.2.2.1, hS7]
        simp only [mG, and_self, if_true]
        exact w1
      · have nb := hne (a + b) (by omega) (by omega)
        rw [A9, (E8 (a + b) nb.1 (by omega)).2.2.2.1, (x6.2.2.2.2.1 (a + b) nb.1 nb.2.1 (by omega) (by omega)).2.2.2.1, (E5 (a + b) nb.1 (by omega) (by omega)).2.2.2.1]
      · rw [A9, (E8 (a + 1) n1.1 (by omega)).2.2.2.1, o6 i hi, (E5 (a + 1) n1.1 (by omega) (by omega)).2.2.2.1]
      · rw [A9, (E8 (a + 1) n1.1 (by omega)).2.2.2.1]; exact w2 i hi
    · refine ((((x1.r.tr x2.r).tr (by rw [hS3]; exact oRv.A (by omega))).tr x4.r).tr (by rw [hS5]; exact oRv.A (by omega))).tr ((x6.r.tr (by rw [hS7]; exact oRv.A (by omega))).tr (x8.r.tr (by rw [hS9]; exact oRv.I (Or.inl (by omega)) na.1)))
theorem q10 {S : ms_S} {p0 : Int32} {t k : Nat} (hbit : (1 : Int32) <<< ((p0 - 100) &&& 31) = mskB k) (hm : ms_I S 38 5 = mskT t) (ht : t < 32) (hk : k < 5) : f10 N p0 S = some (if Nat.testBit t k = true then 0 else 1, ms_setI S 38 5 (mskT t ||| mskB k)) := by
  have h1 := (mskT_1 ht hk).1
  unfold f10
  simp only [mE, hm, hbit]
  by_cases q : Nat.testBit t k = true
  · rw [if_pos (h1.2 q), if_pos q]
    rfl
  · rw [if_neg (fun z => q (h1.1 z)), if_neg q]
    rfl
def v50 (N : Nat) (x1 y1 y2 : Int32) : mM Unit := mb (f104 N y1 y2) fun v3 => mb (gRo (isA 6) 38 0) fun _ => mb (f103 N 59) fun _ => if x1 = 127 then (mb (gRo isCv 38 2) fun r8 => mb (pI r8 11 v3) fun _ => mret ()) else if x1 = 128 then (mb (gRo isCv 38 2) fun r11 => mb (pI r11 12 v3) fun _ => mret ()) else if x1 = 129 then (mb (gRo isCv 38 2) fun r14 => mb (pI r14 13 v3) fun _ => mret ()) else (mb (gRo isCv 38 2) fun r17 => mb (pI r17 14 v3) fun _ => mret ())
theorem f8_eq {p0 : Int32} : f8 N p0 = (mb (f10 N p0) fun v1 => if v1 ≠ 0 then (mb (gRo (isA 6) 38 0) fun _ => mb (f100 N) fun _ => mb (gRo (isA 6) 38 0) fun _ => if p0 = 129 then v50 N p0 0 99 else (if p0 ≠ 109 then v50 N p0 0 9999 else v50 N p0 0 99)) else (mb (gRo (isA 6) 38 0) fun _ => mb (f101 N 2) fun _ => mret ())) := rfl
theorem q8 {S : ms_S} {w : Cw} {j k : Nat} {p0 : Int32} (hb : TxB X L) (oa : o_cv a) (hk : k < 4) (hbit : (1 : Int32) <<< ((p0 - 100) &&& 31) = mskB k) (hsel : (if p0 = 129 then v50 N p0 0 99 else (if p0 ≠ 109 then v50 N p0 0 9999 else v50 N p0 0 99)) = v50 N p0 0 (if k < 2 then 9999 else 99)) (hput : ∀ v3 : Int32, (if p0 = 127 then (mb (gRo isCv 38 2) fun r8 => mb (pI r8 11 v3) fun _ => mret ()) else if p0 = 128 then (mb (gRo isCv 38 2) fun r11 => mb (pI r11 12 v3) fun _ => mret ()) else if p0 = 129 then (mb (gRo isCv 38 2) fun r14 => mb (pI r14 13 v3) fun _ => mret ()) else (mb (gRo isCv 38 2) fun r17 => mb (pI r17 14 v3) fun _ => mret ()) : mM Unit) = (mb (gRo isCv 38 2) fun r => mb (pI r (11 + k) v3) fun _ => mret ())) (hg : CwG X L w) (hj : wSg w = .inr j) (h0 : tTy (tkJ X L j) ≠ 0) (hR : ms_R S 38 0 = some 6 ∧ ms_R S 38 2 = some a) (hc : CS S X L (.inr j)) (hw : CW S a w) : ResV (f8 N p0) S X L a (lLn X L k w) := by
  have hne := cvne oa
  have na := hne a (by omega) (by omega)
  have e10 := q10 (N := N) (S := S) (p0 := p0) (k := k) hbit hw.2.2.1.1 hg.2.2.1 (by omega)
  have Z1 : ∃ Z, Z = ms_setI S 38 5 (mskT (wT w) ||| mskB k) := ⟨_, rfl⟩
  obtain ⟨Y, hY⟩ := Z1
  rw [← hY] at e10
  have m10 : ∀ {β : Type} {f' : Int32 → mM β}, mb (f10 N p0) f' S = f' (if Nat.testBit (wT w) k = true then 0 else 1) Y := by intro β f'; simp only [mb, e10]
  have cY : CS Y X L (.inr j) := by rw [hY]; exact CS_I hc (by decide)
  have RY : ms_R Y 38 = ms_R S 38 := by rw [hY]; simp only [mGo]
  have oY : oRv a S Y := by rw [hY]; exact oRv.I (Or.inr rfl) (by decide)
  unfold lLn
  rw [f8_eq]
  unfold ResV
  rw [m10]
  by_cases ht : Nat.testBit (wT w) k = true
  · rw [if_pos ht, if_pos ht, if_neg (fun z => z rfl)]
    obtain ⟨S1, e1, r1, r2, r3⟩ := refV (N := N) (a := a) (w := w) hb hj cY
    refine ⟨S1, ?_, r1, r2, oY.tr r3⟩
    rw [EgRo (by rw [RY]; exact hR.1) isA6]
    simp only [mb, e1]
    rfl
  · rw [if_neg ht, if_neg ht, if_pos (show (1 : Int32) ≠ 0 by decide)]
    obtain ⟨S1, e1, c1, x1⟩ := q100 (N := N) hb cY h0
    have R1 : ms_R S1 38 = ms_R S 38 := by rw [(x1.2 38 (by decide)).2.2.1, RY]
    obtain ⟨v, S2, e2, p2, c2, x2⟩ := q104 (N := N) (lo := 0) (hi := if k < 2 then 9999 else 99) hb c1
    have R2 : ms_R S2 38 = ms_R S 38 := by rw [(x2.2 38 (by decide)).2.2.1, R1]
    obtain ⟨S3, e3, c3, x3⟩ := q103 (N := N) (ty := 59) hb (by omega) c2
    have e3 : f103 N 59 S2 = some ((), S3) := e3
    have R3 : ms_R S3 38 = ms_R S 38 := by rw [(x3.2 38 (by decide)).2.2.1, R2]
    have Z9 : ∃ Z, Z = ms_setI S3 a (11 + k) v := ⟨_, rfl⟩
    obtain ⟨S9, hS9⟩ := Z9
    have nxj : nx (wSg w) = .inr (j + 1) := by rw [hj]; rfl
    rw [nxj]
    refine ⟨S9, ?_, by rw [hS9]; exact CS_I c3 na.1, fun z => ?_, ((oY.tr x1.r).tr (x2.r.tr x3.r)).tr (by rw [hS9]; exact oRv.I (Or.inl (by omega)) na.1)⟩
    · have m100 : ∀ {β : Type} {f' : Unit → mM β}, mb (f100 N) f' Y = f' () S1 := by intro β f'; simp only [mb, e1]
      have m104 : ∀ {β : Type} {f' : Int32 → mM β}, mb (f104 N 0 (if k < 2 then 9999 else 99)) f' S1 = f' v S2 := by intro β f'; simp only [mb, e2]
      have m59 : ∀ {β : Type} {f' : Unit → mM β}, mb (f103 N 59) f' S2 = f' () S3 := by intro β f'; simp only [mb, e3]
      rw [EgRo (by rw [RY]; exact hR.1) isA6, m100, EgRo (by rw [R1]; exact hR.1) isA6, hsel]
      unfold v50
      rw [m104, EgRo (by rw [R2]; exact hR.1) isA6, m59, hput, EgRo (by rw [R3]; exact hR.2) (isCv_o oa)]
      simp only [mE, ← hS9]
    · have z : gd (dm X L 59 (nb X L 0 (if k < 2 then 9999 else 99) (.inr (j + 1)))) = true := z
      have t3 := (gd_nb (gd_dm z).1).2.1
      have E3 : ∀ b, b ≠ 6 → b ≠ 38 → Eqc S S3 b := fun b h1 h2 => ((show Eqc S Y b by rw [hY]; exact Eqc_I h2).tr (x1.2 b h1)).tr ((x2.2 b h1).tr (x3.2 b h1))
      have I38 : ms_I S3 38 = ms_I Y 38 := by rw [(x3.2 38 (by decide)).1, (x2.2 38 (by decide)).1, (x1.2 38 (by decide)).1]
      have A9 : ∀ b, ms_A S9 b = ms_A S3 b := fun b => by rw [hS9]; simp only [mGo]
      rw [← p2 t3]
      refine CW_lim hw hk hg.2.2.1 (fun i hi => ?_) ?_ ?_ ?_ ?_ (fun b h1 h2 => ?_)
      · rw [hS9]; simp only [mG, true_and, if_neg hi]; rw [(E3 a na.1 na.2.1).1]
      · rw [hS9]; simp only [mG, and_self, if_true]
      · rw [show ms_I S9 38 = ms_I S3 38 by rw [hS9]; exact (Eqc_I na.2.1.symm).1, I38, hY]
        simp only [mG, and_self, if_true]
        rw [hw.2.2.1.1]
      · rw [show ms_I S9 38 = ms_I S3 38 by rw [hS9]; exact (Eqc_I na.2.1.symm).1, I38, hY]
        simp [mG]
      · have n2 := hne (a + 2) (by omega) (by omega)
        rw [show ms_L S9 (a + 2) = ms_L S3 (a + 2) by rw [hS9]; simp only [mGo], (E3 (a + 2) n2.1 n2.2.1).2.2.2.2.1]
      · have nb := hne (a + b) (by omega) (by omega)
        rw [A9, (E3 (a + b) nb.1 nb.2.1).2.2.2.1]
end LC3
