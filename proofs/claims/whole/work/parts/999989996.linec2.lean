/-! lines of a convention: the class, kind and may -/
def ResV (f : mM Unit) (S : ms_S) (X : Nat → Int32) (L a : Nat) (w' : Cw) : Prop := ∃ S1, f S = some ((), S1) ∧ CS S1 X L (wSg w') ∧ (gd (wSg w') = true → CW S1 a w') ∧ oRv a S S1
section LC2
variable {N : Nat} {X : Nat → Int32} {L : Nat} {a st : Nat} {ln : List (List Int32)}
theorem cvne (oa : o_cv a) : ∀ b, a ≤ b → b ≤ a + 7 → b ≠ 6 ∧ b ≠ 38 ∧ b ≠ 8 ∧ b ≠ 9 ∧ b ≠ 10 ∧ b ≠ 4 := by
  intro b h1 h2
  rcases oa with rfl | rfl | rfl | rfl | rfl <;> omega
theorem or0 {x : Int32} : x ||| askOf [] = x := by
  show x ||| 0 = x
  simp
/-- a line refused -/
theorem refV {S : ms_S} {w : Cw} {j : Nat} (hb : TxB X L) (hj : wSg w = .inr j) (hc : CS S X L (.inr j)) : ∃ S1, f101 N 2 S = some ((), S1) ∧ CS S1 X L (wSg ((rf X L 2 (wSg w), w.2) : Cw)) ∧ (gd (wSg ((rf X L 2 (wSg w), w.2) : Cw)) = true → CW S1 a (rf X L 2 (wSg w), w.2)) ∧ oRv a S S1 := by
  obtain ⟨S1, e1, c1, x1⟩ := q101 (N := N) (c := 2) hb (by omega) hc
  exact ⟨S1, e1, by show CS S1 X L (rf X L 2 (wSg w)); rw [hj]; exact c1, (fun z => by have z : gd (rf X L 2 (wSg w)) = true := z; rw [gd_rf] at z; cases z), x1.r⟩
set_option maxHeartbeats 1000000 in
theorem q5 {S : ms_S} {w : Cw} {j : Nat} (hN : 1300 ≤ N) (hb : TxB X L) (oa : o_cv a) (ost : o_st st) (hln : ln.length ≤ 8) (hg : CwG X L w) (hj : wSg w = .inr j) (h0 : tTy (tkJ X L j) ≠ 0) (hr : RC S a st true (knW w) ln) (hc : CS S X L (.inr j)) (hw : CW S a w) : ResV (f5 N) S X L a (kLn X L ln w) := by
  have hne := cvne oa
  have hgd : gd (wSg w) = true := by rw [hj]; rfl
  obtain ⟨⟨b1, b2, b3⟩, _⟩ := hg.2.2.2 hgd
  have hjx : idx (wSg w) = j := by rw [hj]; rfl
  rw [hjx] at b1 b3
  have hnt := ntk_bd hb (j := j) (by omega)
  have hK6 := hg.1
  have hl := knW_len (w := w)
  have l6 : (Int32.ofNat (wK w).length < 6) ↔ (wK w).length < 6 := ofN_lt (j := 6) (by omega) (by omega)
  unfold kLn
  by_cases h6 : 6 ≤ (wK w).length
  · rw [if_pos h6]
    obtain ⟨S1, e1, r⟩ := refV (N := N) (a := a) (w := w) hb hj hc
    refine ⟨S1, ?_, r⟩
    unfold f5
    rw [EgRo hr.2.2.1 (isCv_o oa)]
    simp only [mE, hw.1.2.1]
    rw [if_neg (fun z => by have := l6.1 z; omega), EgRo hr.1 isA6]
    simp only [mb, e1]
    rfl
  · rw [if_neg h6]
    have i1 : inR (Int32.ofNat (wK w).length) 6 := ofN_inR (by omega) (by omega)
    have i2 := ofN_cl (i := (wK w).length) (by omega)
    obtain ⟨S1, e1, c1, x1⟩ := q100 (N := N) hb hc h0
    have r1 := RC_x oa ost hr x1
    obtain ⟨v, S2, e2, p2, c2, x2⟩ := q105 (N := N) (b := a + 2) (n := 6) (nl := knW w) (by omega) hb c1 (by omega) (by omega) r1.2.2.2.2.2.1
    rw [hl] at e2
    have r2 := RC_x oa ost r1 x2
    have Z3 : ∃ Z, Z = ms_setL S2 (a + 2) (wK w).length v := ⟨_, rfl⟩
    obtain ⟨S3, hS3⟩ := Z3
    have r3 : RC S3 a st true (knW w) ln := by rw [hS3, ← hl]; exact RC_nm oa ost r2
    have c3 : CS S3 X L (nwN X L (knW w) (.inr (j + 1))) := by rw [hS3]; exact CS_L c2 (hne (a + 2) (by omega) (by omega)).2.2.2.2.1
    obtain ⟨S4, e4, c4, x4⟩ := q103 (N := N) (ty := 122) hb (by omega) c3
    have e4 : f103 N 122 S3 = some ((), S4) := e4
    have r4 := RC_x oa ost r3 x4
    have E4 : ∀ b, b ≠ 6 → b ≠ a + 2 → Eqc S S4 b := fun b h1 h2 => (((x1.2 b h1).tr (x2.2 b h1)).tr (by rw [hS3]; exact Eqc_L h2)).tr (x4.2 b h1)
    have na := hne a (by omega) (by omega)
    have k1 : ms_I S4 a 1 = Int32.ofNat (ccW w) := by rw [(E4 a na.1 (by omega)).1]; exact hw.1.2.2.2
    have Z5 : ∃ Z, Z = ms_setA S4 (a + 3) (wK w).length (Int32.ofNat (ccW w)) := ⟨_, rfl⟩
    obtain ⟨S5, hS5⟩ := Z5
    have r5 : RC S5 a st true (knW w) ln := by rw [hS5]; exact RC_A r4
    have n3 := hne (a + 3) (by omega) (by omega)
    have n4 := hne (a + 4) (by omega) (by omega)
    have n2 := hne (a + 2) (by omega) (by omega)
    have n1 := hne (a + 1) (by omega) (by omega)
    have c5 : CS S5 X L (dm X L 122 (nwN X L (knW w) (.inr (j + 1)))) := by rw [hS5]; exact CS_A c4 n3.2.2.1 n3.2.2.2.1
    have E5 : ∀ b, b ≠ 6 → b ≠ a + 2 → b ≠ a + 3 → Eqc S S5 b := fun b h1 h2 h3 => (E4 b h1 h2).tr (by rw [hS5]; exact Eqc_A h3)
    have hin : InT X L (dm X L 122 (nwN X L (knW w) (.inr (j + 1)))) := inT_dm hb (inT_nw hb (fun _ => (tkJ_nx hb b1 h0).1)) (by decide)
    have hidx : gd (dm X L 122 (nwN X L (knW w) (.inr (j + 1)))) = true → idx (dm X L 122 (nwN X L (knW w) (.inr (j + 1)))) = j + 3 := fun z => by
      have q1 := idx_dm z
      obtain ⟨_, _, _, q2⟩ := gd_nw (gd_dm z).1
      have q3 : idx (nwN X L (knW w) (.inr (j + 1))) = j + 1 + 1 := by rw [q2]; rfl
      omega
    obtain ⟨S6, e6, c6, r6, k6, x6⟩ := exC (N := N) (a := a) (st := st) (c0 := ccW w) (as0 := askK (wK w)) (kl := true) (kn := knW w) (ln := ln) hN hb oa ost (by omega) hln 100 0 0 (by omega) (by omega) (by decide) (dm X L 122 (nwN X L (knW w) (.inr (j + 1))), [], wU w) S5 hin r5 c5 (fun hq => ⟨⟨by rw [hS5]; simp only [mGo]; exact k1, fun i hi => absurd hi (Nat.not_lt_zero i), by rw [(E5 38 (by decide) n2.2.1.symm n3.2.1.symm).1]; exact hw.2.2.1.2.1, by rw [if_pos rfl, or0, (E5 a na.1 (by omega) (by omega)).1]; exact hw.2.2.1.2.2⟩, by
      unfold Pot
      show ccW w + 0 + 0 ≤ 2 * wU w + ntk X L (idx (dm X L 122 (nwN X L (knW w) (.inr (j + 1)))))
      have := ntk_le (X := X) (L := L) (show j ≤ idx (dm X L 122 (nwN X L (knW w) (.inr (j + 1)))) by rw [hidx hq]; omega)
      omega, b2⟩)
    have ek : kEx X L ln w = pE X L true (knW w) ln 100 0 0 (dm X L 122 (nwN X L (knW w) (.inr (j + 1))), [], wU w) := by unfold kEx; rw [hj]; rfl
    rw [← ek] at c6 k6
    have e6 : f11 N 100 0 0 S5 = some ((), S6) := e6
    have Z7 : ∃ Z, Z = ms_setA S6 (a + 4) (wK w).length (ms_I S6 a 1) := ⟨_, rfl⟩
    obtain ⟨S7, hS7⟩ := Z7
    have r7 : RC S7 a st true (knW w) ln := by rw [hS7]; exact RC_A r6
    have c7 : CS S7 X L (kEx X L ln w).1 := by rw [hS7]; exact CS_A c6 n4.2.2.1 n4.2.2.2.1
    obtain ⟨S8, e8, c8, x8⟩ := q103 (N := N) (ty := 59) hb (by omega) c7
    have e8 : f103 N 59 S7 = some ((), S8) := e8
    have r8 := RC_x oa ost r7 x8
    have E8 : ∀ b, b ≠ 6 → b ≠ a + 4 → Eqc S6 S8 b := fun b h1 h2 => (show Eqc S6 S7 b by rw [hS7]; exact Eqc_A h2).tr (x8.2 b h1)
    have k5 : ms_I S8 a 5 = Int32.ofNat (wK w).length := by rw [← hl]; exact r8.2.2.2.2.1
    have Z9 : ∃ Z, Z = ms_setI S8 a 5 (Int32.ofNat ((wK w).length + 1)) := ⟨_, rfl⟩
    obtain ⟨S9, hS9⟩ := Z9
    have nmj : nmV X L (nx (wSg w)) = nmV X L (.inr (j + 1)) := by rw [hj]; rfl
    rw [nmj]
    refine ⟨S9, ?_, by rw [hS9]; exact CS_I c8 na.1, fun z => ?_, ?_⟩
    · have m100 : ∀ {β : Type} {f' : Unit → mM β}, mb (f100 N) f' S = f' () S1 := by intro β f'; simp only [mb, e1]
      have m105 : ∀ {β : Type} {f' : Int64 → mM β}, mb (f105 N (a + 2) 6 (Int32.ofNat (wK w).length)) f' S1 = f' v S2 := by intro β f'; simp only [mb, e2]
      have m122 : ∀ {β : Type} {f' : Unit → mM β}, mb (f103 N 122) f' S3 = f' () S4 := by intro β f'; simp only [mb, e4]
      have m11 : ∀ {β : Type} {f' : Unit → mM β}, mb (f11 N 100 0 0) f' S5 = f' () S6 := by intro β f'; simp only [mb, e6]
      have m59 : ∀ {β : Type} {f' : Unit → mM β}, mb (f103 N 59) f' S7 = f' () S8 := by intro β f'; simp only [mb, e8]
      unfold f5
      rw [EgRo hr.2.2.1 (isCv_o oa)]
      simp only [mE, hw.1.2.1]
      rw [if_pos (l6.2 (by omega)), EgRo hr.1 isA6, m100, EgRo r1.2.2.1 (isCv_o oa), EgRo r1.1 isA6, EgRo r1.2.2.1 (isCv_o oa), m105]
      simp only [mE, mF, i1, i2, ← hS3]
      rw [EgRo r3.1 isA6, m122, EgRo r4.2.2.1 (isCv_o oa), EgRo r4.2.2.1 (isCv_o oa)]
      simp only [mE, i1, i2, k1, ← hS5]
      rw [m11, EgRo r6.2.2.1 (isCv_o oa), EgRo r6.2.2.1 (isCv_o oa)]
      simp only [mE, i1, i2, ← hS7]
      rw [EgRo r7.1 isA6, m59, EgRo r8.2.2.1 (isCv_o oa)]
      simp only [mE, k5, ofN_s, ← hS9]
    · have z : gd (dm X L 59 (kEx X L ln w).1) = true := z
      have gr := (gd_dm z).1
      obtain ⟨w1, w2, w3, w4⟩ := k6 gr
      have gσ : gd (dm X L 122 (nwN X L (knW w) (.inr (j + 1)))) = true := by
        cases hq : gd (dm X L 122 (nwN X L (knW w) (.inr (j + 1)))) with
        | true => rfl
        | false =>
          have := pE_bad (X := X) (L := L) (kl := true) (kn := knW w) (ln := ln) 100 0 0 (dm X L 122 (nwN X L (knW w) (.inr (j + 1))), [], wU w) hq
          rw [ek, this] at gr
          have gr : gd (dm X L 122 (nwN X L (knW w) (.inr (j + 1)))) = true := gr
          rw [hq] at gr; cases gr
      obtain ⟨_, t2, _, _⟩ := gd_nw (gd_dm gσ).1
      have hlt : ltw (nmV X L (.inr (j + 1))) := (nm_ltw hb (tkJ_nx hb b1 h0).1 (Or.inl (of_decide_eq_true t2))).1
      have I9 : ∀ i, i ≠ 5 → ms_I S9 a i = ms_I S6 a i := fun i hi => by rw [hS9]; simp only [mG, true_and, if_neg hi]; rw [(E8 a na.1 (by omega)).1]
      have E9 : ∀ b, b ≠ a → Eqc S8 S9 b := fun b hb' => by rw [hS9]; exact Eqc_I hb'
      have A9 : ∀ b, ms_A S9 b = ms_A S8 b := fun b => by rw [hS9]; simp only [mGo]
      have L9 : ∀ b, ms_L S9 b = ms_L S8 b := fun b => by rw [hS9]; simp only [mGo]
      have o6 := x6.2.2.2.2.2 (ccW w) (by omega) (by rw [hS5]; simp only [mGo]; exact k1)
      obtain ⟨_, _, _, _, o6⟩ := o6
      refine CW_kind hw (fun i h1 h2 h3 => ?_) ?_ ?_ ?_ ?_ ?_ (fun i hi => ?_) ?_ hlt (fun b i hb' hi => ?_) ?_ ?_ (fun b h1 h2 => ?_) (fun i hi => ?_) (fun i hi => ?_)
      · rw [I9 i h2, x6.2.2.2.1 i h1 h3, (E5 a na.1 (by omega) (by omega)).1]
      · rw [I9 1 (by decide)]; exact w1
      · rw [hS9]; simp only [mG, and_self, if_true]
      · rw [I9 6 (by decide), w4, if_pos rfl]
      · rw [(E9 38 na.2.1.symm).1, (E8 38 (by decide) n4.2.1.symm).1, x6.2.1 5 (by decide), (E5 38 (by decide) n2.2.1.symm n3.2.1.symm).1]
      · rw [(E9 38 na.2.1.symm).1, (E8 38 (by decide) n4.2.1.symm).1]; exact w3
      · rw [L9, (E8 (a + 2) n2.1 (by omega)).2.2.2.2.1, (x6.2.2.2.2.1 (a + 2) n2.1 n2.2.1 (by omega) (by omega)).2.2.2.2.1, show ms_L S5 (a + 2) = ms_L S4 (a + 2) by rw [hS5]; simp only [mGo], (x4.2 (a + 2) n2.1).2.2.2.2.1, hS3]
        simp only [mG, true_and]
        rw [if_neg (by omega), (x2.2 (a + 2) n2.1).2.2.2.2.1, (x1.2 (a + 2) n2.1).2.2.2.2.1]
      · rw [L9, (E8 (a + 2) n2.1 (by omega)).2.2.2.2.1, (x6.2.2.2.2.1 (a + 2) n2.1 n2.2.1 (by omega) (by omega)).2.2.2.2.1, show ms_L S5 (a + 2) = ms_L S4 (a + 2) by rw [hS5]; simp only [mGo], (x4.2 (a + 2) n2.1).2.2.2.2.1, hS3]
        simp only [mG, and_self, if_true]
        exact p2 t2
      · rw [A9]
        rcases hb' with rfl | rfl
        · rw [(E8 (a + 3) n3.1 (by omega)).2.2.2.1, (x6.2.2.2.2.1 (a + 3) n3.1 n3.2.1 (by omega) (by omega)).2.2.2.1, hS5]
          simp only [mG, true_and]
          rw [if_neg hi, (E4 (a + 3) n3.1 (by omega)).2.2.2.1]
        · rw [(x8.2 (a + 4) n4.1).2.2.2.1, hS7]
          simp only [mG, true_and]
          rw [if_neg hi, (x6.2.2.2.2.1 (a + 4) n4.1 n4.2.1 (by omega) (by omega)).2.2.2.1, (E5 (a + 4) n4.1 (by omega) (by omega)).2.2.2.1]
      · rw [A9, (E8 (a + 3) n3.1 (by omega)).2.2.2.1, (x6.2.2.2.2.1 (a + 3) n3.1 n3.2.1 (by omega) (by omega)).2.2.2.1, hS5]
        simp only [mG, and_self, if_true]
      · rw [A9, (x8.2 (a + 4) n4.1).2.2.2.1, hS7]
        simp only [mG, and_self, if_true]
        exact w1
      · have nb := hne (a + b) (by omega) (by omega)
        rw [A9, (E8 (a + b) nb.1 (by omega)).2.2.2.1, (x6.2.2.2.2.1 (a + b) nb.1 nb.2.1 (by omega) (by omega)).2.2.2.1, (E5 (a + b) nb.1 (by omega) (by omega)).2.2.2.1]
      · rw [A9, (E8 (a + 1) n1.1 (by omega)).2.2.2.1, o6 i hi, (E5 (a + 1) n1.1 (by omega) (by omega)).2.2.2.1]
      · rw [A9, (E8 (a + 1) n1.1 (by omega)).2.2.2.1]; exact w2 i hi
    · refine ((((x1.r.tr x2.r).tr (by rw [hS3]; exact oRv.L (by omega))).tr x4.r).tr (by rw [hS5]; exact oRv.A (by omega))).tr ((x6.r.tr (by rw [hS7]; exact oRv.A (by omega))).tr (x8.r.tr (by rw [hS9]; exact oRv.I (Or.inl (by omega)) na.1)))
end LC2
