/-! arrange, openPlan, plan and goes: the class -/
def bst (A : Ab) (s : Nat) (k d : Int32) : Bs := if gF A = -1 then (0, []) else best (PPd A s k d)
/-- what the class's plan holds -/
def CPk (S : ms_S) (A : Ab) (s : Nat) (d k : Int32) : Prop := s < 4 ∧ ms_I S 64 0 = Int32.ofNat s ∧ ms_I S 64 1 = d ∧ ms_I S 64 2 = k ∧ ms_I S 64 6 = Int32.ofNat (dayN8 A s k d).length ∧ ms_I S 64 7 = Int32.ofNat (bst A s k d).1 ∧ ∀ p, p < (dayN8 A s k d).length → ms_A S 65 p = Int32.ofNat ((dayN8 A s k d).getD p 0) ∧ ms_A S 66 p = aX A 22 ((dayN8 A s k d).getD p 0) ∧ ms_A S 67 p = Int32.ofNat (rdA A ((dayN8 A s k d).getD p 0)) ∧ ms_A S 68 p = Int32.ofNat (thA A ((dayN8 A s k d).getD p 0)) ∧ ms_A S 69 p = begF (bst A s k d).2 p ∧ ms_A S 70 p = plF (bst A s k d).2 p
def CPok (S : ms_S) (A : Ab) : Prop := ms_I S 64 3 = ms_I S 4 20 → ∃ s d k, CPk S A s d k
theorem CPk_fr {S S1 : ms_S} {A : Ab} {s : Nat} {d k : Int32} (h : CPk S A s d k) (hI : ∀ j, j ≠ 3 → ms_I S1 64 j = ms_I S 64 j) (hE : ∀ b, 65 ≤ b → b ≤ 70 → ms_A S1 b = ms_A S b) : CPk S1 A s d k := by
  unfold CPk at *
  rw [hI 0 (by omega), hI 1 (by omega), hI 2 (by omega), hI 6 (by omega), hI 7 (by omega), hE 65 (by omega) (by omega), hE 66 (by omega) (by omega), hE 67 (by omega) (by omega), hE 68 (by omega) (by omega), hE 69 (by omega) (by omega), hE 70 (by omega) (by omega)]
  exact h
section PL2
variable {N : Nat} {A : Ab}
theorem q60 {S : ms_S} {x y z c : Int32} : f60 N x y z c S = some (if ms_I S 64 0 = x ∧ ms_I S 64 1 = y ∧ ms_I S 64 2 = z ∧ ms_I S 64 3 = c then 0 else 1, ms_setI (ms_setI (ms_setI (ms_setI S 64 0 x) 64 1 y) 64 2 z) 64 3 c) := by
  unfold f60
  simp only [mE]
  by_cases h1 : ms_I S 64 0 = x
  · by_cases h2 : ms_I S 64 1 = y
    · by_cases h3 : ms_I S 64 2 = z
      · by_cases h4 : ms_I S 64 3 = c
        · simp only [h1, h2, h3, h4, ne_eq, not_true_eq_false, if_false, and_self, if_true, i10, not_false_eq_true]
          simp only [mE, true_or]
        · simp only [h1, h2, h3, h4, ne_eq, not_true_eq_false, not_false_eq_true, if_false, if_true, and_false]
          simp only [mE, or_true]
      · simp only [h1, h2, h3, ne_eq, not_true_eq_false, not_false_eq_true, if_false, if_true, false_and, and_false]
        simp only [mE, or_true]
    · simp only [h1, h2, ne_eq, not_true_eq_false, not_false_eq_true, if_false, if_true, false_and, and_false]
      simp only [mE, or_true]
  · simp only [h1, ne_eq, not_true_eq_false, not_false_eq_true, if_false, if_true, false_and]
    simp only [mE, or_true]
theorem gF_ne (hw : WF0 A) (h : gF A ≠ -1) : ∃ f t, gF A = Int32.ofNat f ∧ gT A = Int32.ofNat t ∧ f ≤ t ∧ t < aN A 1 := by
  have hn1 : aN A 1 ≤ 20 := hw.1.2.1
  rcases goF_T (X := aX A 4) (aN A 1) (by omega) with q | q
  · exact absurd q.1 h
  · exact q
theorem gp_eq (hw : WF0 A) {s : Nat} {k d : Int32} : aX A 40 1 = Int32.ofNat (pGp (PPd A s k d)) := by
  obtain ⟨_, _, g1, g2, _, _⟩ := hw.2.1
  obtain ⟨q, h1, h2⟩ := i32_nat (x := aX A 40 1) (n := 61) (by generalize aX A 40 1 = z at *; clear hw; grind) (by omega) (by generalize aX A 40 1 = z at *; clear hw; grind)
  show _ = Int32.ofNat (aX A 40 1).toNatClampNeg
  rw [h2, ofN_cl (by omega)]
theorem q62 {S : ms_S} {s : Nat} {k d gv : Int32} (hN : 300 ≤ N) (hw : WF0 A) (hgv : gv = if gF A = -1 then 0 else 1) (h4 : ms_I S 64 4 = gv) (hr : RwC S A (dayN8 A s k d)) : ∃ S1, f62 N (aX A 40 1) S = some ((), S1) ∧ ms_I S1 64 6 = Int32.ofNat (dayN8 A s k d).length ∧ ms_I S1 64 7 = Int32.ofNat (bst A s k d).1 ∧ (∀ p, p < (dayN8 A s k d).length → ms_A S1 69 p = begF (bst A s k d).2 p ∧ ms_A S1 70 p = plF (bst A s k d).2 p) ∧ (∀ j, j ≠ 5 → j ≠ 7 → ms_I S1 64 j = ms_I S 64 j) ∧ ∀ b, b ≠ 64 → ¬ (69 ≤ b ∧ b ≤ 72) → Eqc S S1 b := by
  unfold f62
  simp only [mE]
  have i4 : ms_I (ms_setI S 64 5 (aX A 40 1)) 64 4 = gv := by simp [mG]; exact h4
  have i42 : ∀ v, ms_I (ms_setI (ms_setI S 64 5 (aX A 40 1)) 64 7 v) 64 4 = gv := by intro v; simp [mG]; exact h4
  by_cases hg : gF A = -1
  · have g0 : gv = 0 := by rw [hgv, if_pos hg]
    simp only [i4, i42, if_pos g0]
    have eb : bst A s k d = (0, []) := if_pos hg
    refine ⟨_, rfl, ?_, ?_, fun p hp => ?_, fun j h1 h2 => ?_, fun b h1 h2 => (Eqc_I h1).tr (Eqc_I h1)⟩
    · simp [mG]; exact hr.1
    · rw [eb]; simp [mG]
    · rw [eb]
      simp only [mGo]
      obtain ⟨_, _, _, _, b5, b6⟩ := hr.2 p hp
      exact ⟨b5, b6⟩
    · simp only [mG, h1, h2, and_false, if_false]
  · have g1 : gv ≠ 0 := by rw [hgv, if_neg hg]; decide
    simp only [i4, i42, if_neg g1]
    have eb : bst A s k d = best (PPd A s k d) := if_neg hg
    have hP := PB_d hw (s := s) (k := k) (d := d)
    obtain ⟨hbC, hb2⟩ := best_C hP
    have X0 : ∃ X, X = ms_setI (ms_setI S 64 5 (aX A 40 1)) 64 7 1000000 := ⟨_, rfl⟩
    obtain ⟨X, hX⟩ := X0
    have oX : ∀ b, b ≠ 64 → Eqc S X b := fun b hb => by rw [hX]; exact (Eqc_I hb).tr (Eqc_I hb)
    have x6 : ms_I X 64 6 = Int32.ofNat (dayN8 A s k d).length := by rw [hX]; simp [mG]; exact hr.1
    obtain ⟨S1, e1, b1, _, o1⟩ := q63 (N := N) (P := PPd A s k d) (by omega) hP (pC (PPd A s k d)) [] 0 0 12 (1000000, []) X (by have := hP.1; omega) (by simp) (nfr_nil _) trivial ⟨fun x hx => (by cases hx), Nat.zero_le _⟩ ⟨by decide, fun p _ => by rw [Nat.zero_testBit]; exact ⟨fun _ => rfl, fun _ => rfl⟩⟩ ⟨x6, by rw [hX]; simp [mG]; exact gp_eq hw, fun p hp => by
      rw [(oX 66 (by decide)).2.2.2.1, (oX 67 (by decide)).2.2.2.1, (oX 68 (by decide)).2.2.2.1]
      obtain ⟨_, b2, b3, b4, _, _⟩ := hr.2 p hp
      exact ⟨b2, b3, b4⟩⟩ (fun p hp => by cases hp) ⟨by rw [hX]; simp [mG], by decide, fun p hp => by
      rw [(oX 69 (by decide)).2.2.2.1, (oX 70 (by decide)).2.2.2.1]
      obtain ⟨_, _, _, _, b5, b6⟩ := hr.2 p hp
      exact ⟨b5, b6⟩⟩
    rw [hbC] at b1
    have e1' : f63 N 12 0 0 0 X = some ((), S1) := e1
    have m63 : ∀ {β : Type} {f' : Unit → mM β}, mb (f63 N 12 0 0 0) f' X = f' () S1 := by intro β f'; simp only [mb, e1']
    rw [← hX, m63]
    refine ⟨S1, rfl, by rw [o1.1 6 (by decide)]; exact x6, by rw [eb]; exact b1.1, fun p hp => by rw [eb]; exact b1.2.2 p hp, fun j h1 h2 => ?_, fun b h1 h2 => (oX b h1).tr (o1.2 b h1 h2)⟩
    rw [o1.1 j h2, hX]
    simp only [mG, h1, h2, and_false, if_false]
theorem q147 {S : ms_S} {s : Nat} {k d : Int32} (hN : 1300 ≤ N) (h : cBase S A) (hw : WF0 A) (hv : WFv A) (hL : CLok S A) (hP : CPok S A) (hs : s < 4) : ∃ S1, f147 N (Int32.ofNat s) d k S = some ((), S1) ∧ CLk S1 A s k ∧ CPk S1 A s d k ∧ ms_I S1 57 7 = ms_I S 4 20 ∧ ms_I S1 64 3 = ms_I S 4 20 ∧ ∀ b, ¬ (54 ≤ b ∧ b ≤ 72) → Eqc S S1 b := by
  have hn3 : aN A 3 ≤ 20 := hw.1.2.2.2.1
  have hn1 : aN A 1 ≤ 20 := hw.1.2.1
  obtain ⟨S1, e1, l1, c1, o1⟩ := q146 (N := N) (k := k) hN h hw hv hL hs
  have b1 : cBase S1 A := cBase_led h hn3 (fun b hb => o1 b (by omega))
  have hb := b1
  obtain ⟨_, hnum, ⟨st, st2, e3, _, ho, hst, h9, h10, _⟩, _, _, _, _, _⟩ := b1
  have ost : o_st st := by rcases ho with h | h; exact Or.inl h.1; exact Or.inr h.1
  have c4 : ms_I S1 4 20 = ms_I S 4 20 := by rw [(o1 4 (by omega)).1]
  have m146 : ∀ {β : Type} {f : Unit → mM β}, mb (f146 N (Int32.ofNat s) k) f S = f () S1 := by intro β f; simp only [mb, e1]
  have X0 : ∃ X, X = ms_setI (ms_setI (ms_setI (ms_setI S1 64 0 (Int32.ofNat s)) 64 1 d) 64 2 k) 64 3 (ms_I S1 4 20) := ⟨_, rfl⟩
  obtain ⟨X, hX⟩ := X0
  have oX : ∀ b, b ≠ 64 → Eqc S1 X b := fun b hb => by rw [hX]; exact (((Eqc_I hb).tr (Eqc_I hb)).tr (Eqc_I hb)).tr (Eqc_I hb)
  have m60 : ∀ {β : Type} {f : Int32 → mM β}, mb (f60 N (Int32.ofNat s) d k (ms_I S1 4 20)) f S1 = f (if ms_I S1 64 0 = Int32.ofNat s ∧ ms_I S1 64 1 = d ∧ ms_I S1 64 2 = k ∧ ms_I S1 64 3 = ms_I S1 4 20 then 0 else 1) X := by intro β f; simp only [mb, q60, hX]
  have lX : CLk X A s k := CLk_fr l1 (fun j _ => by rw [(oX 57 (by omega)).1]) (by rw [(oX 57 (by omega)).2.2.1]) (fun b h1 h2 => (oX b (by omega)).2.2.2.1)
  have x3 : ms_I X 64 3 = ms_I S 4 20 := by rw [hX]; simp [mG]; exact c4
  unfold f147
  simp only [mE]
  rw [m146]
  simp only [mE]
  rw [m60]
  by_cases hc : ms_I S1 64 0 = Int32.ofNat s ∧ ms_I S1 64 1 = d ∧ ms_I S1 64 2 = k ∧ ms_I S1 64 3 = ms_I S1 4 20
  · rw [if_pos hc, if_pos rfl]
    refine ⟨X, rfl, lX, ?_, by rw [(oX 57 (by omega)).1]; exact c1, x3, fun b hb => (o1 b (by omega)).tr (oX b (by omega))⟩
    have i64 : ms_I S1 64 = ms_I S 64 := (o1 64 (by omega)).1
    obtain ⟨s', d', k', hk⟩ := hP (by rw [← i64, ← c4]; exact hc.2.2.2)
    have hk1 : CPk S1 A s' d' k' := CPk_fr hk (fun j _ => by rw [i64]) (fun b h1 h2 => (o1 b (by omega)).2.2.2.1)
    have es : s' = s := (ofN_eq (by have := hk.1; omega) (by omega)).1 (hk1.2.1.symm.trans hc.1)
    have ed : d' = d := hk1.2.2.1.symm.trans hc.2.1
    have ek : k' = k := hk1.2.2.2.1.symm.trans hc.2.2.1
    subst es ed ek
    refine CPk_fr hk1 (fun j hj => ?_) (fun b h1 h2 => (oX b (by omega)).2.2.2.1)
    rw [hX]
    simp only [mG, true_and, if_neg hj]
    by_cases h2 : j = 2
    · subst h2; rw [if_pos rfl]; exact hc.2.2.1.symm
    · rw [if_neg h2]
      by_cases h1 : j = 1
      · subst h1; rw [if_pos rfl]; exact hc.2.1.symm
      · rw [if_neg h1]
        by_cases h0 : j = 0
        · subst h0; rw [if_pos rfl]; exact hc.1.symm
        · rw [if_neg h0]
  · rw [if_neg hc, if_neg (by decide), EgRo (by rw [(oX 4 (by omega)).2.2.1]; exact e3) (isSt_o ost)]
    -- take the day
    have gvE : ∃ gv : Int32, gv = if gF A = -1 then 0 else 1 := ⟨_, rfl⟩
    obtain ⟨gv, hgv⟩ := gvE
    have Y0 : ∃ Y, Y = ms_setI (ms_setI X 64 4 gv) 64 6 0 := ⟨_, rfl⟩
    obtain ⟨Y, hY⟩ := Y0
    have oY : ∀ b, b ≠ 64 → Eqc S1 Y b := fun b hb => (oX b hb).tr (by rw [hY]; exact (Eqc_I hb).tr (Eqc_I hb))
    have hst9 : st ≠ 64 := by rcases ost with rfl | rfl <;> decide
    have h9 : ms_I S1 st 9 = gF A := h9
    have h10 : ms_I S1 st 10 = gT A := h10
    have e75 : ∀ {β : Type} {f' : Int32 → mM β}, mb (f75 N st) f' X = f' gv X := by
      intro β f'
      have : f75 N st X = some (gv, X) := by
        unfold f75
        simp only [mE, (oX st hst9).1, h9]
        by_cases hg : gF A = -1
        · rw [if_pos hg, hgv, if_pos hg]; simp only [mE, true_or]
        · rw [if_neg hg, hgv, if_neg hg]; simp only [mE, or_true]
      simp only [mb, this]
    have gv01 : gv = 0 ∨ gv = 1 := by rw [hgv]; split; exact Or.inl rfl; exact Or.inr rfl
    obtain ⟨S2, e2, r2, g2, o2⟩ := takeL (N := N) (A := A) (a := st) (s := s) (k := k) (d := d) (gv := gv) (by omega) hw ost hgv (aN A 4) 0 N Y (by omega) (by have : aN A 4 ≤ 200 := hw.1.2.2.2.2.1; omega) (cBase_led hb hn3 (fun b hb => oY b (by omega))) (CLk_fr l1 (fun j _ => by rw [(oY 57 (by omega)).1]) (by rw [(oY 57 (by omega)).2.2.1]) (fun b h1 h2 => (oY b (by omega)).2.2.2.1)) (cStrAt_fr hst (fun b h1 h2 => oY b (by rcases ost with rfl | rfl <;> omega))) (by rw [(oY st hst9).1]; exact h9) (by rw [(oY st hst9).1]; exact h10) (by rw [hY, hX]; simp [mG]) (by rw [hY]; simp [mG]) ⟨by rw [hY]; simp [mG, dayL], fun p hp => absurd hp (by simp [dayL])⟩
    have m61 : ∀ {β : Type} {f' : Unit → mM β}, mb (f61 N st) f' X = f' () S2 := by
      intro β f'
      have : f61 N st X = some ((), S2) := by
        unfold f61
        rw [e75]
        simp only [mE, gv01, ← hY]
        exact e2
      simp only [mb, this]
    rw [m61]
    have oS2 : ∀ b, ¬ (64 ≤ b ∧ b ≤ 70) → Eqc S1 S2 b := fun b hb => (oY b (by omega)).tr (o2.2 b hb)
    have h18 : ms_I S2 4 18 = aX A 40 1 := by rw [(oS2 4 (by omega)).1]; exact hnum.2.1
    simp only [mE, h18]
    obtain ⟨S3, e3', t6, t7, tA, tI, o3⟩ := q62 (N := N) (A := A) (S := S2) (s := s) (k := k) (d := d) (gv := gv) (by omega) hw hgv g2 r2
    have m62 : ∀ {β : Type} {f' : Unit → mM β}, mb (f62 N (aX A 40 1)) f' S2 = f' () S3 := by intro β f'; simp only [mb, e3']
    rw [m62]
    have oS3 : ∀ b, ¬ (64 ≤ b ∧ b ≤ 72) → Eqc S1 S3 b := fun b hb => (oS2 b (by omega)).tr (o3 b (by omega) (by omega))
    have iS3 : ∀ j, j < 4 → ms_I S3 64 j = ms_I X 64 j := fun j hj => by
      rw [tI j (by omega) (by omega), o2.1 j (by omega) (by omega), hY]
      simp only [mG, show ¬ j = 6 by omega, show ¬ j = 4 by omega, and_false, if_false]
    refine ⟨S3, rfl, CLk_fr l1 (fun j _ => by rw [(oS3 57 (by omega)).1]) (by rw [(oS3 57 (by omega)).2.2.1]) (fun b h1 h2 => (oS3 b (by omega)).2.2.2.1), ⟨hs, ?_, ?_, ?_, t6, t7, fun p hp => ?_⟩, by rw [(oS3 57 (by omega)).1]; exact c1, by rw [iS3 3 (by omega)]; exact x3, fun b hb => (o1 b (by omega)).tr (oS3 b (by omega))⟩
    · rw [iS3 0 (by omega), hX]; simp [mG]
    · rw [iS3 1 (by omega), hX]; simp [mG]
    · rw [iS3 2 (by omega), hX]; simp [mG]
    · obtain ⟨b1, b2, b3, b4, _, _⟩ := r2.2 p hp
      rw [(o3 65 (by decide) (by decide)).2.2.2.1, (o3 66 (by decide) (by decide)).2.2.2.1, (o3 67 (by decide) (by decide)).2.2.2.1, (o3 68 (by decide) (by decide)).2.2.2.1]
      exact ⟨b1, b2, b3, b4, tA p hp⟩
end PL2
