/-! a convention is read: the class -/
theorem sw4 {v : Int32} {P Q R T U : mM Unit} : (if v = 109 then P else if v = 110 then U else if v = 111 then Q else if v = 112 then U else if v = 113 then U else if v = 114 then U else if v = 115 then U else if v = 116 then U else if v = 117 then U else if v = 118 then U else if v = 119 then U else if v = 120 then U else if v = 121 then U else if v = 122 then U else if v = 123 then R else if v = 124 then U else if v = 125 then U else if v = 126 then U else if v = 127 then P else if v = 128 then P else if v = 129 then P else if v = 130 then T else U) = (if v = 109 ∨ v = 127 ∨ v = 128 ∨ v = 129 then P else if v = 111 then Q else if v = 123 then R else if v = 130 then T else U) := by
  have st : ∀ {c : Prop} [Decidable c] {x y : mM Unit}, y = x → (if c then x else y) = x := by intro c _ x y h; rw [h]; exact ite_self x
  by_cases h109 : v = 109
  · subst h109
    rw [if_pos rfl, if_pos (by decide)]
  by_cases h111 : v = 111
  · subst h111
    rw [if_neg (by decide), if_neg (by decide), if_pos rfl, if_neg (by decide), if_pos rfl]
  by_cases h123 : v = 123
  · subst h123
    rw [if_neg (by decide), if_neg (by decide), if_neg (by decide), if_neg (by decide), if_neg (by decide), if_neg (by decide), if_neg (by decide), if_neg (by decide), if_neg (by decide), if_neg (by decide), if_neg (by decide), if_neg (by decide), if_neg (by decide), if_neg (by decide), if_pos rfl, if_neg (by decide), if_neg (by decide), if_pos rfl]
  by_cases h127 : v = 127
  · subst h127
    rw [if_neg (by decide), if_neg (by decide), if_neg (by decide), if_neg (by decide), if_neg (by decide), if_neg (by decide), if_neg (by decide), if_neg (by decide), if_neg (by decide), if_neg (by decide), if_neg (by decide), if_neg (by decide), if_neg (by decide), if_neg (by decide), if_neg (by decide), if_neg (by decide), if_neg (by decide), if_neg (by decide), if_pos rfl, if_pos (by decide)]
  by_cases h128 : v = 128
  · subst h128
    rw [if_neg (by decide), if_neg (by decide), if_neg (by decide), if_neg (by decide), if_neg (by decide), if_neg (by decide), if_neg (by decide), if_neg (by decide), if_neg (by decide), if_neg (by decide), if_neg (by decide), if_neg (by decide), if_neg (by decide), if_neg (by decide), if_neg (by decide), if_neg (by decide), if_neg (by decide), if_neg (by decide), if_neg (by decide), if_pos rfl, if_pos (by decide)]
  by_cases h129 : v = 129
  · subst h129
    rw [if_neg (by decide), if_neg (by decide), if_neg (by decide), if_neg (by decide), if_neg (by decide), if_neg (by decide), if_neg (by decide), if_neg (by decide), if_neg (by decide), if_neg (by decide), if_neg (by decide), if_neg (by decide), if_neg (by decide), if_neg (by decide), if_neg (by decide), if_neg (by decide), if_neg (by decide), if_neg (by decide), if_neg (by decide), if_neg (by decide), if_pos rfl, if_pos (by decide)]
  by_cases h130 : v = 130
  · subst h130
    rw [if_neg (by decide), if_neg (by decide), if_neg (by decide), if_neg (by decide), if_neg (by decide), if_neg (by decide), if_neg (by decide), if_neg (by decide), if_neg (by decide), if_neg (by decide), if_neg (by decide), if_neg (by decide), if_neg (by decide), if_neg (by decide), if_neg (by decide), if_neg (by decide), if_neg (by decide), if_neg (by decide), if_neg (by decide), if_neg (by decide), if_neg (by decide), if_pos rfl, if_neg (by decide), if_neg (by decide), if_neg (by decide)]
  have hh : ¬ (v = 109 ∨ v = 127 ∨ v = 128 ∨ v = 129) := fun z => by rcases z with z | z | z | z; exact h109 z; exact h127 z; exact h128 z; exact h129 z
  refine Eq.trans (b := U) ?_ ((if_neg hh).trans ((if_neg h111).trans ((if_neg h123).trans (if_neg h130)))).symm
  exact (if_neg h109).trans (st ((if_neg h111).trans (st (st (st (st (st (st (st (st (st (st (st ((if_neg h123).trans (st (st (st ((if_neg h127).trans ((if_neg h128).trans ((if_neg h129).trans ((if_neg h130).trans (rfl))))))))))))))))))))))
def b227 (N a1 a2 : Nat) (k246 : Int32 → mM Unit) (n : Nat) (x4 : Int32) : mM Unit := mb (gRo isCv 38 2) fun r13 => mb (gI r13 17) fun v15 => mb (pI r13 17 (v15 + 1)) fun _ => f4_L35 N a1 a2 k246 n (x4 + 1)
def bSw (N a1 a2 : Nat) (k246 : Int32 → mM Unit) (n : Nat) (x4 v29 : Int32) : mM Unit := if v29 = 109 then (mb (gRo (isA 6) 38 0) fun _ => mb (f98 N) fun v23 => mb (f8 N v23) fun _ => b227 N a1 a2 k246 n x4) else if v29 = 110 then (mb (gRo (isA 6) 38 0) fun _ => mb (f101 N 2) fun _ => b227 N a1 a2 k246 n x4) else if v29 = 111 then (mb (f5 N) fun _ => b227 N a1 a2 k246 n x4) else if v29 = 112 then (mb (gRo (isA 6) 38 0) fun _ => mb (f101 N 2) fun _ => b227 N a1 a2 k246 n x4) else if v29 = 113 then (mb (gRo (isA 6) 38 0) fun _ => mb (f101 N 2) fun _ => b227 N a1 a2 k246 n x4) else if v29 = 114 then (mb (gRo (isA 6) 38 0) fun _ => mb (f101 N 2) fun _ => b227 N a1 a2 k246 n x4) else if v29 = 115 then (mb (gRo (isA 6) 38 0) fun _ => mb (f101 N 2) fun _ => b227 N a1 a2 k246 n x4) else if v29 = 116 then (mb (gRo (isA 6) 38 0) fun _ => mb (f101 N 2) fun _ => b227 N a1 a2 k246 n x4) else if v29 = 117 then (mb (gRo (isA 6) 38 0) fun _ => mb (f101 N 2) fun _ => b227 N a1 a2 k246 n x4) else if v29 = 118 then (mb (gRo (isA 6) 38 0) fun _ => mb (f101 N 2) fun _ => b227 N a1 a2 k246 n x4) else if v29 = 119 then (mb (gRo (isA 6) 38 0) fun _ => mb (f101 N 2) fun _ => b227 N a1 a2 k246 n x4) else if v29 = 120 then (mb (gRo (isA 6) 38 0) fun _ => mb (f101 N 2) fun _ => b227 N a1 a2 k246 n x4) else if v29 = 121 then (mb (gRo (isA 6) 38 0) fun _ => mb (f101 N 2) fun _ => b227 N a1 a2 k246 n x4) else if v29 = 122 then (mb (gRo (isA 6) 38 0) fun _ => mb (f101 N 2) fun _ => b227 N a1 a2 k246 n x4) else if v29 = 123 then (mb (f6 N) fun _ => b227 N a1 a2 k246 n x4) else if v29 = 124 then (mb (gRo (isA 6) 38 0) fun _ => mb (f101 N 2) fun _ => b227 N a1 a2 k246 n x4) else if v29 = 125 then (mb (gRo (isA 6) 38 0) fun _ => mb (f101 N 2) fun _ => b227 N a1 a2 k246 n x4) else if v29 = 126 then (mb (gRo (isA 6) 38 0) fun _ => mb (f101 N 2) fun _ => b227 N a1 a2 k246 n x4) else if v29 = 127 then (mb (gRo (isA 6) 38 0) fun _ => mb (f98 N) fun v23 => mb (f8 N v23) fun _ => b227 N a1 a2 k246 n x4) else if v29 = 128 then (mb (gRo (isA 6) 38 0) fun _ => mb (f98 N) fun v23 => mb (f8 N v23) fun _ => b227 N a1 a2 k246 n x4) else if v29 = 129 then (mb (gRo (isA 6) 38 0) fun _ => mb (f98 N) fun v23 => mb (f8 N v23) fun _ => b227 N a1 a2 k246 n x4) else if v29 = 130 then (mb (f9 N) fun _ => b227 N a1 a2 k246 n x4) else (mb (gRo (isA 6) 38 0) fun _ => mb (f101 N 2) fun _ => b227 N a1 a2 k246 n x4)
def bLn (N a1 a2 : Nat) (k246 : Int32 → mM Unit) (n : Nat) (x4 : Int32) : mM Unit := mb (gRo (isA 6) 38 0) fun _ => mb (f98 N) fun v36 => if v36 ≠ 111 then (mb (pZ 38 4 0) fun _ => mb (gRo (isA 6) 38 0) fun _ => mb (f98 N) fun v29 => bSw N a1 a2 k246 n x4 v29) else (mb (pZ 38 4 1) fun _ => mb (gRo (isA 6) 38 0) fun _ => mb (f98 N) fun v29 => bSw N a1 a2 k246 n x4 v29)
theorem f4L_eq {N a1 a2 n : Nat} {k246 : Int32 → mM Unit} {x4 : Int32} : f4_L35 N a1 a2 k246 (n + 1) x4 = (if x4 ≥ 1200 then k246 x4 else (mb (gRo (isA 6) 38 0) fun _ => mb (f98 N) fun v11 => if v11 = 0 then k246 x4 else bLn N a1 a2 k246 n x4)) := rfl
/-- what reading needs, apart from the convention itself -/
def RBc (S : ms_S) (a st : Nat) (ln : List (List Int32)) : Prop := (ms_R S 38 0 = some 6 ∧ ms_R S 38 1 = some st ∧ ms_R S 38 2 = some a) ∧ ms_I S st 7 = Int32.ofNat ln.length ∧ NLc S (st + 5) ln
section LC4
variable {N : Nat} {X : Nat → Int32} {L : Nat} {a st : Nat} {ln : List (List Int32)}
theorem stne (oa : o_cv a) (ost : o_st st) : (st ≠ 6 ∧ st ≠ 38 ∧ ¬ (a ≤ st ∧ st ≤ a + 7)) ∧ (st + 5 ≠ 6 ∧ st + 5 ≠ 38 ∧ ¬ (a ≤ st + 5 ∧ st + 5 ≤ a + 7)) := by
  rcases ost with rfl | rfl <;> rcases oa with rfl | rfl | rfl | rfl | rfl <;> omega
theorem RB_o {S S1 : ms_S} (oa : o_cv a) (ost : o_st st) (h : RBc S a st ln) (o : oRv a S S1) : RBc S1 a st ln := by
  obtain ⟨⟨n1, n2, n3⟩, ⟨n4, n5, n6⟩⟩ := stne oa ost
  exact ⟨⟨by rw [o.2.1]; exact h.1.1, by rw [o.2.1]; exact h.1.2.1, by rw [o.2.1]; exact h.1.2.2⟩, by rw [(o.2.2 st n1 n2 n3).1]; exact h.2.1, fun i hi => by rw [(o.2.2 (st + 5) n4 n5 n6).2.2.2.2.1]; exact h.2.2 i hi⟩
theorem RC_of {S : ms_S} {w : Cw} {kl : Bool} (hb : TxB X L) (h : RBc S a st ln) (hw : CW S a w) (hg : CwG X L w) (hgd : gd (wSg w) = true) (h4 : ms_I S 38 4 = if kl = true then 1 else 0) : RC S a st kl (knW w) ln := by
  obtain ⟨⟨b1, b2, b3⟩, _⟩ := hg.2.2.2 hgd
  have hnt := ntk_bd hb (j := idx (wSg w)) (by omega)
  exact ⟨h.1.1, h.1.2.1, h.1.2.2, ⟨ccW w, by omega, hw.1.2.2.2⟩, by rw [knW_len]; exact hw.1.2.1, hw.2.2.2.1, h.2.1, h.2.2, h4, ⟨wU w, b2, hw.2.2.1.2.1⟩⟩
theorem RC_I {S : ms_S} {b i : Nat} {v : Int32} {kl : Bool} {kn : List (List Int32)} (h : RC S a st kl kn ln) (h1 : ¬ (b = a ∧ (i = 1 ∨ i = 5))) (h2 : b ≠ st) (h3 : ¬ (b = 38 ∧ (i = 3 ∨ i = 4))) : RC (ms_setI S b i v) a st kl kn ln := by
  have e : ∀ c k, ¬ (c = b ∧ k = i) → ms_I (ms_setI S b i v) c k = ms_I S c k := fun c k hk => by simp only [mG]; rw [if_neg hk]
  obtain ⟨g0, g1, g2, g3, g4, g5, g6, g7, g8, g9⟩ := h
  refine ⟨by simp only [mGo]; exact g0, by simp only [mGo]; exact g1, by simp only [mGo]; exact g2, by rw [e a 1 (by omega)]; exact g3, by rw [e a 5 (by omega)]; exact g4, fun k hk => by simp only [mGo]; exact g5 k hk, by rw [e st 7 (by omega)]; exact g6, fun k hk => by simp only [mGo]; exact g7 k hk, by rw [e 38 4 (by omega)]; exact g8, by rw [e 38 3 (by omega)]; exact g9⟩
theorem CW_f {S : ms_S} {w : Cw} {v : Int32} (oa : o_cv a) (h : CW S a w) : CW (ms_setI S 38 4 v) a w := by
  have na := (cvne oa a (by omega) (by omega)).2.1
  have e : ms_I (ms_setI S 38 4 v) a = ms_I S a := (Eqc_I na).1
  have e2 : ∀ k, k ≠ 4 → ms_I (ms_setI S 38 4 v) 38 k = ms_I S 38 k := fun k hk => by simp only [mG, true_and, if_neg hk]
  obtain ⟨a1, a2, ⟨c1, c2, c3⟩, d1, d2, d3, d4, d5⟩ := h
  unfold CW
  rw [e, e2 5 (by decide), e2 3 (by decide)]
  refine ⟨a1, a2, ⟨c1, c2, c3⟩, fun i hi => by simp only [mGo]; exact d1 i hi, fun i hi => by simp only [mGo]; exact d2 i hi, fun i hi => ?_, fun i hi => ?_, ?_⟩
  · have := d3 i hi
    unfold cSg at *
    simp only [mGo]
    exact this
  · have := d4 i hi
    unfold cSg at *
    simp only [mGo]
    exact this
  · unfold cSg at *
    simp only [mGo]
    exact d5
theorem CW_up {S : ms_S} {w : Cw} (oa : o_cv a) (h : CW S a w) : CW (ms_setI S a 17 (ms_I S a 17 + 1)) a (upN w) := by
  have na := (cvne oa a (by omega) (by omega)).2.1
  have e : ∀ k, k ≠ 17 → ms_I (ms_setI S a 17 (ms_I S a 17 + 1)) a k = ms_I S a k := fun k hk => by simp only [mG, true_and, if_neg hk]
  have e38 : ms_I (ms_setI S a 17 (ms_I S a 17 + 1)) 38 = ms_I S 38 := (Eqc_I na.symm).1
  obtain ⟨⟨a1, a2, a3, a4⟩, ⟨b1, b2, b3, b4⟩, ⟨c1, c2, c3⟩, d1, d2, d3, d4, d5⟩ := h
  have sg : ∀ f t l, cSg S a (ccW w) f t l → cSg (ms_setI S a 17 (ms_I S a 17 + 1)) a (ccW w) f t l := fun f t l hh => by
    unfold cSg at *
    simp only [mGo]
    exact hh
  refine ⟨⟨?_, by rw [e 5 (by decide)]; exact a2, by rw [e 10 (by decide)]; exact a3, by rw [e 1 (by decide)]; exact a4⟩, ⟨by rw [e 11 (by decide)]; exact b1, by rw [e 12 (by decide)]; exact b2, by rw [e 13 (by decide)]; exact b3, by rw [e 14 (by decide)]; exact b4⟩, ⟨by rw [e38]; exact c1, by rw [e38]; exact c2, by rw [e 6 (by decide)]; exact c3⟩, fun i hi => by simp only [mGo]; exact d1 i hi, fun i hi => by simp only [mGo]; exact d2 i hi, fun i hi => by simp only [mGo]; exact sg _ _ _ (d3 i hi), fun i hi => by simp only [mGo]; exact sg _ _ _ (d4 i hi), by rw [e 15 (by decide), e 16 (by decide)]; exact sg _ _ _ d5⟩
  simp only [mG, and_self, if_true]
  rw [a1, ofN_s]
  rfl
set_option maxHeartbeats 1000000 in
theorem q9 {S : ms_S} {w : Cw} {j : Nat} (hN : 1300 ≤ N) (hb : TxB X L) (oa : o_cv a) (ost : o_st st) (hln : ln.length ≤ 8) (hg : CwG X L w) (hj : wSg w = .inr j) (h0 : tTy (tkJ X L j) ≠ 0) (hr : RC S a st false (knW w) ln) (hc : CS S X L (.inr j)) (hw : CW S a w) : ResV (f9 N) S X L a (dLn X L ln w) := by
  have hne := cvne oa
  have hsn := (stne oa ost).1
  have hgd : gd (wSg w) = true := by rw [hj]; rfl
  obtain ⟨⟨b1, b2, b3⟩, _, _, b6, _⟩ := hg.2.2.2 hgd
  have hjx : idx (wSg w) = j := by rw [hj]; rfl
  rw [hjx] at b1 b3
  have hnt := ntk_bd hb (j := j) (by omega)
  have hK6 := hg.1
  have hl := knW_len (w := w)
  have na := hne a (by omega) (by omega)
  have n1 := hne (a + 1) (by omega) (by omega)
  have n2 := hne (a + 2) (by omega) (by omega)
  have e10 := q10 (N := N) (S := S) (p0 := 130) (k := 4) (by decide) hw.2.2.1.1 hg.2.2.1 (by omega)
  have Z1 : ∃ Z, Z = ms_setI S 38 5 (mskT (wT w) ||| mskB 4) := ⟨_, rfl⟩
  obtain ⟨Y, hY⟩ := Z1
  rw [← hY] at e10
  have m10 : ∀ {β : Type} {f' : Int32 → mM β}, mb (f10 N 130) f' S = f' (if Nat.testBit (wT w) 4 = true then 0 else 1) Y := by intro β f'; simp only [mb, e10]
  have cY : CS Y X L (.inr j) := by rw [hY]; exact CS_I hc (by decide)
  have rY : RC Y a st false (knW w) ln := by rw [hY]; exact RC_I hr (fun z => na.2.1 z.1.symm) hsn.2.1.symm (by omega)
  have oY : oRv a S Y := by rw [hY]; exact oRv.I (Or.inr rfl) (by decide)
  unfold dLn f9 ResV
  rw [m10]
  by_cases ht : Nat.testBit (wT w) 4 = true
  · rw [if_pos ht, if_pos ht, if_neg (fun z => z rfl)]
    obtain ⟨S1, e1, r1, r2, r3⟩ := refV (N := N) (a := a) (w := w) hb hj cY
    refine ⟨S1, ?_, r1, r2, oY.tr r3⟩
    rw [EgRo rY.1 isA6]
    simp only [mb, e1]
    rfl
  · rw [if_neg ht, if_neg ht, if_pos (show (1 : Int32) ≠ 0 by decide)]
    have hD : wD w = [] := by
      rcases b6 with q | q
      · exact absurd q.1 ht
      · exact q.2
    obtain ⟨S1, e1, c1, x1⟩ := q100 (N := N) hb cY h0
    have r1 := RC_x oa ost rY x1
    have EY : ∀ b, b ≠ 38 → Eqc S Y b := fun b h1 => by rw [hY]; exact Eqc_I h1
    have E1 : ∀ b, b ≠ 6 → b ≠ 38 → Eqc S S1 b := fun b h1 h2 => (EY b h2).tr (x1.2 b h1)
    have k1 : ms_I S1 a 1 = Int32.ofNat (ccW w) := by rw [(E1 a na.1 na.2.1).1]; exact hw.1.2.2.2
    have Z5 : ∃ Z, Z = ms_setI S1 a 15 (Int32.ofNat (ccW w)) := ⟨_, rfl⟩
    obtain ⟨S5, hS5⟩ := Z5
    have r5 : RC S5 a st false (knW w) ln := by rw [hS5]; exact RC_I r1 (by omega) (by omega) (fun z => na.2.1 z.1)
    have c5 : CS S5 X L (.inr (j + 1)) := by rw [hS5]; exact CS_I c1 na.1
    have I5 : ∀ i, i ≠ 15 → ms_I S5 a i = ms_I S a i := fun i hi => by rw [hS5]; simp only [mG, true_and, if_neg hi]; rw [(E1 a na.1 na.2.1).1]
    have I38 : ms_I S5 38 = ms_I Y 38 := by rw [hS5, (Eqc_I na.2.1.symm).1, (x1.2 38 (by decide)).1]
    have y383 : ms_I Y 38 3 = ms_I S 38 3 := by rw [hY]; simp [mG]
    have y385 : ms_I Y 38 5 = ms_I S 38 5 ||| mskB 4 := by rw [hY, hw.2.2.1.1]; simp only [mG, and_self, if_true]
    have E5 : ∀ b, b ≠ 6 → b ≠ 38 → b ≠ a → Eqc S S5 b := fun b h1 h2 h3 => (E1 b h1 h2).tr (by rw [hS5]; exact Eqc_I h3)
    have hj1 := (tkJ_nx hb b1 h0).1
    obtain ⟨S6, e6, c6, r6, k6, x6⟩ := exC (N := N) (a := a) (st := st) (c0 := ccW w) (as0 := askK (wK w)) (kl := false) (kn := knW w) (ln := ln) hN hb oa ost (by omega) hln 100 0 0 (by omega) (by omega) (by decide) (.inr (j + 1), [], wU w) S5 (fun _ => hj1) r5 c5 (fun hq => ⟨⟨by rw [I5 1 (by decide)]; exact hw.1.2.2.2, fun i hi => absurd hi (Nat.not_lt_zero i), by rw [I38, y383]; exact hw.2.2.1.2.1, by rw [if_neg (by decide), I5 6 (by decide)]; exact hw.2.2.1.2.2⟩, by
      unfold Pot
      show ccW w + 0 + 0 ≤ 2 * wU w + ntk X L (j + 1)
      have := ntk_le (X := X) (L := L) (show j ≤ j + 1 by omega)
      omega, b2⟩)
    have ek : dE X L ln w = pE X L false (knW w) ln 100 0 0 (.inr (j + 1), [], wU w) := by unfold dE; rw [hj]; rfl
    rw [← ek] at c6 k6
    have e6 : f11 N 100 0 0 S5 = some ((), S6) := e6
    have Z7 : ∃ Z, Z = ms_setI S6 a 16 (ms_I S6 a 1) := ⟨_, rfl⟩
    obtain ⟨S7, hS7⟩ := Z7
    have r7 : RC S7 a st false (knW w) ln := by rw [hS7]; exact RC_I r6 (by omega) (by omega) (fun z => na.2.1 z.1)
    have c7 : CS S7 X L (dE X L ln w).1 := by rw [hS7]; exact CS_I c6 na.1
    obtain ⟨S8, e8, c8, x8⟩ := q103 (N := N) (ty := 59) hb (by omega) c7
    have e8 : f103 N 59 S7 = some ((), S8) := e8
    have E8 : ∀ b, b ≠ 6 → b ≠ a → Eqc S6 S8 b := fun b h1 h2 => (show Eqc S6 S7 b by rw [hS7]; exact Eqc_I h2).tr (x8.2 b h1)
    refine ⟨S8, ?_, c8, fun z => ?_, ?_⟩
    · have m100 : ∀ {β : Type} {f' : Unit → mM β}, mb (f100 N) f' Y = f' () S1 := by intro β f'; simp only [mb, e1]
      have m11 : ∀ {β : Type} {f' : Unit → mM β}, mb (f11 N 100 0 0) f' S5 = f' () S6 := by intro β f'; simp only [mb, e6]
      have m59 : ∀ {β : Type} {f' : Unit → mM β}, mb (f103 N 59) f' S7 = f' () S8 := by intro β f'; simp only [mb, e8]
      rw [EgRo rY.1 isA6, m100, EgRo r1.2.2.1 (isCv_o oa), EgRo r1.2.2.1 (isCv_o oa)]
      simp only [mE, k1, ← hS5]
      rw [m11, EgRo r6.2.2.1 (isCv_o oa), EgRo r6.2.2.1 (isCv_o oa)]
      simp only [mE, ← hS7]
      rw [EgRo r7.1 isA6, m59]
      rfl
    · have z : gd (dm X L 59 (dE X L ln w).1) = true := z
      have gr := (gd_dm z).1
      obtain ⟨w1, w2, w3, w4⟩ := k6 gr
      have I8 : ∀ i, i ≠ 16 → ms_I S8 a i = ms_I S6 a i := fun i hi => by rw [(x8.2 a na.1).1, hS7]; simp only [mG, true_and, if_neg hi]
      have o6 := x6.2.2.2.2.2 (ccW w) (by omega) (by rw [I5 1 (by decide)]; exact hw.1.2.2.2)
      obtain ⟨_, _, _, _, o6⟩ := o6
      refine CW_due hw hg.2.2.1 hD (fun i h1 h2 h3 => ?_) ?_ ?_ ?_ ?_ ?_ ?_ (fun b h1 h2 => ?_) (fun i hi => ?_) (fun i hi => ?_)
      · rw [I8 i h3]
        by_cases e : i = 6
        · rw [e, w4, if_neg (by decide)]; exact hw.2.2.1.2.2.symm
        · rw [x6.2.2.2.1 i h1 e, I5 i h2]
      · rw [I8 1 (by decide)]; exact w1
      · rw [I8 15 (by decide), x6.2.2.2.1 15 (by decide) (by decide), hS5]; simp only [mG, and_self, if_true]
      · rw [(x8.2 a na.1).1, hS7]; simp only [mG, and_self, if_true]; exact w1
      · rw [(E8 38 (by decide) na.2.1.symm).1, x6.2.1 5 (by decide), I38]; exact y385
      · rw [(E8 38 (by decide) na.2.1.symm).1]; exact w3
      · rw [(E8 (a + 2) n2.1 (by omega)).2.2.2.2.1, (x6.2.2.2.2.1 (a + 2) n2.1 n2.2.1 (by omega) (by omega)).2.2.2.2.1, (E5 (a + 2) n2.1 n2.2.1 (by omega)).2.2.2.2.1]
      · have nb := hne (a + b) (by omega) (by omega)
        rw [(E8 (a + b) nb.1 (by omega)).2.2.2.1, (x6.2.2.2.2.1 (a + b) nb.1 nb.2.1 (by omega) (by omega)).2.2.2.1, (E5 (a + b) nb.1 nb.2.1 (by omega)).2.2.2.1]
      · rw [(E8 (a + 1) n1.1 (by omega)).2.2.2.1, o6 i hi, (E5 (a + 1) n1.1 n1.2.1 (by omega)).2.2.2.1]
      · rw [(E8 (a + 1) n1.1 (by omega)).2.2.2.1]; exact w2 i hi
    · exact ((oY.tr x1.r).tr (by rw [hS5]; exact oRv.I (Or.inl (by omega)) na.1)).tr ((x6.r.tr (by rw [hS7]; exact oRv.I (Or.inl (by omega)) na.1)).tr x8.r)
end LC4
