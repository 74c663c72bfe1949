/-! reason, why, dues: both; the class's ledger kept -/
/-- what the class's ledger holds -/
def CLk (S : ms_S) (A : Ab) (s : Nat) (k : Int32) : Prop := s < 4 ∧ ms_I S 57 5 = Int32.ofNat s ∧ ms_I S 57 6 = k ∧ ms_R S 57 0 = some 40 ∧ (∀ j, j < 200 → ms_A S 59 j = (ledC A s k).2.2.1 j ∧ ms_A S 60 j = (ledC A s k).2.2.2.1 j ∧ ms_A S 61 j = (ledC A s k).2.2.2.2 j) ∧ ms_I S 57 9 = Int32.ofNat (ordC A k (aN A 4)).length ∧ stR (ms_A S 58) (ordC A k (aN A 4)).length ((ordC A k (aN A 4)).map fun y => Int32.ofNat (keyF A y))
def CLok (S : ms_S) (A : Ab) : Prop := ms_I S 57 7 = ms_I S 4 20 → ∃ s k, CLk S A s k
theorem CLk_fr {S S1 : ms_S} {A : Ab} {s : Nat} {k : Int32} (h : CLk S A s k) (hI : ∀ j, j ≠ 7 → ms_I S1 57 j = ms_I S 57 j) (hR : ms_R S1 57 = ms_R S 57) (hE : ∀ b, 58 ≤ b → b ≤ 61 → ms_A S1 b = ms_A S b) : CLk S1 A s k := by
  unfold CLk at *
  rw [hI 5 (by omega), hI 6 (by omega), hI 9 (by omega), hR, hE 58 (by omega) (by omega), hE 59 (by omega) (by omega), hE 60 (by omega) (by omega), hE 61 (by omega) (by omega)]
  exact h
/-- a question to the class: the answer, and what it may change -/
def CQ {α : Type} (f : mM α) (S : ms_S) (A : Ab) (v : α) : Prop := ∃ S1, f S = some (v, S1) ∧ cBase S1 A ∧ CLok S1 A ∧ (ms_I S1 57 7 = ms_I S 57 7 ∨ ms_I S1 57 7 = ms_I S 4 20) ∧ ∀ b, ¬ (54 ≤ b ∧ b ≤ 63) → Eqc S S1 b
theorem CQ_same {α : Type} {f : mM α} {S : ms_S} {A : Ab} {v : α} (h : cBase S A) (hL : CLok S A) (e : f S = some (v, S)) : CQ f S A v := ⟨S, e, h, hL, Or.inl rfl, fun _ _ => Eqc.rf⟩
theorem cBase_led {S S1 : ms_S} {A : Ab} (h : cBase S A) (hn3 : aN A 3 ≤ 20) (hE : ∀ b, ¬ (54 ≤ b ∧ b < 79) → Eqc S S1 b) : cBase S1 A := cBase_fr h hn3 (fun k _ => by rw [(hE 4 (by omega)).1]) (by rw [(hE 4 (by omega)).2.2.1]) ⟨by rw [(hE 6 (by omega)).1], by rw [(hE 6 (by omega)).1]⟩ (fun b _ _ _ _ _ _ _ hb => hE b (by omega))
section LCA
variable {N : Nat} {S : ms_S} {A : Ab}
theorem q36 {x y c : Int32} : f36 N x y c S = some (if ms_I S 57 5 = x ∧ ms_I S 57 6 = y ∧ ms_I S 57 7 = c then 0 else 1, ms_setI (ms_setI (ms_setI S 57 5 x) 57 6 y) 57 7 c) := by
  unfold f36
  simp only [mE]
  by_cases h1 : ms_I S 57 5 = x
  · by_cases h2 : ms_I S 57 6 = y
    · by_cases h3 : ms_I S 57 7 = c
      · simp only [h1, h2, h3, ne_eq, not_true_eq_false, if_false, and_self, if_true, i10, not_false_eq_true]
        simp only [mE, true_or]
      · simp only [h1, h2, h3, ne_eq, not_true_eq_false, not_false_eq_true, if_false, if_true, and_false]
        simp only [mE, or_true]
    · simp only [h1, h2, ne_eq, not_true_eq_false, not_false_eq_true, if_false, if_true, false_and, and_false]
      simp only [mE, or_true]
  · simp only [h1, ne_eq, not_true_eq_false, not_false_eq_true, if_false, if_true, false_and]
    simp only [mE, or_true]
theorem q146 {s : Nat} {k : Int32} (hN : 1300 ≤ N) (h : cBase S A) (hw : WF0 A) (hv : WFv A) (hL : CLok S A) (hs : s < 4) : ∃ S1, f146 N (Int32.ofNat s) k S = some ((), S1) ∧ CLk S1 A s k ∧ ms_I S1 57 7 = ms_I S 4 20 ∧ ∀ b, ¬ (54 ≤ b ∧ b ≤ 63) → Eqc S S1 b := by
  have hb := h
  obtain ⟨_, _, ⟨st, st2, e3, _, ho, hst, _⟩, _, _, _, ⟨p, p1, p2, p3, p4⟩, _⟩ := h
  have ost : o_st st := by rcases ho with h | h; exact Or.inl h.1; exact Or.inr h.1
  have hn3 : aN A 3 ≤ 20 := hw.1.2.2.2.1
  have X0 : ∃ X, X = ms_setI (ms_setI (ms_setI S 57 5 (Int32.ofNat s)) 57 6 k) 57 7 (ms_I S 4 20) := ⟨_, rfl⟩
  obtain ⟨X, hX⟩ := X0
  have oX : ∀ b, b ≠ 57 → Eqc S X b := fun b hb => by rw [hX]; exact ((Eqc_I hb).tr (Eqc_I hb)).tr (Eqc_I hb)
  have I7 : ms_I X 57 7 = ms_I S 4 20 := by rw [hX]; simp [mG]
  have m36 : ∀ {β : Type} {f : Int32 → mM β}, mb (f36 N (Int32.ofNat s) k (ms_I S 4 20)) f S = f (if ms_I S 57 5 = Int32.ofNat s ∧ ms_I S 57 6 = k ∧ ms_I S 57 7 = ms_I S 4 20 then 0 else 1) X := by intro β f; simp only [mb, q36, hX]
  unfold f146
  simp only [mE]
  rw [m36]
  by_cases hc : ms_I S 57 5 = Int32.ofNat s ∧ ms_I S 57 6 = k ∧ ms_I S 57 7 = ms_I S 4 20
  · rw [if_pos hc, if_pos rfl]
    refine ⟨X, rfl, ?_, I7, fun b hb => oX b (by omega)⟩
    obtain ⟨s', k', hk⟩ := hL hc.2.2
    have es : s' = s := (ofN_eq (by have := hk.1; omega) (by omega)).1 (hk.2.1.symm.trans hc.1)
    have ek : k' = k := hk.2.2.1.symm.trans hc.2.1
    subst es ek
    refine CLk_fr hk (fun j hj => ?_) (by rw [hX]; simp only [mGo]) (fun b h1 h2 => (oX b (by omega)).2.2.2.1)
    rw [hX]
    simp only [mG, true_and, if_neg hj]
    by_cases h6 : j = 6
    · subst h6; rw [if_pos rfl]; exact hk.2.2.1.symm
    · rw [if_neg h6]
      by_cases h5 : j = 5
      · subst h5; rw [if_pos rfl]; exact hk.2.1.symm
      · rw [if_neg h5]
  · rw [if_neg hc, if_neg (by decide)]
    have i1 : inR (Int32.ofNat s) 4 := ofN_inR hs (by omega)
    obtain ⟨S1, e1, l1, r1, j1, o1⟩ := q37 (N := N) (A := A) (st := st) (pc := p s) (s := s) (S := X) (k := k) hN (cBase_led hb hn3 (fun b hb => oX b (by omega))) hw hv hs (p2 s (by omega)) (cCvAt_fr (p4 s hs).2 (fun b h1 h2 => oX b (by rcases p2 s (by omega) with q | q | q | q | q <;> omega))) ost (cStrAt_fr hst (fun b h1 h2 => oX b (by rcases ost with rfl | rfl <;> omega))) (by rw [hX]; simp [mG])
    rw [EgRo (by rw [(oX 4 (by omega)).2.2.1]; exact e3) (isSt_o ost), ElQo i1 (by rw [ofN_cl (by omega), (oX 29 (by omega)).2.2.2.2.2]; exact (p4 s hs).1) (isCv_o (p2 s (by omega)))]
    have m37 : ∀ {β : Type} {f : Unit → mM β}, mb (f37 N st (p s)) f X = f () S1 := by intro β f; simp only [mb, e1]
    rw [m37]
    refine ⟨S1, rfl, ⟨hs, ?_, ?_, r1.1, l1.1.2, l1.2.1, l1.2.2⟩, by rw [j1 7 (by decide)]; exact I7, fun b hb => (oX b (by omega)).tr (o1 b hb)⟩
    · rw [j1 5 (by decide), hX]; simp [mG]
    · rw [j1 6 (by decide), hX]; simp [mG]
def ansRsn (A : Ab) (x f k : Int32) : Int32 := if (0 ≤ x ∧ x < 4) ∧ 0 ≤ f ∧ f < Int32.ofNat (aN A 4) then (ledC A x.toNatClampNeg k).2.2.1 f.toNatClampNeg else -1
def ansWhy (A : Ab) (x f k : Int32) : Int32 := if (0 ≤ x ∧ x < 4) ∧ 0 ≤ f ∧ f < Int32.ofNat (aN A 4) then (ledC A x.toNatClampNeg k).2.2.2.1 f.toNatClampNeg else -1
def ansDues (A : Ab) (x f k : Int32) : Int32 := if (0 ≤ x ∧ x < 4) ∧ 0 ≤ f ∧ f < Int32.ofNat (aN A 4) then (ledC A x.toNatClampNeg k).2.2.2.2 f.toNatClampNeg else -1
/-- the shape of the three -/
theorem C_row {a : Nat} {x f k v : Int32} {F : mM Int32} {g : Lst → Nat → Int32} (hN : 1300 ≤ N) (h : cBase S A) (hw : WF0 A) (hv : WFv A) (hL : CLok S A)
    (hF : F = (mb (f143 N x) fun v1 => if v1 = 0 then mret (-1) else (mb (f19 N 40 f) fun v3 => if v3 ≠ 0 then (mb (f146 N x k) fun _ => mb (lA a 200 f) fun v6 => mret v6) else mret (-1))))
    (ha : ∀ S1 s j, CLk S1 A s k → j < 200 → ms_A S1 a j = g (ledC A s k) j)
    (hv2 : v = if (0 ≤ x ∧ x < 4) ∧ 0 ≤ f ∧ f < Int32.ofNat (aN A 4) then g (ledC A x.toNatClampNeg k) f.toNatClampNeg else -1) : CQ F S A v := by
  have hn4 : aN A 4 ≤ 200 := hw.1.2.2.2.2.1
  have hn3 : aN A 3 ≤ 20 := hw.1.2.2.2.1
  have h6 : ms_I S 40 6 = Int32.ofNat (aN A 4) := h.2.2.2.2.1.1
  subst hF hv2
  have e143 : ∀ {z : Int32} {β : Type} {f : Int32 → mM β}, mb (f143 N z) f S = f (if 0 ≤ z ∧ z < 4 then 1 else 0) S := by intro z β f; simp only [mb, q143]
  have e19 : ∀ {z : Int32} {β : Type} {f : Int32 → mM β}, mb (f19 N 40 z) f S = f (if 0 ≤ z ∧ z < Int32.ofNat (aN A 4) then 1 else 0) S := by intro z β f; simp only [mb, q19, h6]
  by_cases hx : 0 ≤ x ∧ x < 4
  · by_cases hf : 0 ≤ f ∧ f < Int32.ofNat (aN A 4)
    · obtain ⟨s, hs, rfl⟩ := i32_nat (n := 4) hx.1 (by omega) hx.2
      obtain ⟨j, hj, rfl⟩ := i32_nat hf.1 (by omega) hf.2
      rw [if_pos ⟨hx, hf⟩, ofN_cl (by omega), ofN_cl (by omega)]
      obtain ⟨S1, e1, l1, c1, o1⟩ := q146 (N := N) (k := k) hN h hw hv hL hs
      have m146 : ∀ {β : Type} {f : Unit → mM β}, mb (f146 N (Int32.ofNat s) k) f S = f () S1 := by intro β f; simp only [mb, e1]
      have i1 : inR (Int32.ofNat j) 200 := ofN_inR (by omega) (by omega)
      refine ⟨S1, ?_, cBase_led h hn3 (fun b hb => o1 b (by omega)), fun _ => ⟨s, k, l1⟩, Or.inr c1, o1⟩
      rw [e143, if_pos hx, if_neg (by decide), e19, if_pos hf, if_pos (by decide), m146]
      simp only [mE, i1, ofN_cl (i := j) (by omega), ha S1 s j l1 (by omega)]
    · rw [if_neg (fun q => hf q.2)]
      refine CQ_same h hL ?_
      rw [e143, if_pos hx, if_neg (by decide), e19, if_neg hf, if_neg (fun q => q rfl)]; rfl
  · rw [if_neg (fun q => hx q.1)]
    refine CQ_same h hL ?_
    rw [e143, if_neg hx, if_pos rfl]; rfl
theorem C_reason {x f k : Int32} (hN : 1300 ≤ N) (h : cBase S A) (hw : WF0 A) (hv : WFv A) (hL : CLok S A) : CQ (f126 N x f k) S A (ansRsn A x f k) :=
  C_row (a := 59) (g := fun q j => q.2.2.1 j) hN h hw hv hL rfl (fun S1 s j hk hj => (hk.2.2.2.2.1 j hj).1) rfl
theorem C_why {x f k : Int32} (hN : 1300 ≤ N) (h : cBase S A) (hw : WF0 A) (hv : WFv A) (hL : CLok S A) : CQ (f127 N x f k) S A (ansWhy A x f k) :=
  C_row (a := 60) (g := fun q j => q.2.2.2.1 j) hN h hw hv hL rfl (fun S1 s j hk hj => (hk.2.2.2.2.1 j hj).2.1) rfl
theorem C_dues {x f k : Int32} (hN : 1300 ≤ N) (h : cBase S A) (hw : WF0 A) (hv : WFv A) (hL : CLok S A) : CQ (f129 N x f k) S A (ansDues A x f k) :=
  C_row (a := 61) (g := fun q j => q.2.2.2.2 j) hN h hw hv hL rfl (fun S1 s j hk hj => (hk.2.2.2.2.1 j hj).2.2) rfl
/-! the reference -/
theorem led_out (hw : WF0 A) {s y : Nat} {k : Int32} (hy : ¬ (y < aN A 4 ∧ cntA A 20 y k = true ∧ isPs A y = true)) : (ledC A s k).2.2.1 y = -1 ∧ (ledC A s k).2.2.2.1 y = -1 ∧ (ledC A s k).2.2.2.2 y = -1 := by
  rw [led_eq hw]
  exact runL_out (A := A) (s := s) (k := k) (y := y) (ordM A k (aN A 4)).reverse q0 (by rw [List.mem_reverse, ordM_iff]; exact hy)
theorem led_dues (hw : WF0 A) {s y : Nat} {k : Int32} (hy : (ledC A s k).2.2.1 y ≠ 0) : (ledC A s k).2.2.2.2 y = -1 := by
  rw [led_eq hw] at hy ⊢
  exact runL_dues _ _ (nodup_rev (ordM_nodup _)) (fun _ _ => rfl) (fun _ _ => rfl) y hy
theorem q226 {x f k : Int32} (hN : 1300 ≤ N) (h : mBase S A) (hw : WF0 A) (hv : WFv A) : (∃ s y S1, s < 4 ∧ y < aN A 4 ∧ x = Int32.ofNat s ∧ f = Int32.ofNat y ∧ f226 N x f k S = some (1, S1) ∧ mLd S1 A (ledC A s k) ∧ mBase S1 A ∧ keepM S S1) ∨ (f226 N x f k S = some (0, S) ∧ ansRsn A x f k = -1 ∧ ansWhy A x f k = -1 ∧ ansDues A x f k = -1) := by
  have hn4 : aN A 4 ≤ 200 := hw.1.2.2.2.2.1
  obtain ⟨h71, hF⟩ := h.2.2.2.2.1
  have e176 : ∀ {z : Int32} {β : Type} {f : Int32 → mM β}, mb (f176 N z) f S = f (if 0 ≤ z ∧ z < 4 then 1 else 0) S := by intro z β f; simp only [mb, q176]
  by_cases hx : 0 ≤ x ∧ x < 4
  · by_cases hf : 0 ≤ f ∧ f < Int32.ofNat (aN A 4)
    · obtain ⟨s, hs, rfl⟩ := i32_nat (n := 4) hx.1 (by omega) hx.2
      obtain ⟨y, hy, rfl⟩ := i32_nat hf.1 (by omega) hf.2
      have i1 : inR (Int32.ofNat y) 200 := ofN_inR (by omega) (by omega)
      have i2 := ofN_cl (i := y) (by omega)
      obtain ⟨_, f172, _, _, _, f170, f171⟩ := hF y hy
      have hge : ¬ Int32.ofNat y ≥ Int32.ofNat (aN A 4) := fun q => by have := (ofN_le (i := aN A 4) (j := y) (by omega) (by omega)).1 q; omega
      have hlt : ¬ Int32.ofNat y < 0 := ofN_nl (by omega)
      have w25 := (hw.2.2.2.2.2.2.1 y hy).2.2.2.2.1
      have e217 : ∀ {β : Type} {f : Int32 → mM β}, mb (f217 N (Int32.ofNat y) k) f S = f (if cntA A 20 y k = true then 1 else 0) S := by
        intro β f
        simp only [mb, q217 (show y < 200 by omega)]
        congr 1
        rw [f170, f171]
        have : (aX A 24 y ≤ k ∧ (aX A 25 y < 0 ∨ k < aX A 25 y)) ↔ cntA A 20 y k = true := by
          unfold cntA
          rw [decide_eq_true_eq]
          show _ ↔ (aX A 24 y ≤ k ∧ (aX A 25 y = -1 ∨ k < aX A 25 y))
          have hneg : aX A 25 y < 0 ↔ aX A 25 y = -1 := by
            rcases w25 with w | w
            · rw [w]; decide
            · generalize aX A 25 y = z at *; clear hF f172 f170 f171 h71 h hw hv; grind
          rw [hneg]
        by_cases hc : cntA A 20 y k = true
        · rw [if_pos (this.2 hc), if_pos hc]
        · rw [if_neg (fun q => hc (this.1 q)), if_neg hc]
      by_cases hok : cntA A 20 y k = true ∧ isPs A y = true
      · left
        obtain ⟨S1, e1, b1, l1, _, _, r1⟩ := q225 (N := N) (A := A) (s := s) (S := S) (k := k) (up := 1000) hN h hw hv hs
        rw [ledM_all hw] at l1
        have hp : aX A 21 y ≠ -1 := of_decide_eq_true hok.2
        refine ⟨s, y, S1, hs, hy, rfl, rfl, ?_, l1, b1, r1⟩
        unfold f226
        simp only [mE]
        rw [e176, if_pos hx, if_neg (by decide), if_neg hlt]
        simp only [mE, h71, if_neg hge, i1, i2, f172, if_neg hp]
        rw [if_neg (by decide), e217, if_pos hok.1, if_pos (by decide)]
        have m225 : ∀ {β : Type} {f : Unit → mM β}, mb (f225 N (Int32.ofNat s) 1000 k) f S = f () S1 := by intro β f; simp only [mb, e1]
        rw [m225]
        simp only [mE, or_true]
      · right
        obtain ⟨o1, o2, o3⟩ := led_out hw (s := s) (y := y) (k := k) (fun q => hok q.2)
        refine ⟨?_, ?_, ?_, ?_⟩
        · unfold f226
          simp only [mE]
          rw [e176, if_pos hx, if_neg (by decide), if_neg hlt]
          simp only [mE, h71, if_neg hge, i1, i2, f172]
          by_cases hp : aX A 21 y = -1
          · rw [if_pos hp, if_pos rfl]
            simp only [mE, true_or]
          · rw [if_neg hp, if_neg (by decide), e217, if_neg (fun q => hok ⟨q, decide_eq_true hp⟩), if_neg (fun q => q rfl)]
            simp only [mE, true_or]
        · unfold ansRsn; rw [if_pos ⟨hx, hf⟩, ofN_cl (by omega), i2]; exact o1
        · unfold ansWhy; rw [if_pos ⟨hx, hf⟩, ofN_cl (by omega), i2]; exact o2
        · unfold ansDues; rw [if_pos ⟨hx, hf⟩, ofN_cl (by omega), i2]; exact o3
    · right
      refine ⟨?_, by unfold ansRsn; rw [if_neg (fun q => hf q.2)], by unfold ansWhy; rw [if_neg (fun q => hf q.2)], by unfold ansDues; rw [if_neg (fun q => hf q.2)]⟩
      unfold f226
      simp only [mE]
      rw [e176, if_pos hx, if_neg (by decide)]
      by_cases h0 : f < 0
      · rw [if_pos h0]; simp only [mE, true_or]
      · rw [if_neg h0]
        simp only [mE, h71]
        rw [if_pos (by have h1 : 0 ≤ f := Int32.not_lt.mp h0; exact Int32.not_lt.mp (fun q => hf ⟨h1, q⟩))]
        simp only [mE, true_or]
  · right
    refine ⟨?_, by unfold ansRsn; rw [if_neg (fun q => hx q.1)], by unfold ansWhy; rw [if_neg (fun q => hx q.1)], by unfold ansDues; rw [if_neg (fun q => hx q.1)]⟩
    unfold f226
    simp only [mE]
    rw [e176, if_neg hx, if_pos rfl]
    simp only [mE, true_or]
theorem M_reason {x f k : Int32} (hN : 1300 ≤ N) (h : mBase S A) (hw : WF0 A) (hv : WFv A) : MP (f227 N x f k) S (ansRsn A x f k) A := by
  have hn4 : aN A 4 ≤ 200 := hw.1.2.2.2.2.1
  rcases q226 (N := N) (x := x) (f := f) (k := k) hN h hw hv with ⟨s, y, S1, hs, hy, rfl, rfl, e1, l1, b1, k1⟩ | ⟨e1, a1, _, _⟩
  · have i1 : inR (Int32.ofNat y) 200 := ofN_inR (by omega) (by omega)
    have i2 := ofN_cl (i := y) (by omega)
    refine ⟨S1, ?_, b1, k1⟩
    unfold ansRsn
    rw [if_pos ⟨⟨ofN_nn (by omega), (ofN_lt (j := 4) (by omega) (by omega)).2 hs⟩, ofN_nn (by omega), (ofN_lt (by omega) (by omega)).2 hy⟩, ofN_cl (by omega), i2]
    unfold f227
    have m : ∀ {β : Type} {f' : Int32 → mM β}, mb (f226 N (Int32.ofNat s) (Int32.ofNat y) k) f' S = f' 1 S1 := by intro β f'; simp only [mb, e1]
    simp only [mE]
    rw [m, if_neg (by decide)]
    simp only [mE, i1, i2, (l1.2 y hy).1]
  · rw [a1]
    refine MP_same h ?_
    unfold f227
    have m : ∀ {β : Type} {f' : Int32 → mM β}, mb (f226 N x f k) f' S = f' 0 S := by intro β f'; simp only [mb, e1]
    simp only [mE]
    rw [m, if_pos rfl]
    rfl
theorem M_why {x f k : Int32} (hN : 1300 ≤ N) (h : mBase S A) (hw : WF0 A) (hv : WFv A) : MP (f228 N x f k) S (ansWhy A x f k) A := by
  have hn4 : aN A 4 ≤ 200 := hw.1.2.2.2.2.1
  rcases q226 (N := N) (x := x) (f := f) (k := k) hN h hw hv with ⟨s, y, S1, hs, hy, rfl, rfl, e1, l1, b1, k1⟩ | ⟨e1, _, a1, _⟩
  · have i1 : inR (Int32.ofNat y) 200 := ofN_inR (by omega) (by omega)
    have i2 := ofN_cl (i := y) (by omega)
    refine ⟨S1, ?_, b1, k1⟩
    unfold ansWhy
    rw [if_pos ⟨⟨ofN_nn (by omega), (ofN_lt (j := 4) (by omega) (by omega)).2 hs⟩, ofN_nn (by omega), (ofN_lt (by omega) (by omega)).2 hy⟩, ofN_cl (by omega), i2]
    unfold f228
    have m : ∀ {β : Type} {f' : Int32 → mM β}, mb (f226 N (Int32.ofNat s) (Int32.ofNat y) k) f' S = f' 1 S1 := by intro β f'; simp only [mb, e1]
    simp only [mE]
    rw [m, if_neg (by decide)]
    simp only [mE, i1, i2, (l1.2 y hy).2.1]
  · rw [a1]
    refine MP_same h ?_
    unfold f228
    have m : ∀ {β : Type} {f' : Int32 → mM β}, mb (f226 N x f k) f' S = f' 0 S := by intro β f'; simp only [mb, e1]
    simp only [mE]
    rw [m, if_pos rfl]
    rfl
theorem M_dues {x f k : Int32} (hN : 1300 ≤ N) (h : mBase S A) (hw : WF0 A) (hv : WFv A) : MP (f229 N x f k) S (ansDues A x f k) A := by
  have hn4 : aN A 4 ≤ 200 := hw.1.2.2.2.2.1
  rcases q226 (N := N) (x := x) (f := f) (k := k) hN h hw hv with ⟨s, y, S1, hs, hy, rfl, rfl, e1, l1, b1, k1⟩ | ⟨e1, _, _, a1⟩
  · have i1 : inR (Int32.ofNat y) 200 := ofN_inR (by omega) (by omega)
    have i2 := ofN_cl (i := y) (by omega)
    refine ⟨S1, ?_, b1, k1⟩
    unfold ansDues
    rw [if_pos ⟨⟨ofN_nn (by omega), (ofN_lt (j := 4) (by omega) (by omega)).2 hs⟩, ofN_nn (by omega), (ofN_lt (by omega) (by omega)).2 hy⟩, ofN_cl (by omega), i2]
    unfold f229
    have m : ∀ {β : Type} {f' : Int32 → mM β}, mb (f226 N (Int32.ofNat s) (Int32.ofNat y) k) f' S = f' 1 S1 := by intro β f'; simp only [mb, e1]
    simp only [mE]
    rw [m, if_neg (by decide)]
    simp only [mE, i1, i2, (l1.2 y hy).1]
    by_cases hr : (ledC A s k).2.2.1 y = 0
    · rw [if_neg (fun q => q hr)]
      simp only [mE, i1, i2, (l1.2 y hy).2.2 hr]
    · rw [if_pos hr, led_dues hw hr]
  · rw [a1]
    refine MP_same h ?_
    unfold f229
    have m : ∀ {β : Type} {f' : Int32 → mM β}, mb (f226 N x f k) f' S = f' 0 S := by intro β f'; simp only [mb, e1]
    simp only [mE]
    rw [m, if_pos rfl]
    rfl
end LCA
