/-! facts in order: rows sorted by insertion (lists from the top of the row down) -/
def isPs (A : Ab) (i : Nat) : Bool := decide (aX A 21 i ≠ -1)
def keyF (A : Ab) (i : Nat) : Nat := ((aX A 20 i).toNatClampNeg * 2 + (if isPs A i = true then 1 else 0)) * 256 + i
def insR (gt : Nat → Nat → Bool) (f : Nat) : List Nat → List Nat
  | [] => [f]
  | x :: r => if gt x f = true then x :: insR gt f r else f :: x :: r
def gtC (A : Ab) (x y : Nat) : Bool := decide (keyF A y < keyF A x)
def gtM (A : Ab) (x y : Nat) : Bool := decide (aX A 20 x > aX A 20 y)
/-- all that count, of the first n; passages alone -/
def ordC (A : Ab) (k : Int32) : Nat → List Nat
  | 0 => []
  | n + 1 => if cntA A 20 n k = true then insR (gtC A) n (ordC A k n) else ordC A k n
def ordM (A : Ab) (k : Int32) : Nat → List Nat
  | 0 => []
  | n + 1 => if cntA A 20 n k = true ∧ isPs A n = true then insR (gtM A) n (ordM A k n) else ordM A k n
theorem insR_len {gt : Nat → Nat → Bool} {f : Nat} : ∀ l, (insR gt f l).length = l.length + 1 := by
  intro l
  induction l with
  | nil => rfl
  | cons x r ih => unfold insR; split <;> simp [ih]
theorem insR_mem {gt : Nat → Nat → Bool} {f : Nat} : ∀ l y, y ∈ insR gt f l ↔ y = f ∨ y ∈ l := by
  intro l
  induction l with
  | nil => intro y; simp [insR]
  | cons x r ih =>
    intro y
    unfold insR
    split
    · simp only [List.mem_cons, ih]
      constructor
      · rintro (h | h | h)
        · exact Or.inr (Or.inl h)
        · exact Or.inl h
        · exact Or.inr (Or.inr h)
      · rintro (h | h | h)
        · exact Or.inr (Or.inl h)
        · exact Or.inl h
        · exact Or.inr (Or.inr h)
    · simp only [List.mem_cons]
theorem ordC_lt {A : Ab} {k : Int32} : ∀ n y, y ∈ ordC A k n → y < n ∧ cntA A 20 y k = true := by
  intro n
  induction n with
  | zero => intro y h; cases h
  | succ n ih =>
    intro y h
    unfold ordC at h
    split at h
    · rename_i hc
      rcases (insR_mem _ _).1 h with h | h
      · subst h; exact ⟨by omega, hc⟩
      · have := ih y h; exact ⟨by omega, this.2⟩
    · have := ih y h; exact ⟨by omega, this.2⟩
theorem ordM_lt {A : Ab} {k : Int32} : ∀ n y, y ∈ ordM A k n → y < n ∧ cntA A 20 y k = true ∧ isPs A y = true := by
  intro n
  induction n with
  | zero => intro y h; cases h
  | succ n ih =>
    intro y h
    unfold ordM at h
    split at h
    · rename_i hc
      rcases (insR_mem _ _).1 h with h | h
      · subst h; exact ⟨by omega, hc⟩
      · have := ih y h; exact ⟨by omega, this.2⟩
    · have := ih y h; exact ⟨by omega, this.2⟩
theorem ordC_len {A : Ab} {k : Int32} : ∀ n, (ordC A k n).length ≤ n := by
  intro n
  induction n with
  | zero => exact Nat.le_refl _
  | succ n ih => unfold ordC; split; rw [insR_len]; omega; omega
theorem ordM_len {A : Ab} {k : Int32} : ∀ n, (ordM A k n).length ≤ n := by
  intro n
  induction n with
  | zero => exact Nat.le_refl _
  | succ n ih => unfold ordM; split; rw [insR_len]; omega; omega
theorem keyF_lt {A : Ab} {i : Nat} (h0 : 0 ≤ aX A 20 i) (h1 : aX A 20 i < 1000) (hi : i < 200) : keyF A i < 600000 := by
  obtain ⟨d, hd, e⟩ := i32_nat (n := 1000) h0 (by omega) (by rw [show Int32.ofNat 1000 = (1000 : Int32) from rfl]; exact h1)
  unfold keyF
  rw [e, ofN_cl (by omega)]
  split <;> omega
section SRT
variable {N : Nat} {A : Ab}
/-- one more, put in its place (the class) -/
theorem insL_C {f : Nat} {K : Int32 → Int32 → mM Unit} (hkf : keyF A f < 600000) : ∀ (r : List Nat) (m n : Nat) (S : ms_S), (∀ y ∈ r, keyF A y < 600000) → m < 200 → r.length < n → stR (ms_A S 58) m (r.map fun y => Int32.ofNat (keyF A y)) → ∃ S1 x, f39_L15 N K n (Int32.ofNat (keyF A f)) (Int32.ofNat m) S = K (Int32.ofNat (keyF A f)) (Int32.ofNat x) S1 ∧ x ≤ m ∧ stR (ms_A (ms_setA S1 58 x (Int32.ofNat (keyF A f))) 58) (m + 1) ((insR (gtC A) f r).map fun y => Int32.ofNat (keyF A y)) ∧ (∀ j, m < j → ms_A S1 58 j = ms_A S 58 j) ∧ ∀ b, b ≠ 58 → Eqc S S1 b := by
  intro r
  induction r with
  | nil =>
    intro m n S hy hm hn hst
    have hm0 : m = 0 := hst
    subst hm0
    obtain ⟨n, rfl⟩ : ∃ q, n = q + 1 := ⟨n - 1, by omega⟩
    refine ⟨S, 0, ?_, Nat.le_refl _, ⟨by omega, by simp [mG], rfl⟩, fun _ _ => rfl, fun _ _ => Eqc.rf⟩
    rw [f39_L15, if_pos (by decide)]
  | cons y r ih =>
    intro m n S hy hm hn hst
    obtain ⟨n, rfl⟩ : ∃ q, n = q + 1 := ⟨n - 1, by omega⟩
    have hn : r.length + 1 < n + 1 := by simpa using hn
    obtain ⟨h1, h2, h3⟩ := hst
    have hky := hy y (by simp)
    have c0 : ¬ Int32.ofNat m ≤ 0 := fun q => by have := (ofN_le (i := m) (j := 0) (by omega) (by omega)).1 q; omega
    have e1 : Int32.ofNat m - 1 = Int32.ofNat (m - 1) := ofN_sub (j := 1) h1
    have e2 : Int32.ofNat m + (-1) = Int32.ofNat (m - 1) := by rw [← e1]; clear ih hy h2 h3; grind
    have i1 : inR (Int32.ofNat (m - 1)) 200 := ofN_inR (by omega) (by omega)
    have i2 := ofN_cl (i := m - 1) (by omega)
    have i3 : inR (Int32.ofNat m) 200 := ofN_inR hm (by omega)
    have i4 := ofN_cl (i := m) (by omega)
    rw [f39_L15, if_neg c0]
    simp only [mE, e1, i1, i2, h2]
    by_cases hg : gtC A y f = true
    · have hlt : keyF A f < keyF A y := of_decide_eq_true hg
      have c1 : ¬ Int32.ofNat (keyF A y) ≤ Int32.ofNat (keyF A f) := fun q => by have := (ofN_le (i := keyF A y) (j := keyF A f) (by omega) (by omega)).1 q; omega
      rw [if_neg c1]
      simp only [mE, i1, i2, h2, i3, i4, e2]
      obtain ⟨S1, x, q1, q2, q3, q4, q5⟩ := ih (m - 1) n (ms_setA S 58 m (Int32.ofNat (keyF A y))) (fun z hz => hy z (by simp [hz])) (by omega) (by omega) (by
        refine stR_up _ _ (fun j hj => ?_) h3
        have : j ≠ m := by omega
        simp [mG, this])
      refine ⟨S1, x, q1, by omega, ?_, fun j hj => ?_, fun b hb => (Eqc_A hb).tr (q5 b hb)⟩
      · have ei : insR (gtC A) f (y :: r) = y :: insR (gtC A) f r := by rw [insR, if_pos hg]
        rw [ei]
        refine ⟨by omega, ?_, ?_⟩
        · have hx : m ≠ x := by omega
          show ms_A (ms_setA S1 58 x (Int32.ofNat (keyF A f))) 58 (m + 1 - 1) = _
          rw [Nat.add_sub_cancel]
          simp only [mG, hx, and_false, if_false]
          rw [q4 m (by omega)]
          simp [mG]
        · rw [Nat.add_sub_cancel]
          rw [show m - 1 + 1 = m by omega] at q3
          exact q3
      · rw [q4 j (by omega)]
        have : j ≠ m := by omega
        simp [mG, this]
    · have hge : keyF A y ≤ keyF A f := Nat.not_lt.mp (fun q => hg (decide_eq_true q))
      have c1 : Int32.ofNat (keyF A y) ≤ Int32.ofNat (keyF A f) := (ofN_le (by omega) (by omega)).2 hge
      rw [if_pos c1]
      refine ⟨S, m, rfl, Nat.le_refl _, ?_, fun _ _ => rfl, fun _ _ => Eqc.rf⟩
      have ei : insR (gtC A) f (y :: r) = f :: y :: r := by rw [insR, if_neg hg]
      rw [ei]
      refine ⟨by omega, by simp [mG], ?_⟩
      rw [Nat.add_sub_cancel]
      refine stR_up ((y :: r).map fun y => Int32.ofNat (keyF A y)) m (fun j hj => ?_) ⟨h1, h2, h3⟩
      have : j ≠ m := by omega
      simp [mG, this]
theorem q39 {f m : Nat} {S : ms_S} {r : List Nat} (hN : 300 ≤ N) (hkf : keyF A f < 600000) (hy : ∀ y ∈ r, keyF A y < 600000) (hm : m < 200) (hc : ms_I S 57 9 = Int32.ofNat m) (hst : stR (ms_A S 58) m (r.map fun y => Int32.ofNat (keyF A y))) : ∃ S1, f39 N (Int32.ofNat (keyF A f)) S = some ((), S1) ∧ ms_I S1 57 9 = Int32.ofNat (m + 1) ∧ stR (ms_A S1 58) (m + 1) ((insR (gtC A) f r).map fun y => Int32.ofNat (keyF A y)) ∧ (∀ k, k ≠ 9 → ms_I S1 57 k = ms_I S 57 k) ∧ ms_R S1 57 = ms_R S 57 ∧ ∀ b, b ≠ 57 → b ≠ 58 → Eqc S S1 b := by
  have hlen : r.length = m := by have := stR_len _ _ hst; simpa using this
  have c200 : ¬ Int32.ofNat m ≥ 200 := fun q => by
    rw [l200] at q
    have := (ofN_le (i := 200) (j := m) (by omega) (by omega)).1 q
    omega
  obtain ⟨S1, x, q1, q2, q3, q4, q5⟩ := insL_C (N := N) (A := A) (f := f) (K := fun (x1 : Int32) (x2 : Int32) => (mb (sA 58 200 x2 x1) fun _ => mb (gI 57 9) fun v11 => mb (pI 57 9 (v11 + 1)) fun _ => mret ())) hkf r m N S hy hm (by omega) hst
  have hI : ms_I S1 57 = ms_I S 57 := (q5 57 (by decide)).1
  have i1 : inR (Int32.ofNat x) 200 := ofN_inR (by omega) (by omega)
  refine ⟨ms_setI (ms_setA S1 58 x (Int32.ofNat (keyF A f))) 57 9 (Int32.ofNat (m + 1)), ?_, by simp [mG], by simpa [mGo] using q3, fun k hk => ?_, ?_, fun b h1 h2 => ((q5 b h2).tr (Eqc_A h2)).tr (Eqc_I h1)⟩
  · unfold f39
    simp only [mE, hc, if_neg c200]
    refine Eq.trans q1 ?_
    simp only [mE, i1, ofN_cl (i := x) (by omega), mGo, hI, hc, ofN_s]
  · simp only [mG, mGo, hk, and_false, if_false]; rw [hI]
  · simp only [mGo]; exact (q5 57 (by decide)).2.2.1
theorem keyI {i : Nat} (h0 : 0 ≤ aX A 20 i) (h1 : aX A 20 i < 1000) : (aX A 20 i * 2 + (if isPs A i = true then 1 else 0)) * 256 + Int32.ofNat i = Int32.ofNat (keyF A i) := by
  obtain ⟨d, hd, e⟩ := i32_nat (n := 1000) h0 (by omega) (by rw [show Int32.ofNat 1000 = (1000 : Int32) from rfl]; exact h1)
  unfold keyF
  rw [e, ofN_cl (by omega), show (2 : Int32) = Int32.ofNat 2 from rfl, show (256 : Int32) = Int32.ofNat 256 from rfl, ofN_mul]
  split
  · rw [show (1 : Int32) = Int32.ofNat 1 from rfl, ofN_add, ofN_mul, ofN_add]
  · rw [show (0 : Int32) = Int32.ofNat 0 from rfl, ofN_add, ofN_mul, ofN_add]
/-- sortFacts -/
theorem sortL_C {k : Int32} (hN : 300 ≤ N) (hw : WF0 A) : ∀ l i n (S : ms_S), l + i = aN A 4 → l < n → cDi S A 40 4 20 → ms_R S 57 0 = some 40 → ms_I S 57 6 = k → ms_I S 57 9 = Int32.ofNat (ordC A k i).length → stR (ms_A S 58) (ordC A k i).length ((ordC A k i).map fun y => Int32.ofNat (keyF A y)) → ∃ S1, f38_L7 N (fun _ => mret ()) n (Int32.ofNat i) S = some ((), S1) ∧ ms_I S1 57 9 = Int32.ofNat (ordC A k (aN A 4)).length ∧ stR (ms_A S1 58) (ordC A k (aN A 4)).length ((ordC A k (aN A 4)).map fun y => Int32.ofNat (keyF A y)) ∧ (∀ j, j ≠ 9 → ms_I S1 57 j = ms_I S 57 j) ∧ ms_R S1 57 = ms_R S 57 ∧ ∀ b, b ≠ 57 → b ≠ 58 → Eqc S S1 b := by
  have hn4 : aN A 4 ≤ 200 := hw.1.2.2.2.2.1
  have wf := hw.2.2.2.2.2.2.1
  intro l
  induction l with
  | zero =>
    intro i n S hi hn hd hR hk h9 hst
    obtain ⟨n, rfl⟩ : ∃ q, n = q + 1 := ⟨n - 1, by omega⟩
    have e : i = aN A 4 := by omega
    subst e
    refine ⟨S, ?_, h9, hst, fun _ _ => rfl, rfl, fun _ _ _ => Eqc.rf⟩
    rw [f38_L7, EgRo hR rfl]
    simp only [mE, hd.1]
    rw [if_pos ((ofN_le (by omega) (by omega)).2 (Nat.le_refl _))]
  | succ l ih =>
    intro i n S hi hn hd hR hk h9 hst
    obtain ⟨n, rfl⟩ : ∃ q, n = q + 1 := ⟨n - 1, by omega⟩
    have hge : ¬ Int32.ofNat i ≥ Int32.ofNat (aN A 4) := fun q => by have := (ofN_le (i := aN A 4) (j := i) (by omega) (by omega)).1 q; omega
    have c200 : ¬ Int32.ofNat i ≥ 200 := fun q => by
      rw [l200] at q
      have := (ofN_le (i := 200) (j := i) (by omega) (by omega)).1 q
      omega
    obtain ⟨g1, g2, g3, g4, g5, g6⟩ := hd.2 i (by omega)
    obtain ⟨w0, w1, _⟩ := wf i (by omega)
    have i1 : inR (Int32.ofNat i) 200 := ofN_inR (by omega) (by omega)
    have i2 := ofN_cl (i := i) (by omega)
    have q := q22 (N := N) (S := S) (a := 40) (i := i) (k := k) (show i < dn 40 by show i < 200; omega) (by omega)
    rw [g5, g6] at q
    have m22 : ∀ {β : Type} {f : Int32 → mM β}, mb (f22 N 40 (Int32.ofNat i) k) f S = f (if cntA A 20 i k = true then 1 else 0) S := by
      intro β f
      have e : f22 N 40 (Int32.ofNat i) k S = some (if cntA A 20 i k = true then 1 else 0, S) := by
        rw [q]
        unfold cntA
        by_cases hc : aX A (20 + 4) i ≤ k ∧ (aX A (20 + 5) i = -1 ∨ k < aX A (20 + 5) i)
        · rw [if_pos hc, if_pos (decide_eq_true hc)]
        · rw [if_neg hc, if_neg (by rw [decide_eq_true_eq]; exact hc)]
      simp only [mb, e]
    rw [f38_L7, EgRo hR rfl]
    simp only [mE, hd.1, if_neg hge, if_neg c200]
    rw [EgRo hR rfl]
    simp only [mE, hk]
    rw [m22]
    by_cases hc : cntA A 20 i k = true
    · rw [if_pos hc, if_neg (by decide), EgRo hR rfl]
      have g2' : ms_A S 42 i = aX A 21 i := g2
      have g1' : ms_A S 41 i = aX A 20 i := g1
      simp only [mE, i1, i2, g2']
      have hlen := ordC_len (A := A) (k := k) i
      obtain ⟨S1, e1, r1, r2, r3, r4, r5⟩ := q39 (N := N) (A := A) (f := i) (S := S) (r := ordC A k i) hN (keyF_lt w0 w1 (by omega)) (fun y hy => by have h1 := ordC_lt i y hy; have h2 := wf y (by omega); exact keyF_lt h2.1 h2.2.1 (by omega)) (show (ordC A k i).length < 200 by omega) h9 hst
      have eo : ordC A k (i + 1) = insR (gtC A) i (ordC A k i) := by rw [ordC, if_pos hc]
      have el : (ordC A k (i + 1)).length = (ordC A k i).length + 1 := by rw [eo, insR_len]
      obtain ⟨S2, e2, u1, u2, u3, u4, u5⟩ := ih (i + 1) n S1 (by omega) (by omega) (cDi_fr hd (fun b h1 h2 => r5 b (by omega) (by omega))) (by rw [r4]; exact hR) (by rw [r3 6 (by omega)]; exact hk) (by rw [el]; exact r1) (by rw [el, eo]; exact r2)
      refine ⟨S2, ?_, u1, u2, fun j hj => by rw [u3 j hj, r3 j hj], by rw [u4, r4], fun b h1 h2 => (r5 b h1 h2).tr (u5 b h1 h2)⟩
      have key : ∀ p : Int32, p = (if isPs A i = true then 1 else 0) → (mb (gRo (isA 40) 57 0) fun _ => mb (lA 41 200 (Int32.ofNat i)) fun v14 => mb (f39 N ((((v14 * 2) + p) * 256) + Int32.ofNat i)) fun _ => f38_L7 N (fun _ => mret ()) n (Int32.ofNat i + 1)) S = some ((), S2) := by
        intro p hp
        rw [EgRo hR rfl]
        simp only [mE, i1, i2, g1']
        rw [hp, keyI w0 w1]
        have m39 : ∀ {β : Type} {f : Unit → mM β}, mb (f39 N (Int32.ofNat (keyF A i))) f S = f () S1 := by intro β f; simp only [mb, e1]
        rw [m39, ofN_s]
        exact e2
      by_cases hp : aX A 21 i = -1
      · rw [if_neg (fun q => q hp)]
        exact key 0 (by unfold isPs; rw [if_neg (by rw [decide_eq_true_eq]; exact fun q => q hp)])
      · rw [if_pos hp]
        exact key 1 (by unfold isPs; rw [if_pos (decide_eq_true hp)])
    · rw [if_neg hc, if_pos rfl, ofN_s]
      have eo : ordC A k (i + 1) = ordC A k i := by rw [ordC, if_neg hc]
      exact ih (i + 1) n S (by omega) (by omega) hd hR hk (by rw [eo]; exact h9) (by rw [eo]; exact hst)
theorem q38 {k : Int32} {S : ms_S} (hN : 300 ≤ N) (hw : WF0 A) (hd : cDi S A 40 4 20) (hR : ms_R S 57 0 = some 40) (hk : ms_I S 57 6 = k) : ∃ S1, f38 N S = some ((), S1) ∧ ms_I S1 57 9 = Int32.ofNat (ordC A k (aN A 4)).length ∧ stR (ms_A S1 58) (ordC A k (aN A 4)).length ((ordC A k (aN A 4)).map fun y => Int32.ofNat (keyF A y)) ∧ (∀ j, j ≠ 9 → ms_I S1 57 j = ms_I S 57 j) ∧ ms_R S1 57 = ms_R S 57 ∧ ∀ b, b ≠ 57 → b ≠ 58 → Eqc S S1 b := by
  have hn4 : aN A 4 ≤ 200 := hw.1.2.2.2.2.1
  obtain ⟨S1, e1, r1, r2, r3, r4, r5⟩ := sortL_C (N := N) (A := A) (k := k) hN hw (aN A 4) 0 N (ms_setI S 57 9 0) (by omega) (by omega) (cDi_fr hd (fun b h1 h2 => Eqc_I (by omega))) (by simp only [mGo]; exact hR) (by simp only [mG, show ¬ ((6 : Nat) = 9) by decide, and_false, if_false]; exact hk) (by simp [mG]; rfl) rfl
  refine ⟨S1, ?_, r1, r2, fun j hj => by rw [r3 j hj]; simp [mG, hj], by rw [r4]; simp only [mGo], fun b h1 h2 => (Eqc_I h1).tr (r5 b h1 h2)⟩
  unfold f38
  simp only [mE]
  exact e1
end SRT
