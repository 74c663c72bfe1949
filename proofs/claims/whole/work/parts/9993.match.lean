/-! who fits whom: ways to give passages to sightings -/
def sR (g : Nat → Nat) : Nat → Nat → Nat
  | _, 0 => 0
  | i, k + 1 => g i + sR g (i + 1) k
theorem sR_s {g : Nat → Nat} {i k : Nat} : sR g i (k + 1) = g i + sR g (i + 1) k := rfl
def cnt : List (Nat → Bool) → Nat → Nat
  | [], _ => 1
  | q :: R, t => sR (fun p => if q p = true ∧ Nat.testBit t p = false then cnt R (t ||| 2 ^ p) else 0) 0 8
def Asg : List (Nat → Bool) → Nat → List Nat → Prop
  | [], _, L => L = []
  | q :: R, t, L => ∃ p L', L = p :: L' ∧ p < 8 ∧ q p = true ∧ Nat.testBit t p = false ∧ Asg R (t ||| 2 ^ p) L'
theorem sR_pos {g : Nat → Nat} : ∀ k i, 0 < sR g i k ↔ ∃ p, i ≤ p ∧ p < i + k ∧ 0 < g p := by
  intro k
  induction k with
  | zero => intro i; exact ⟨fun h => absurd h (by simp [sR]), fun ⟨p, h1, h2, _⟩ => absurd h2 (by omega)⟩
  | succ k ih =>
    intro i
    unfold sR
    refine ⟨fun h => ?_, fun ⟨p, h1, h2, h3⟩ => ?_⟩
    · by_cases hg : 0 < g i
      · exact ⟨i, by omega, by omega, hg⟩
      · obtain ⟨p, h1, h2, h3⟩ := (ih (i + 1)).1 (by omega)
        exact ⟨p, by omega, by omega, h3⟩
    · by_cases e : p = i
      · subst e; omega
      · have := (ih (i + 1)).2 ⟨p, by omega, by omega, h3⟩
        omega
theorem sR_le {g : Nat → Nat} {b : Nat} (h : ∀ p, g p ≤ b) : ∀ k i, sR g i k ≤ k * b := by
  intro k
  induction k with
  | zero => intro i; simp [sR]
  | succ k ih =>
    intro i
    unfold sR
    have := ih (i + 1)
    have := h i
    rw [Nat.add_mul]
    omega
theorem sR_zero {g : Nat → Nat} : ∀ k i, (∀ p, i ≤ p → p < i + k → g p = 0) → sR g i k = 0 := by
  intro k
  induction k with
  | zero => intro i _; rfl
  | succ k ih => intro i h; unfold sR; rw [h i (by omega) (by omega), ih (i + 1) (fun p h1 h2 => h p (by omega) (by omega))]
theorem sR_app {g : Nat → Nat} : ∀ k i j, sR g i (k + j) = sR g i k + sR g (i + k) j := by
  intro k
  induction k with
  | zero => intro i j; rw [Nat.zero_add]; simp [sR]
  | succ k ih =>
    intro i j
    rw [show k + 1 + j = (k + j) + 1 by omega, sR_s, sR_s, ih (i + 1) j, show i + 1 + k = i + (k + 1) by omega]
    omega
theorem cnt_pos : ∀ (R : List (Nat → Bool)) (t : Nat), 0 < cnt R t ↔ ∃ L, Asg R t L := by
  intro R
  induction R with
  | nil => intro t; exact ⟨fun _ => ⟨[], rfl⟩, fun _ => by simp [cnt]⟩
  | cons q R ih =>
    intro t
    unfold cnt Asg
    rw [sR_pos]
    refine ⟨fun ⟨p, _, h2, h3⟩ => ?_, fun ⟨L, p, L', _, h2, h3, h4, h5⟩ => ⟨p, by omega, by omega, ?_⟩⟩
    · by_cases hc : q p = true ∧ Nat.testBit t p = false
      · simp only [if_pos hc] at h3
        obtain ⟨L', hL⟩ := (ih _).1 h3
        exact ⟨p :: L', p, L', rfl, by omega, hc.1, hc.2, hL⟩
      · simp only [if_neg hc] at h3
        exact absurd h3 (by omega)
    · simp only [if_pos (And.intro h3 h4)]
      exact (ih _).2 ⟨L', h5⟩
theorem cnt_le : ∀ (R : List (Nat → Bool)) (t : Nat), cnt R t ≤ 8 ^ R.length := by
  intro R
  induction R with
  | nil => intro t; simp [cnt]
  | cons q R ih =>
    intro t
    unfold cnt
    have := sR_le (g := fun p => if q p = true ∧ Nat.testBit t p = false then cnt R (t ||| 2 ^ p) else 0) (b := 8 ^ R.length) (fun p => by
      by_cases hc : q p = true ∧ Nat.testBit t p = false
      · simp only [if_pos hc]; exact ih _
      · simp only [if_neg hc]; exact Nat.zero_le _) 8 0
    rw [List.length_cons, Nat.pow_succ, Nat.mul_comm]
    exact this
theorem tb_or {t p a : Nat} : Nat.testBit (t ||| 2 ^ p) a = false ↔ Nat.testBit t a = false ∧ p ≠ a := by
  rw [Nat.testBit_or, Nat.testBit_two_pow]
  cases Nat.testBit t a <;> simp
theorem or_cm {t p a : Nat} : t ||| 2 ^ p ||| 2 ^ a = t ||| 2 ^ a ||| 2 ^ p := by
  rw [Nat.or_assoc, Nat.or_assoc, Nat.or_comm (2 ^ p)]
theorem asg_at : ∀ (r : Nat) (R : List (Nat → Bool)) (t p : Nat), (∃ L, Asg R t L ∧ L[r]? = some p) ↔ ∃ q, R[r]? = some q ∧ p < 8 ∧ q p = true ∧ Nat.testBit t p = false ∧ ∃ L, Asg (R.eraseIdx r) (t ||| 2 ^ p) L := by
  intro r
  induction r with
  | zero =>
    intro R t p
    cases R with
    | nil => exact ⟨fun ⟨L, h, h2⟩ => by rw [show L = [] from h] at h2; simp at h2, fun ⟨q, h, _⟩ => by simp at h⟩
    | cons q R =>
      refine ⟨fun ⟨L, ⟨a, L', e, h1, h2, h3, h4⟩, h5⟩ => ?_, fun ⟨q', h, h1, h2, h3, L', h4⟩ => ?_⟩
      · rw [e] at h5
        have h5 : a = p := by simpa using h5
        subst h5
        exact ⟨q, by simp, h1, h2, h3, L', h4⟩
      · have h : q = q' := by simpa using h
        subst h
        exact ⟨p :: L', ⟨p, L', rfl, h1, h2, h3, h4⟩, by simp⟩
  | succ r ih =>
    intro R t p
    cases R with
    | nil => exact ⟨fun ⟨L, h, h2⟩ => by rw [show L = [] from h] at h2; simp at h2, fun ⟨q, h, _⟩ => by simp at h⟩
    | cons q R =>
      refine ⟨fun ⟨L, ⟨a, L', e, h1, h2, h3, h4⟩, h5⟩ => ?_, fun ⟨q', h, h1, h2, h3, L, hA⟩ => ?_⟩
      · rw [e] at h5
        have h5 : L'[r]? = some p := by simpa using h5
        obtain ⟨q', k1, k2, k3, k4, L2, k5⟩ := (ih R (t ||| 2 ^ a) p).1 ⟨L', h4, h5⟩
        have k4 := tb_or.1 k4
        refine ⟨q', by simpa using k1, k2, k3, k4.1, a :: L2, a, L2, rfl, h1, h2, tb_or.2 ⟨h3, fun e => k4.2 e.symm⟩, ?_⟩
        rw [or_cm]; exact k5
      · have h : R[r]? = some q' := by simpa using h
        obtain ⟨a, L', e, m1, m2, m3, m4⟩ := hA
        have m3 := tb_or.1 m3
        rw [or_cm] at m4
        obtain ⟨L2, n1, n2⟩ := (ih R (t ||| 2 ^ a) p).2 ⟨q', h, h1, h2, tb_or.2 ⟨h3, fun e => m3.2 e.symm⟩, L', m4⟩
        exact ⟨a :: L2, ⟨a, L2, rfl, m1, m2, m3.1, n1⟩, by simpa using n2⟩
def bitsN (b : Nat → Bool) : Nat → Nat
  | 0 => 0
  | n + 1 => bitsN b n ||| (if b n = true then 2 ^ n else 0)
theorem bitsN_tb {b : Nat → Bool} : ∀ n p, Nat.testBit (bitsN b n) p = (decide (p < n) && b p) := by
  intro n
  induction n with
  | zero => intro p; simp [bitsN]
  | succ n ih =>
    intro p
    unfold bitsN
    rw [Nat.testBit_or, ih p]
    by_cases e : p = n
    · subst e
      cases hb : b p <;> simp [Nat.testBit_two_pow]
    · by_cases hb : b n = true
      · rw [if_pos hb, Nat.testBit_two_pow]
        have h1 : decide (n = p) = false := decide_eq_false (fun q => e q.symm)
        have h2 : decide (p < n + 1) = decide (p < n) := by
          by_cases h : p < n
          · rw [decide_eq_true h, decide_eq_true (by omega)]
          · rw [decide_eq_false h, decide_eq_false (by omega)]
        rw [h1, h2, Bool.or_false]
      · rw [if_neg hb]
        have h2 : decide (p < n + 1) = decide (p < n) := by
          by_cases h : p < n
          · rw [decide_eq_true h, decide_eq_true (by omega)]
          · rw [decide_eq_false h, decide_eq_false (by omega)]
        rw [h2, Nat.zero_testBit, Bool.or_false]
theorem bitsN_lt {b : Nat → Bool} : ∀ n, bitsN b n < 2 ^ n := by
  intro n
  induction n with
  | zero => simp [bitsN]
  | succ n ih =>
    unfold bitsN
    refine Nat.or_lt_two_pow (Nat.lt_trans ih (Nat.pow_lt_pow_right (by omega) (by omega))) ?_
    split
    · exact Nat.pow_lt_pow_right (by omega) (by omega)
    · exact Nat.two_pow_pos _
/-- sighting r may be passage p -/
def cdB (R : List (Nat → Bool)) (r p : Nat) : Bool := match R[r]? with
  | none => false
  | some q => q p && decide (0 < cnt (R.eraseIdx r) (2 ^ p))
theorem cdB_iff {R : List (Nat → Bool)} {r p : Nat} (hp : p < 8) : cdB R r p = true ↔ ∃ L, Asg R 0 L ∧ L[r]? = some p := by
  rw [asg_at]
  unfold cdB
  cases h : R[r]? with
  | none => exact ⟨(fun q => by cases q), (fun ⟨q, e, _⟩ => by cases e)⟩
  | some q =>
    simp only [Bool.and_eq_true, decide_eq_true_eq]
    rw [cnt_pos]
    refine ⟨fun ⟨h1, h2⟩ => ⟨q, rfl, hp, h1, Nat.zero_testBit _, by rw [Nat.zero_or]; exact h2⟩, fun ⟨q', e, _, h1, _, h2⟩ => ?_⟩
    have e : q = q' := by simpa using e
    subst e
    rw [Nat.zero_or] at h2
    exact ⟨h1, h2⟩
/-! the reference's way through -/
abbrev Rs : Type := Nat × (Nat → Nat)
def rdN (n : Nat) : List (Nat → Bool) → Nat → List Nat → Rs → Rs
  | [], _, l, st => (st.1 + 1, fun i => st.2 i ||| 2 ^ (l.reverse.getD i 0))
  | q :: R, t, l, st => (List.range' 0 n).foldl (fun st p => if q p = true ∧ Nat.testBit t p = false then rdN n R (t ||| 2 ^ p) (p :: l) st else st) st
def rdB (n : Nat) (q : Nat → Bool) (R : List (Nat → Bool)) (t : Nat) (l : List Nat) (st : Rs) (p : Nat) : Rs := if q p = true ∧ Nat.testBit t p = false then rdN n R (t ||| 2 ^ p) (p :: l) st else st
theorem rdN_s {n : Nat} {q : Nat → Bool} {R : List (Nat → Bool)} {t : Nat} {l : List Nat} {st : Rs} : rdN n (q :: R) t l st = (List.range' 0 n).foldl (rdB n q R t l) st := rfl
theorem rdN_1 {n : Nat} (hn : n ≤ 8) : ∀ (R : List (Nat → Bool)) (t : Nat) (l : List Nat) (st : Rs), (∀ q ∈ R, ∀ p, q p = true → p < n) → (rdN n R t l st).1 = st.1 + cnt R t := by
  intro R
  induction R with
  | nil => intro t l st _; rfl
  | cons q R ih =>
    intro t l st hq
    rw [rdN_s]
    have hL : ∀ k i st, ((List.range' i k).foldl (rdB n q R t l) st).1 = st.1 + sR (fun p => if q p = true ∧ Nat.testBit t p = false then cnt R (t ||| 2 ^ p) else 0) i k := by
      intro k
      induction k with
      | zero => intro i st; rfl
      | succ k ihk =>
        intro i st
        rw [List.range'_succ, List.foldl_cons, ihk, sR_s]
        have : (rdB n q R t l st i).1 = st.1 + (if q i = true ∧ Nat.testBit t i = false then cnt R (t ||| 2 ^ i) else 0) := by
          unfold rdB
          by_cases hc : q i = true ∧ Nat.testBit t i = false
          · rw [if_pos hc, if_pos hc]; exact ih _ _ _ (fun q' h' => hq q' (by simp [h']))
          · rw [if_neg hc, if_neg hc]; rfl
        rw [this, Nat.add_assoc]
    rw [hL n 0 st]
    have := sR_app (g := fun p => if q p = true ∧ Nat.testBit t p = false then cnt R (t ||| 2 ^ p) else 0) n 0 (8 - n)
    rw [show n + (8 - n) = 8 by omega, sR_zero (8 - n) (0 + n) (fun p h1 h2 => if_neg (fun c => by have := hq q (by simp) p c.1; omega))] at this
    rw [show cnt (q :: R) t = sR (fun p => if q p = true ∧ Nat.testBit t p = false then cnt R (t ||| 2 ^ p) else 0) 0 8 from rfl, this]
    rfl
theorem rdN_2 {n : Nat} (hn : n ≤ 8) {i p : Nat} : ∀ (R : List (Nat → Bool)) (t : Nat) (l : List Nat) (st : Rs), (∀ q ∈ R, ∀ p, q p = true → p < n) → i < l.length + R.length → (Nat.testBit ((rdN n R t l st).2 i) p = true ↔ Nat.testBit (st.2 i) p = true ∨ ∃ L, Asg R t L ∧ (l.reverse ++ L)[i]? = some p) := by
  intro R
  induction R with
  | nil =>
    intro t l st _ hi
    have hi : i < l.reverse.length := by simpa using hi
    show Nat.testBit (st.2 i ||| 2 ^ (l.reverse.getD i 0)) p = true ↔ _
    rw [Nat.testBit_or, Nat.testBit_two_pow, Bool.or_eq_true, decide_eq_true_eq]
    refine or_congr Iff.rfl ⟨fun h => ⟨[], rfl, ?_⟩, fun ⟨L, hL, h⟩ => ?_⟩
    · rw [List.append_nil, List.getElem?_eq_getElem hi]
      rw [List.getD_eq_getElem?_getD, List.getElem?_eq_getElem hi] at h
      exact congrArg some h
    · rw [show L = [] from hL, List.append_nil, List.getElem?_eq_getElem hi] at h
      rw [List.getD_eq_getElem?_getD, List.getElem?_eq_getElem hi]
      exact Option.some.inj h
  | cons q R ih =>
    intro t l st hq hi
    rw [rdN_s]
    have hL : ∀ (M : List Nat) (st : Rs), (Nat.testBit ((M.foldl (rdB n q R t l) st).2 i) p = true ↔ Nat.testBit (st.2 i) p = true ∨ ∃ a ∈ M, (q a = true ∧ Nat.testBit t a = false) ∧ ∃ L, Asg R (t ||| 2 ^ a) L ∧ (l.reverse ++ a :: L)[i]? = some p) := by
      intro M
      induction M with
      | nil => intro st; exact ⟨fun h => Or.inl h, fun h => h.elim id (fun ⟨a, ha, _⟩ => by cases ha)⟩
      | cons a M ihM =>
        intro st
        rw [List.foldl_cons, ihM]
        have hb : Nat.testBit ((rdB n q R t l st a).2 i) p = true ↔ Nat.testBit (st.2 i) p = true ∨ ((q a = true ∧ Nat.testBit t a = false) ∧ ∃ L, Asg R (t ||| 2 ^ a) L ∧ (l.reverse ++ a :: L)[i]? = some p) := by
          unfold rdB
          by_cases hc : q a = true ∧ Nat.testBit t a = false
          · rw [if_pos hc, ih _ _ _ (fun q' h' => hq q' (by simp [h'])) (by simp at hi ⊢; omega)]
            refine or_congr Iff.rfl ⟨fun ⟨L, h1, h2⟩ => ⟨hc, L, h1, by simpa using h2⟩, fun ⟨_, L, h1, h2⟩ => ⟨L, h1, by simpa using h2⟩⟩
          · rw [if_neg hc]
            exact ⟨fun h => Or.inl h, fun h => h.elim id (fun h => absurd h.1 hc)⟩
        rw [hb]
        constructor
        · rintro ((h | h) | ⟨b, hb, h⟩)
          · exact Or.inl h
          · exact Or.inr ⟨a, by simp, h⟩
          · exact Or.inr ⟨b, by simp [hb], h⟩
        · rintro (h | ⟨b, hb, h⟩)
          · exact Or.inl (Or.inl h)
          · rcases List.mem_cons.mp hb with rfl | hb
            · exact Or.inl (Or.inr h)
            · exact Or.inr ⟨b, hb, h⟩
    rw [hL]
    refine or_congr Iff.rfl ⟨fun ⟨a, ha, hc, L, h1, h2⟩ => ?_, fun ⟨L, ⟨a, L', e, h1, h2, h3, h4⟩, h5⟩ => ?_⟩
    · have := List.mem_range'_1.mp ha
      exact ⟨a :: L, ⟨a, L, rfl, by omega, hc.1, hc.2, h1⟩, h2⟩
    · subst e
      exact ⟨a, List.mem_range'_1.mpr ⟨by omega, by have := hq q (by simp) a h2; omega⟩, ⟨h2, h3⟩, L', h4, h5⟩
theorem rdN_lt {n : Nat} (hn : n ≤ 8) {i : Nat} : ∀ (R : List (Nat → Bool)) (t : Nat) (l : List Nat) (st : Rs), (∀ q ∈ R, ∀ p, q p = true → p < n) → (∀ a ∈ l, a < 8) → st.2 i < 256 → (rdN n R t l st).2 i < 256 := by
  intro R
  induction R with
  | nil =>
    intro t l st _ hl hs
    show st.2 i ||| 2 ^ (l.reverse.getD i 0) < 2 ^ 8
    refine Nat.or_lt_two_pow hs (Nat.pow_lt_pow_right (by omega) ?_)
    rw [List.getD_eq_getElem?_getD]
    cases h : l.reverse[i]? with
    | none => simp
    | some a =>
      have : a ∈ l.reverse := List.mem_of_getElem? h
      exact hl a (by simpa using this)
  | cons q R ih =>
    intro t l st hq hl hs
    rw [rdN_s]
    have hL : ∀ (M : List Nat) (st : Rs), (∀ a ∈ M, a < 8) → st.2 i < 256 → (M.foldl (rdB n q R t l) st).2 i < 256 := by
      intro M
      induction M with
      | nil => intro st _ h; exact h
      | cons a M ihM =>
        intro st hM h
        rw [List.foldl_cons]
        refine ihM _ (fun b hb => hM b (by simp [hb])) ?_
        unfold rdB
        split
        · refine ih _ _ _ (fun q' h' => hq q' (by simp [h'])) (fun b hb => ?_) h
          rcases List.mem_cons.mp hb with rfl | hb
          · exact hM b (by simp)
          · exact hl b hb
        · exact h
    exact hL _ _ (fun a ha => by have := List.mem_range'_1.mp ha; omega) hs
/-! bits -/
def pcE (p0 : Int32) : Int32 := ((((((((p0 - ((UInt32.toInt32 (Int32.toUInt32 p0 >>> (Int32.toUInt32 1 &&& Int32.toUInt32 31))) &&& 1431655765)) &&& 858993459) + ((UInt32.toInt32 (Int32.toUInt32 (p0 - ((UInt32.toInt32 (Int32.toUInt32 p0 >>> (Int32.toUInt32 1 &&& Int32.toUInt32 31))) &&& 1431655765)) >>> (Int32.toUInt32 2 &&& Int32.toUInt32 31))) &&& 858993459)) + (UInt32.toInt32 (Int32.toUInt32 (((p0 - ((UInt32.toInt32 (Int32.toUInt32 p0 >>> (Int32.toUInt32 1 &&& Int32.toUInt32 31))) &&& 1431655765)) &&& 858993459) + ((UInt32.toInt32 (Int32.toUInt32 (p0 - ((UInt32.toInt32 (Int32.toUInt32 p0 >>> (Int32.toUInt32 1 &&& Int32.toUInt32 31))) &&& 1431655765)) >>> (Int32.toUInt32 2 &&& Int32.toUInt32 31))) &&& 858993459)) >>> (Int32.toUInt32 4 &&& Int32.toUInt32 31)))) &&& 252645135) + (UInt32.toInt32 (Int32.toUInt32 (((((p0 - ((UInt32.toInt32 (Int32.toUInt32 p0 >>> (Int32.toUInt32 1 &&& Int32.toUInt32 31))) &&& 1431655765)) &&& 858993459) + ((UInt32.toInt32 (Int32.toUInt32 (p0 - ((UInt32.toInt32 (Int32.toUInt32 p0 >>> (Int32.toUInt32 1 &&& Int32.toUInt32 31))) &&& 1431655765)) >>> (Int32.toUInt32 2 &&& Int32.toUInt32 31))) &&& 858993459)) + (UInt32.toInt32 (Int32.toUInt32 (((p0 - ((UInt32.toInt32 (Int32.toUInt32 p0 >>> (Int32.toUInt32 1 &&& Int32.toUInt32 31))) &&& 1431655765)) &&& 858993459) + ((UInt32.toInt32 (Int32.toUInt32 (p0 - ((UInt32.toInt32 (Int32.toUInt32 p0 >>> (Int32.toUInt32 1 &&& Int32.toUInt32 31))) &&& 1431655765)) >>> (Int32.toUInt32 2 &&& Int32.toUInt32 31))) &&& 858993459)) >>> (Int32.toUInt32 4 &&& Int32.toUInt32 31)))) &&& 252645135) >>> (Int32.toUInt32 8 &&& Int32.toUInt32 31)))) + (UInt32.toInt32 (Int32.toUInt32 ((((((p0 - ((UInt32.toInt32 (Int32.toUInt32 p0 >>> (Int32.toUInt32 1 &&& Int32.toUInt32 31))) &&& 1431655765)) &&& 858993459) + ((UInt32.toInt32 (Int32.toUInt32 (p0 - ((UInt32.toInt32 (Int32.toUInt32 p0 >>> (Int32.toUInt32 1 &&& Int32.toUInt32 31))) &&& 1431655765)) >>> (Int32.toUInt32 2 &&& Int32.toUInt32 31))) &&& 858993459)) + (UInt32.toInt32 (Int32.toUInt32 (((p0 - ((UInt32.toInt32 (Int32.toUInt32 p0 >>> (Int32.toUInt32 1 &&& Int32.toUInt32 31))) &&& 1431655765)) &&& 858993459) + ((UInt32.toInt32 (Int32.toUInt32 (p0 - ((UInt32.toInt32 (Int32.toUInt32 p0 >>> (Int32.toUInt32 1 &&& Int32.toUInt32 31))) &&& 1431655765)) >>> (Int32.toUInt32 2 &&& Int32.toUInt32 31))) &&& 858993459)) >>> (Int32.toUInt32 4 &&& Int32.toUInt32 31)))) &&& 252645135) + (UInt32.toInt32 (Int32.toUInt32 (((((p0 - ((UInt32.toInt32 (Int32.toUInt32 p0 >>> (Int32.toUInt32 1 &&& Int32.toUInt32 31))) &&& 1431655765)) &&& 858993459) + ((UInt32.toInt32 (Int32.toUInt32 (p0 - ((UInt32.toInt32 (Int32.toUInt32 p0 >>> (Int32.toUInt32 1 &&& Int32.toUInt32 31))) &&& 1431655765)) >>> (Int32.toUInt32 2 &&& Int32.toUInt32 31))) &&& 858993459)) + (UInt32.toInt32 (Int32.toUInt32 (((p0 - ((UInt32.toInt32 (Int32.toUInt32 p0 >>> (Int32.toUInt32 1 &&& Int32.toUInt32 31))) &&& 1431655765)) &&& 858993459) + ((UInt32.toInt32 (Int32.toUInt32 (p0 - ((UInt32.toInt32 (Int32.toUInt32 p0 >>> (Int32.toUInt32 1 &&& Int32.toUInt32 31))) &&& 1431655765)) >>> (Int32.toUInt32 2 &&& Int32.toUInt32 31))) &&& 858993459)) >>> (Int32.toUInt32 4 &&& Int32.toUInt32 31)))) &&& 252645135) >>> (Int32.toUInt32 8 &&& Int32.toUInt32 31)))) >>> (Int32.toUInt32 16 &&& Int32.toUInt32 31)))) &&& 63)
theorem q255 {N : Nat} {x : Int32} {S : ms_S} : f255 N x S = some (pcE x, S) := rfl
def popN (t : Nat) : Nat := (if Nat.testBit t 0 = true then 1 else 0) + (if Nat.testBit t 1 = true then 1 else 0) + (if Nat.testBit t 2 = true then 1 else 0) + (if Nat.testBit t 3 = true then 1 else 0) + (if Nat.testBit t 4 = true then 1 else 0) + (if Nat.testBit t 5 = true then 1 else 0) + (if Nat.testBit t 6 = true then 1 else 0) + (if Nat.testBit t 7 = true then 1 else 0)
theorem pop_0 : ∀ t : Fin 256, decide (pcE (Int32.ofNat t.1) = Int32.ofNat (popN t.1)) = true := by decide +kernel
theorem pop_e {t : Nat} (h : t < 256) : pcE (Int32.ofNat t) = Int32.ofNat (popN t) := of_decide_eq_true (pop_0 ⟨t, h⟩)
theorem pop_1 : ∀ t : Fin 256, ∀ p : Fin 8, decide (Nat.testBit t.1 p.1 = false → popN (t.1 ||| 2 ^ p.1) = popN t.1 + 1 ∧ t.1 < t.1 ||| 2 ^ p.1) = true := by decide +kernel
theorem pop_s {t p : Nat} (h : t < 256) (hp : p < 8) (hb : Nat.testBit t p = false) : popN (t ||| 2 ^ p) = popN t + 1 ∧ t < t ||| 2 ^ p := of_decide_eq_true (pop_1 ⟨t, h⟩ ⟨p, hp⟩) hb
theorem pop_le {t : Nat} : popN t ≤ 8 := by
  unfold popN
  repeat' split
  all_goals omega
theorem andnot {r t : Nat} (hr : r < 256) : Int32.ofNat r &&& (Int32.ofNat t ^^^ (-1)) = Int32.ofNat (r &&& (255 ^^^ t)) := by
  apply Int32.toBitVec_inj.1
  rw [Int32.toBitVec_and, Int32.toBitVec_xor]
  apply BitVec.eq_of_getLsbD_eq
  intro i hi
  have e1 : ∀ m : Nat, (Int32.ofNat m).toBitVec = BitVec.ofNat 32 m := fun _ => rfl
  have e2 : (-1 : Int32).toBitVec = BitVec.allOnes 32 := by decide
  rw [BitVec.getLsbD_and, BitVec.getLsbD_xor, e1, e1, e1, e2, BitVec.getLsbD_allOnes, BitVec.getLsbD_ofNat, BitVec.getLsbD_ofNat, BitVec.getLsbD_ofNat, Nat.testBit_and, Nat.testBit_xor]
  have h255 : Nat.testBit 255 i = decide (i < 8) := Nat.testBit_two_pow_sub_one 8 i
  rw [h255, decide_eq_true hi]
  by_cases h8 : i < 8
  · rw [decide_eq_true h8]
    cases Nat.testBit r i <;> cases Nat.testBit t i <;> rfl
  · have : Nat.testBit r i = false := Nat.testBit_lt_two_pow (Nat.lt_of_lt_of_le hr (by rw [show (256 : Nat) = 2 ^ 8 from rfl]; exact Nat.pow_le_pow_right (by omega) (by omega)))
    rw [this]
    rfl
theorem andnot_tb {r t p : Nat} (hr : r < 256) (hp : p < 8) : (((Int32.ofNat r &&& (Int32.ofNat t ^^^ (-1))) >>> (Int32.ofNat p &&& 31)) &&& 1) = 0 ↔ ¬ (Nat.testBit r p = true ∧ Nat.testBit t p = false) := by
  rw [andnot hr, b_tst (Nat.lt_of_le_of_lt Nat.and_le_left hr) hp, Nat.testBit_and, Nat.testBit_xor]
  have h255 : Nat.testBit 255 p = true := by rw [show (255 : Nat) = 2 ^ 8 - 1 from rfl, Nat.testBit_two_pow_sub_one]; exact decide_eq_true hp
  rw [h255]
  cases Nat.testBit r p <;> cases Nat.testBit t p <;> simp
