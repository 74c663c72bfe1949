/-! the passages of a day, their minutes; the class -/
def sumB (m : Nat → Nat) (b : Nat → Bool) : Nat → Nat
  | 0 => 0
  | n + 1 => sumB m b n + (if b n = true then m n else 0)
theorem sumB_congr {m : Nat → Nat} {b b' : Nat → Bool} : ∀ n, (∀ c, c < n → b c = b' c) → sumB m b n = sumB m b' n := by
  intro n
  induction n with
  | zero => intro _; rfl
  | succ n ih => intro h; unfold sumB; rw [ih (fun c hc => h c (by omega)), h n (by omega)]
theorem sumB_zero {m : Nat → Nat} {b : Nat → Bool} : ∀ n, (∀ c, c < n → b c = false) → sumB m b n = 0 := by
  intro n
  induction n with
  | zero => intro _; rfl
  | succ n ih => intro h; unfold sumB; rw [ih (fun c hc => h c (by omega)), h n (by omega)]; rfl
theorem sumB_stay {m : Nat → Nat} {b : Nat → Bool} {e : Nat} : ∀ k, (∀ c, e ≤ c → c < e + k → b c = false) → sumB m b (e + k) = sumB m b e := by
  intro k
  induction k with
  | zero => intro _; rfl
  | succ k ih =>
    intro h
    rw [show e + (k + 1) = (e + k) + 1 by omega]
    unfold sumB
    rw [h (e + k) (by omega) (by omega), show sumB m b (e + k) = sumB m b e from ih (fun c h1 h2 => h c h1 (by omega))]
    cases e <;> rfl
theorem sumB_bd {m : Nat → Nat} {b : Nat → Bool} : ∀ n, (∀ c, c < n → m c ≤ 19) → sumB m b n ≤ 19 * n := by
  intro n
  induction n with
  | zero => intro _; simp [sumB]
  | succ n ih =>
    intro h
    have h1 := ih (fun c hc => h c (by omega))
    have h2 := h n (by omega)
    unfold sumB
    split <;> omega
def mN (A : Ab) (sh : Nat) (no : Int32) (c : Nat) : Nat := (minF (aX A 12 sh) (alongF (aX A 3 c) no)).toNatClampNeg
theorem mN_eq {A : Ab} (hw : WF0 A) {sh c : Nat} {no : Int32} (hs : sh < aN A 3) (hc : c < aN A 1) : minF (aX A 12 sh) (alongF (aX A 3 c) no) = Int32.ofNat (mN A sh no c) ∧ mN A sh no c ≤ 19 := by
  obtain ⟨_, _, _, _, w1, w2, _⟩ := hw.2.2.2.2.2.1 sh hs
  obtain ⟨_, _, _, _, w3, w4, _⟩ := hw.2.2.2.1 c hc
  have ha : -9 ≤ alongF (aX A 3 c) no ∧ alongF (aX A 3 c) no ≤ 9 := by
    unfold alongF
    generalize aX A 3 c = z at *
    clear hw
    split
    · grind
    · exact ⟨w3, w4⟩
  have hl : ∃ q, q ≤ 4 ∧ aX A 12 sh / 100 = Int32.ofNat q := by
    obtain ⟨L, hL, eL⟩ := i32_nat (x := aX A 12 sh) (n := 401) (by generalize aX A 12 sh = z at *; clear hw; grind) (by omega) (by generalize aX A 12 sh = z at *; clear hw; grind)
    refine ⟨L / 100, by omega, ?_⟩
    rw [eL, show (100 : Int32) = Int32.ofNat 100 from rfl, ofN_div (by omega) (by omega)]
  obtain ⟨q, hq, eq⟩ := hl
  have hv : ∃ v, v < 20 ∧ minF (aX A 12 sh) (alongF (aX A 3 c) no) = Int32.ofNat v := by
    unfold minF
    rw [eq]
    generalize alongF (aX A 3 c) no = z at *
    have := i32_of q (by omega)
    clear hw eq w1 w2 w3 w4
    split
    · obtain ⟨v, h1, h2⟩ := i32_nat (x := 6 + Int32.ofNat q - z) (n := 20) (by grind) (by omega) (by grind)
      exact ⟨v, h1, h2⟩
    · exact ⟨1, by omega, rfl⟩
  obtain ⟨v, hv, e⟩ := hv
  unfold mN
  rw [e, ofN_cl (by omega)]
  exact ⟨rfl, by omega⟩
/-- the gorge: from, to -/
theorem goF_T {X : Nat → Int32} : ∀ n, n < 1000 → (goF X n = -1 ∧ goT X n = -1) ∨ ∃ f t, goF X n = Int32.ofNat f ∧ goT X n = Int32.ofNat t ∧ f ≤ t ∧ t < n := by
  intro n
  induction n with
  | zero => intro _; exact Or.inl ⟨rfl, rfl⟩
  | succ n ih =>
    intro hn
    unfold goF goT
    rcases ih (by omega) with ⟨h1, h2⟩ | ⟨f, t, h1, h2, h3, h4⟩
    · rw [h1, h2]
      by_cases hx : X n = 0
      · rw [if_neg (fun q => q.2 hx), if_neg (fun q => q hx)]
        exact Or.inl ⟨rfl, rfl⟩
      · rw [if_pos ⟨rfl, hx⟩, if_pos hx]
        exact Or.inr ⟨n, n, rfl, rfl, by omega, by omega⟩
    · rw [h1, h2]
      have hne : ¬ Int32.ofNat f = -1 := by
        have := i32_of f (by omega)
        clear h1 h2 ih
        grind
      rw [if_neg (fun q => hne q.1)]
      by_cases hx : X n = 0
      · rw [if_neg (fun q => q hx)]
        exact Or.inr ⟨f, t, rfl, rfl, h3, by omega⟩
      · rw [if_pos hx]
        exact Or.inr ⟨f, n, rfl, rfl, by omega, by omega⟩
def gF (A : Ab) : Int32 := goF (aX A 4) (aN A 1)
def gT (A : Ab) : Int32 := goT (aX A 4) (aN A 1)
def bRd (A : Ab) (no : Int32) (c : Nat) : Bool := if no = 0 then decide (gT A < Int32.ofNat c) else decide (Int32.ofNat c < gF A)
def bTh (A : Ab) (c : Nat) : Bool := decide (gF A ≤ Int32.ofNat c ∧ Int32.ofNat c ≤ gT A)
def rdA (A : Ab) (f : Nat) : Nat := if gF A = -1 then 0 else sumB (mN A (shO A f) (aX A 22 f)) (bRd A (aX A 22 f)) (aN A 1)
def thA (A : Ab) (f : Nat) : Nat := if gF A = -1 then 0 else sumB (mN A (shO A f) (aX A 22 f)) (bTh A) (aN A 1)
def dayP (A : Ab) (s : Nat) (k d : Int32) (i : Nat) : Bool := decide (rsnA A s k i = 0 ∧ aX A 20 i = d)
def dayL (A : Ab) (s : Nat) (k d : Int32) : Nat → List Nat
  | 0 => []
  | i + 1 => if (dayL A s k d i).length < 8 ∧ dayP A s k d i = true then dayL A s k d i ++ [i] else dayL A s k d i
def dayN8 (A : Ab) (s : Nat) (k d : Int32) : List Nat := dayL A s k d (aN A 4)
def PPd (A : Ab) (s : Nat) (k d : Int32) : PP := ((dayN8 A s k d).length, fun p => rdA A ((dayN8 A s k d).getD p 0), fun p => thA A ((dayN8 A s k d).getD p 0), fun p => aX A 22 ((dayN8 A s k d).getD p 0), (aX A 40 1).toNatClampNeg)
theorem dayL_len {A : Ab} {s : Nat} {k d : Int32} : ∀ n, (dayL A s k d n).length ≤ 8 := by
  intro n
  induction n with
  | zero => simp [dayL]
  | succ n ih =>
    unfold dayL
    split
    · simp; omega
    · exact ih
theorem dayL_mem {A : Ab} {s : Nat} {k d : Int32} : ∀ n y, y ∈ dayL A s k d n → y < n ∧ dayP A s k d y = true := by
  intro n
  induction n with
  | zero => intro y h; cases h
  | succ n ih =>
    intro y h
    unfold dayL at h
    split at h
    · rename_i hc
      rcases List.mem_append.mp h with h | h
      · have := ih y h; exact ⟨by omega, this.2⟩
      · have h : y = n := by simpa using h
        subst h; exact ⟨by omega, hc.2⟩
    · have := ih y h; exact ⟨by omega, this.2⟩
theorem dayL_full {A : Ab} {s : Nat} {k d : Int32} {i : Nat} (h : 8 ≤ (dayL A s k d i).length) : ∀ n, dayL A s k d (i + n) = dayL A s k d i := by
  intro n
  induction n with
  | zero => rfl
  | succ n ih =>
    rw [show i + (n + 1) = (i + n) + 1 by omega]
    show (if (dayL A s k d (i + n)).length < 8 ∧ _ then _ else dayL A s k d (i + n)) = _
    rw [ih, if_neg (fun q => by omega)]
theorem dayP_ps {A : Ab} (hw : WF0 A) {s i : Nat} {k d : Int32} (h : dayP A s k d i = true) : isPs A i = true := by
  have h := (of_decide_eq_true h).1
  by_cases hp : isPs A i = true
  · exact hp
  · have := (led_out hw (s := s) (y := i) (k := k) (fun q => hp q.2.2)).1
    unfold rsnA at h
    rw [this] at h
    exact absurd h (by decide)
theorem rdA_bd {A : Ab} (hw : WF0 A) {f : Nat} (hf : f < aN A 4) (hp : isPs A f = true) : rdA A f ≤ 380 ∧ thA A f ≤ 380 := by
  have hn1 : aN A 1 ≤ 20 := hw.1.2.1
  obtain ⟨hs, _⟩ := shO_lt hw hf hp
  unfold rdA thA
  have h1 := sumB_bd (m := mN A (shO A f) (aX A 22 f)) (b := bRd A (aX A 22 f)) (aN A 1) (fun c hc => (mN_eq hw hs hc).2)
  have h2 := sumB_bd (m := mN A (shO A f) (aX A 22 f)) (b := bTh A) (aN A 1) (fun c hc => (mN_eq hw hs hc).2)
  constructor
  · split <;> omega
  · split <;> omega
theorem getD_mem {l : List Nat} {p : Nat} (h : p < l.length) : l.getD p 0 ∈ l := by
  rw [List.getD_eq_getElem?_getD, List.getElem?_eq_getElem h]
  exact List.getElem_mem h
theorem PB_d {A : Ab} (hw : WF0 A) {s : Nat} {k d : Int32} : PB (PPd A s k d) := by
  obtain ⟨_, _, g1, g2, _, _⟩ := hw.2.1
  refine ⟨dayL_len _, ?_, fun p hp => ?_⟩
  · show (aX A 40 1).toNatClampNeg ≤ 60
    obtain ⟨q, h1, h2⟩ := i32_nat (x := aX A 40 1) (n := 61) (by generalize aX A 40 1 = z at *; clear hw; grind) (by omega) (by generalize aX A 40 1 = z at *; clear hw; grind)
    rw [h2, ofN_cl (by omega)]
    omega
  · have hm := dayL_mem _ _ (getD_mem (show p < (dayL A s k d (aN A 4)).length from hp))
    have := rdA_bd hw hm.1 (dayP_ps hw hm.2)
    exact ⟨by show rdA A _ ≤ 400; unfold dayN8; omega, by show thA A _ ≤ 400; unfold dayN8; omega⟩
section TKD
variable {N : Nat} {S : ms_S} {A : Ab}
theorem f82L {a sh lo e : Nat} {x2 no : Int32} (hw : WF0 A) (hst : cStrAt S A a) (hs : sh < aN A 3) (hlen : ms_I S (111 + sh) 2 = aX A 12 sh) (he : e ≤ aN A 1) : ∀ k i n, k + i = e → lo ≤ i → k < n → f82_L10 N a (111 + sh) (fun _ _ _ x5 _ => mret x5) n x2 (Int32.ofNat e - 1) no (Int32.ofNat (sumB (mN A sh no) (fun c => decide (lo ≤ c ∧ c < e)) i)) (Int32.ofNat i) S = some (Int32.ofNat (sumB (mN A sh no) (fun c => decide (lo ≤ c ∧ c < e)) (aN A 1)), S) := by
  have hn1 : aN A 1 ≤ 20 := hw.1.2.1
  have hgt : ∀ i, i < 100 → (Int32.ofNat i > Int32.ofNat e - 1 ↔ e ≤ i) := by
    intro i hi
    have := i32_of i (by omega)
    have := i32_of e (by omega)
    clear hw hst hlen hs
    constructor
    · intro h; grind
    · intro h; grind
  intro k
  induction k with
  | zero =>
    intro i n hi hlo hn
    obtain ⟨n, rfl⟩ : ∃ q, n = q + 1 := ⟨n - 1, by omega⟩
    have e1 : i = e := by omega
    subst e1
    rw [f82_L10]
    simp only [mE]
    rw [if_pos ((hgt i (by omega)).2 (Nat.le_refl _))]
    have := sumB_stay (m := mN A sh no) (b := fun c => decide (lo ≤ c ∧ c < i)) (e := i) (aN A 1 - i) (fun c h1 _ => decide_eq_false (fun q => by omega))
    rw [show i + (aN A 1 - i) = aN A 1 by omega] at this
    rw [this]
  | succ k ih =>
    intro i n hi hlo hn
    obtain ⟨n, rfl⟩ : ∃ q, n = q + 1 := ⟨n - 1, by omega⟩
    have nx := ih (i + 1) n (by omega) (by omega) (by omega)
    have hin : i < aN A 1 := by omega
    rw [show sumB (mN A sh no) (fun c => decide (lo ≤ c ∧ c < e)) (i + 1) = sumB (mN A sh no) (fun c => decide (lo ≤ c ∧ c < e)) i + (if decide (lo ≤ i ∧ i < e) = true then mN A sh no i else 0) from rfl, if_pos (decide_eq_true ⟨hlo, by omega⟩)] at nx
    rw [f82_L10]
    simp only [mE]
    rw [if_neg (fun q => by have := (hgt i (by omega)).1 q; omega)]
    simp only [hst.1]
    rw [if_neg (fun q => by have := (ofN_le (i := aN A 1) (j := i) (by omega) (by omega)).1 q; omega)]
    have m79 : ∀ {β : Type} {f' : Int32 → mM β}, mb (f79 N a (111 + sh) (Int32.ofNat i) no) f' S = f' (Int32.ofNat (mN A sh no i)) S := by
      intro β f'
      have e3 : ms_A S (a + 3) i = aX A 3 i := (hst.2.2.2.1 i hin).2.2.1
      simp only [mb, q79 (N := N) (S := S) (a := a) (a0 := 111 + sh) (i := i) (n := no) (by omega), e3, hlen, (mN_eq hw (no := no) hs hin).1]
    rw [m79, ofN_add, ofN_s]
    exact nx
theorem f82q {a sh lo e : Nat} {no : Int32} (hN : 100 ≤ N) (hw : WF0 A) (hst : cStrAt S A a) (hs : sh < aN A 3) (hlen : ms_I S (111 + sh) 2 = aX A 12 sh) (he : e ≤ aN A 1) (hle : lo ≤ e) : f82 N a (111 + sh) (Int32.ofNat lo) (Int32.ofNat e - 1) no S = some (Int32.ofNat (sumB (mN A sh no) (fun c => decide (lo ≤ c ∧ c < e)) (aN A 1)), S) := by
  have hn1 : aN A 1 ≤ 20 := hw.1.2.1
  unfold f82
  simp only [mE]
  have e0 : (if (0 : Int32) < Int32.ofNat lo then Int32.ofNat lo else 0) = Int32.ofNat lo := by
    by_cases h : lo = 0
    · subst h; rfl
    · rw [if_pos (by have := (ofN_lt (i := 0) (j := lo) (by omega) (by omega)).2 (by omega); exact this)]
  rw [e0]
  have := f82L (N := N) (S := S) (A := A) (a := a) (sh := sh) (lo := lo) (e := e) (x2 := Int32.ofNat lo) (no := no) hw hst hs hlen he (e - lo) lo N (by omega) (Nat.le_refl _) (by omega)
  rw [sumB_zero lo (fun c hc => decide_eq_false (fun q => by omega))] at this
  exact this
theorem q80 {a f : Nat} (hN : 100 ≤ N) (hw : WF0 A) (hst : cStrAt S A a) (h9 : ms_I S a 9 = gF A) (h10 : ms_I S a 10 = gT A) (hf : f < aN A 4) (hp : isPs A f = true) (hlen : ms_I S (111 + shO A f) 2 = aX A 12 (shO A f)) (hg : gF A ≠ -1) : f80 N a (111 + shO A f) (aX A 22 f) S = some (Int32.ofNat (rdA A f), S) ∧ f81 N a (111 + shO A f) (aX A 22 f) S = some (Int32.ofNat (thA A f), S) := by
  have hn1 : aN A 1 ≤ 20 := hw.1.2.1
  obtain ⟨hs, _⟩ := shO_lt hw hf hp
  have wn := (hw.2.2.2.2.2.2.1 f hf).2.2.1
  obtain ⟨fr0, to0, e1, e2, h1, h2⟩ : ∃ f t, gF A = Int32.ofNat f ∧ gT A = Int32.ofNat t ∧ f ≤ t ∧ t < aN A 1 := by
    rcases goF_T (X := aX A 4) (aN A 1) (by omega) with h | h
    · exact absurd h.1 hg
    · exact h
  constructor
  · unfold f80 rdA
    simp only [mE, h9, h10, hst.1, if_neg hg]
    rcases wn with wn | wn
    · rw [wn, if_pos rfl, e2, ofN_s]
      have q := f82q (N := N) (S := S) (A := A) (a := a) (sh := shO A f) (lo := to0 + 1) (e := aN A 1) (no := 0) hN hw hst hs hlen (Nat.le_refl _) (by omega)
      have m82 : ∀ {β : Type} {f' : Int32 → mM β}, mb (f82 N a (111 + shO A f) (Int32.ofNat (to0 + 1)) (Int32.ofNat (aN A 1) - 1) 0) f' S = f' (Int32.ofNat (sumB (mN A (shO A f) 0) (fun c => decide (to0 + 1 ≤ c ∧ c < aN A 1)) (aN A 1))) S := by intro β f'; simp only [mb, q]
      rw [m82]
      show some _ = some _
      congr 3
      refine sumB_congr _ (fun c hc => ?_)
      unfold bRd
      rw [if_pos rfl, e2]
      by_cases hh : to0 < c
      · rw [decide_eq_true ⟨by omega, hc⟩, decide_eq_true ((ofN_lt (by omega) (by omega)).2 hh)]
      · rw [decide_eq_false (fun q => by omega), decide_eq_false (fun q => hh ((ofN_lt (by omega) (by omega)).1 q))]
    · rw [wn, if_neg (by decide), e1]
      have q := f82q (N := N) (S := S) (A := A) (a := a) (sh := shO A f) (lo := 0) (e := fr0) (no := 1) hN hw hst hs hlen (by omega) (by omega)
      have m82 : ∀ {β : Type} {f' : Int32 → mM β}, mb (f82 N a (111 + shO A f) 0 (Int32.ofNat fr0 - 1) 1) f' S = f' (Int32.ofNat (sumB (mN A (shO A f) 1) (fun c => decide (0 ≤ c ∧ c < fr0)) (aN A 1))) S := by
        intro β f'
        have q : f82 N a (111 + shO A f) 0 (Int32.ofNat fr0 - 1) 1 S = _ := q
        simp only [mb, q]
      rw [m82]
      show some _ = some _
      congr 3
      refine sumB_congr _ (fun c hc => ?_)
      unfold bRd
      rw [if_neg (by decide), e1]
      by_cases hh : c < fr0
      · rw [decide_eq_true ⟨by omega, hh⟩, decide_eq_true ((ofN_lt (by omega) (by omega)).2 hh)]
      · rw [decide_eq_false (fun q => by omega), decide_eq_false (fun q => hh ((ofN_lt (by omega) (by omega)).1 q))]
  · unfold f81 thA
    simp only [mE, h9, h10, if_neg hg]
    rw [e1, e2]
    have q := f82q (N := N) (S := S) (A := A) (a := a) (sh := shO A f) (lo := fr0) (e := to0 + 1) (no := aX A 22 f) hN hw hst hs hlen (by omega) (by omega)
    rw [show Int32.ofNat (to0 + 1) - 1 = Int32.ofNat to0 by rw [← ofN_s]; generalize Int32.ofNat to0 = z; clear q hw hst; grind] at q
    have m82 : ∀ {β : Type} {f' : Int32 → mM β}, mb (f82 N a (111 + shO A f) (Int32.ofNat fr0) (Int32.ofNat to0) (aX A 22 f)) f' S = f' (Int32.ofNat (sumB (mN A (shO A f) (aX A 22 f)) (fun c => decide (fr0 ≤ c ∧ c < to0 + 1)) (aN A 1))) S := by intro β f'; simp only [mb, q]
    rw [m82]
    show some _ = some _
    congr 3
    refine sumB_congr _ (fun c hc => ?_)
    unfold bTh
    rw [e1, e2]
    by_cases hh : fr0 ≤ c ∧ c ≤ to0
    · rw [decide_eq_true ⟨hh.1, by omega⟩, decide_eq_true ⟨(ofN_le (by omega) (by omega)).2 hh.1, (ofN_le (by omega) (by omega)).2 hh.2⟩]
    · rw [decide_eq_false (fun q => hh ⟨q.1, by omega⟩), decide_eq_false (fun q => hh ⟨(ofN_le (by omega) (by omega)).1 q.1, (ofN_le (by omega) (by omega)).1 q.2⟩)]
end TKD
