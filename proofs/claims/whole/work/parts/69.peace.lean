/-! peace, sight of the reference, feed and end -/
/-- does an entry count at k -/
def cntA (A : Ab) (r i : Nat) (k : Int32) : Bool := decide (aX A (r + 4) i ≤ k ∧ (aX A (r + 5) i = -1 ∨ k < aX A (r + 5) i))
def leB (A : Ab) (n : Nat) (b : Option Nat) : Bool := match b with
  | none => true
  | some j => decide (aX A 20 j ≤ aX A 20 n)
/-- the case that holds on a day: of the first n facts -/
def bestF (A : Ab) (d k : Int32) : Nat → Option Nat
  | 0 => none
  | n + 1 => if ((aX A 21 n = -1 ∧ cntA A 20 n k = true) ∧ aX A 20 n ≤ d) ∧ leB A n (bestF A d k n) = true then some n else bestF A d k n
def caseF (A : Ab) (d k : Int32) : Int32 := match bestF A d k (aN A 4) with
  | none => 0
  | some b => aX A 23 b
def ansPeace (A : Ab) (d k : Int32) : Int32 := if 0 ≤ d ∧ d < 1000 then caseF A d k else -1
def wh (A : Ab) (b : Option Nat) : Int32 := match b with
  | none => 0
  | some j => aX A 23 j
def sinc (A : Ab) (b : Option Nat) : Int32 := match b with
  | none => -1
  | some j => aX A 20 j
def bix (b : Option Nat) : Int32 := match b with
  | none => -1
  | some j => Int32.ofNat j
theorem bestF_lt {A : Ab} {d k : Int32} : ∀ n b, bestF A d k n = some b → b < n ∧ aX A 21 b = -1 := by
  intro n
  induction n with
  | zero => intro b h; cases h
  | succ n ih =>
    intro b h
    unfold bestF at h
    split at h
    · rename_i hc; cases h; exact ⟨by omega, hc.1.1.1⟩
    · have := ih b h; exact ⟨by omega, this.2⟩
section PEA
variable {N : Nat} {S : ms_S} {A : Ab}
theorem peaceL_C {d k : Int32} (hn : aN A 4 ≤ 200) (hd : cDi S A 40 4 20) (h0 : ∀ i, i < aN A 4 → 0 ≤ aX A 20 i) : ∀ m i n, m + i = aN A 4 → m < n → f125_L17 N (fun _ _ x3 _ _ => mret x3) n d k (wh A (bestF A d k i)) (sinc A (bestF A d k i)) (Int32.ofNat i) S = some (caseF A d k, S) := by
  intro m
  induction m with
  | zero =>
    intro i n hi hmn
    obtain ⟨n, rfl⟩ : ∃ q, n = q + 1 := ⟨n - 1, by omega⟩
    have hge : Int32.ofNat i ≥ Int32.ofNat (aN A 4) := (ofN_le (by omega) (by omega)).2 (by omega)
    rw [f125_L17]
    simp only [mb, gI, hd.1, mif, if_pos hge, mret]
    have e : i = aN A 4 := by omega
    rw [e]; rfl
  | succ m ih =>
    intro i n hi hmn
    obtain ⟨n, rfl⟩ : ∃ q, n = q + 1 := ⟨n - 1, by omega⟩
    have hge : ¬ Int32.ofNat i ≥ Int32.ofNat (aN A 4) := fun q => by have := (ofN_le (i := aN A 4) (j := i) (by omega) (by omega)).1 q; omega
    have h1 : mv_in (Int32.ofNat i) 200 := (ofN_in (by omega)).2 (by omega)
    have h2 := ofN_cl (i := i) (by omega)
    obtain ⟨g1, g2, g3, g4, g5, g6⟩ := hd.2 i (by omega)
    have q := q22 (N := N) (S := S) (a := 40) (i := i) (k := k) (show i < dn 40 by show i < 200; omega) (by omega)
    have hr := ih (i + 1) n (by omega) (by omega)
    rw [bestF] at hr
    rw [f125_L17]
    simp only [mb, gI, hd.1, mif, if_neg hge, mlet, lA, if_pos h1, h2, g1, g2, g4, q, g5, g6]
    by_cases c1 : aX A (20 + 1) i = -1
    · by_cases c2 : aX A (20 + 4) i ≤ k ∧ (aX A (20 + 5) i = -1 ∨ k < aX A (20 + 5) i)
      · have c2b : cntA A 20 i k = true := decide_eq_true c2
        by_cases c3 : aX A 20 i > d
        · rw [if_neg (fun q => absurd q.1.2 (Int32.not_le.mpr c3))] at hr
          simp only [c1, ne_eq, not_true_eq_false, if_false, if_pos c2, i10, if_pos c3, ofN_s]
          exact hr
        · by_cases c4 : aX A 20 i < sinc A (bestF A d k i)
          · have c5 : leB A i (bestF A d k i) = false := by
              have := h0 i (by omega)
              cases hb : bestF A d k i with
              | none => rw [hb] at c4; simp only [sinc] at c4; clear hr ih; grind
              | some b => rw [hb] at c4; simp only [sinc] at c4; simp only [leB]; exact decide_eq_false (Int32.not_le.mpr c4)
            rw [if_neg (fun q => by rw [c5] at q; exact absurd q.2 (by decide))] at hr
            simp only [c1, ne_eq, not_true_eq_false, if_false, if_pos c2, i10, if_neg c3, if_pos c4, ofN_s]
            exact hr
          · have c5 : leB A i (bestF A d k i) = true := by
              cases hb : bestF A d k i with
              | none => rfl
              | some b => rw [hb] at c4; simp only [sinc] at c4; simp only [leB]; exact decide_eq_true (Int32.not_lt.mp c4)
            rw [if_pos ⟨⟨⟨c1, c2b⟩, Int32.not_lt.mp c3⟩, c5⟩] at hr
            simp only [c1, ne_eq, not_true_eq_false, if_false, if_pos c2, i10, if_neg c3, if_neg c4, ofN_s]
            exact hr
      · have c2b : ¬ cntA A 20 i k = true := fun q => c2 (of_decide_eq_true q)
        rw [if_neg (fun q => c2b q.1.1.2)] at hr
        simp only [c1, ne_eq, not_true_eq_false, if_false, if_neg c2, if_true, ofN_s]
        exact hr
    · rw [if_neg (fun q => c1 q.1.1.1)] at hr
      simp only [c1, ne_eq, not_false_eq_true, if_true, ofN_s]
      exact hr
theorem C_peace {d k : Int32} (hN : 201 ≤ N) (h : cBase S A) (hw : WF0 A) : f125 N d k S = some (ansPeace A d k, S) := by
  have hd : cDi S A 40 4 20 := h.2.2.2.2.1
  have hn4 : aN A 4 ≤ 200 := hw.1.2.2.2.2.1
  have wf := hw.2.2.2.2.2.2.1
  unfold f125 ansPeace
  simp only [mb, q142]
  by_cases hin : 0 ≤ d ∧ d < 1000
  · simp only [if_pos hin, i10, ne_eq, not_false_eq_true, if_true]
    exact peaceL_C hn4 hd (fun i hi => (wf i hi).1) (aN A 4) 0 N (by omega) (by omega)
  · simp only [if_neg hin, ne_eq, not_true_eq_false, if_false, mret]
theorem caseL_M {d k : Int32} {K : Int32 → Int32 → Int32 → Int32 → mM Int32} (hn : aN A 4 ≤ 200) (hd : mFact S A) (hu : ∀ i, i < aN A 4 → aX A 25 i = -1 ∨ 0 ≤ aX A 25 i) (hK : ∀ i, K d k (bix (bestF A d k (aN A 4))) i S = some (caseF A d k, S)) : ∀ m i n, m + i = aN A 4 → m < n → f218_L5 N K n d k (bix (bestF A d k i)) (Int32.ofNat i) S = some (caseF A d k, S) := by
  intro m
  induction m with
  | zero =>
    intro i n hi hmn
    obtain ⟨n, rfl⟩ : ∃ q, n = q + 1 := ⟨n - 1, by omega⟩
    have hge : Int32.ofNat i ≥ Int32.ofNat (aN A 4) := (ofN_le (by omega) (by omega)).2 (by omega)
    rw [f218_L5]
    simp only [mb, gI, hd.1, mif, if_pos hge]
    have e : i = aN A 4 := by omega
    rw [e]
    exact hK _
  | succ m ih =>
    intro i n hi hmn
    obtain ⟨n, rfl⟩ : ∃ q, n = q + 1 := ⟨n - 1, by omega⟩
    have hge : ¬ Int32.ofNat i ≥ Int32.ofNat (aN A 4) := fun q => by have := (ofN_le (i := aN A 4) (j := i) (by omega) (by omega)).1 q; omega
    have h1 : mv_in (Int32.ofNat i) 200 := (ofN_in (by omega)).2 (by omega)
    have h2 := ofN_cl (i := i) (by omega)
    obtain ⟨g1, g2, g3, g4, g5, g6, g7⟩ := hd.2 i (by omega)
    have q := q217 (N := N) (S := S) (i := i) (k := k) (by omega)
    rw [g6, g7] at q
    have hu1 := hu i (by omega)
    have hr := ih (i + 1) n (by omega) (by omega)
    rw [bestF] at hr
    rw [f218_L5]
    simp only [mb, gI, hd.1, mif, if_neg hge, mlet, lA, if_pos h1, h2, g1, g2, q]
    by_cases c1 : aX A 21 i = -1
    · have cc : (aX A 24 i ≤ k ∧ (aX A 25 i < 0 ∨ k < aX A 25 i)) ↔ (aX A 24 i ≤ k ∧ (aX A 25 i = -1 ∨ k < aX A 25 i)) := by clear hr ih q; grind
      by_cases c2 : aX A 24 i ≤ k ∧ (aX A 25 i = -1 ∨ k < aX A 25 i)
      · have c2b : cntA A 20 i k = true := decide_eq_true c2
        by_cases c3 : aX A 20 i > d
        · rw [if_neg (fun q => absurd q.1.2 (Int32.not_le.mpr c3))] at hr
          simp only [if_pos c1, ne_eq, not_true_eq_false, if_false, if_pos (cc.2 c2), i10, if_pos c3, ofN_s]
          exact hr
        · cases hb : bestF A d k i with
          | none =>
            rw [hb] at hr
            rw [if_pos ⟨⟨⟨c1, c2b⟩, Int32.not_lt.mp c3⟩, rfl⟩] at hr
            simp only [if_pos c1, ne_eq, not_true_eq_false, if_false, if_pos (cc.2 c2), i10, if_neg c3, bix, show ((-1 : Int32) < 0) = True by decide, if_true, ofN_s]
            exact hr
          | some b =>
            rw [hb] at hr
            have hbl := (bestF_lt i b hb).1
            have h3 : mv_in (Int32.ofNat b) 200 := (ofN_in (by omega)).2 (by omega)
            have h4 := ofN_cl (i := b) (by omega)
            have g1b := (hd.2 b (by omega)).1
            by_cases c4 : aX A 20 i < aX A 20 b
            · rw [if_neg (fun q => absurd (of_decide_eq_true q.2) (Int32.not_le.mpr c4))] at hr
              simp only [if_pos c1, ne_eq, not_true_eq_false, if_false, if_pos (cc.2 c2), i10, if_neg c3, bix, if_neg (ofN_nl (i := b) (by omega)), if_pos h3, h4, g1b, if_pos c4, ofN_s]
              exact hr
            · rw [if_pos ⟨⟨⟨c1, c2b⟩, Int32.not_lt.mp c3⟩, decide_eq_true (Int32.not_lt.mp c4)⟩] at hr
              simp only [if_pos c1, ne_eq, not_true_eq_false, if_false, if_pos (cc.2 c2), i10, if_neg c3, bix, if_neg (ofN_nl (i := b) (by omega)), if_pos h3, h4, g1b, if_neg c4, ofN_s]
              exact hr
      · have c2b : ¬ cntA A 20 i k = true := fun q => c2 (of_decide_eq_true q)
        rw [if_neg (fun q => c2b q.1.1.2)] at hr
        simp only [if_pos c1, ne_eq, not_true_eq_false, if_false, if_neg (fun q => c2 (cc.1 q)), if_true, ofN_s]
        exact hr
    · rw [if_neg (fun q => c1 q.1.1.1)] at hr
      simp only [if_neg c1, i10, ne_eq, not_false_eq_true, if_true, ofN_s]
      exact hr
theorem q218 {d k : Int32} (hN : 201 ≤ N) (h : mFact S A) (hw : WF0 A) : f218 N d k S = some (caseF A d k, S) := by
  have hn4 : aN A 4 ≤ 200 := hw.1.2.2.2.2.1
  have wf := hw.2.2.2.2.2.2.1
  unfold f218
  refine caseL_M hn4 h (fun i hi => (wf i hi).2.2.2.2.1) (fun i => ?_) (aN A 4) 0 N (by omega) (by omega)
  unfold caseF
  cases hb : bestF A d k (aN A 4) with
  | none =>
    have hneg : ¬ (bix none ≥ 0) := by decide
    simp only [mlet, if_neg hneg]
    rfl
  | some b =>
    obtain ⟨hbl, hs⟩ := bestF_lt _ b hb
    have h3 : mv_in (Int32.ofNat b) 200 := (ofN_in (by omega)).2 (by omega)
    have h4 := ofN_cl (i := b) (by omega)
    have g := (h.2 b hbl).2.2.1
    rw [if_pos hs] at g
    have hpos : bix (some b) ≥ 0 := ofN_nn (i := b) (by omega)
    simp only [mlet, if_pos hpos]
    show mb (lA 167 200 (Int32.ofNat b)) (fun v13 => mret v13) S = _
    simp only [mb, lA, if_pos h3, h4, mret, g]
theorem M_peace {d k : Int32} (hN : 201 ≤ N) (h : mBase S A) (hw : WF0 A) : f219 N d k S = some (ansPeace A d k, S) := by
  unfold f219 ansPeace
  simp only [mlet, mb, q211]
  by_cases hin : 0 ≤ d ∧ d < 1000
  · simp only [if_pos hin, i10, if_false, mb, q218 hN h.2.2.2.2.1 hw, mret]
  · simp only [if_neg hin, if_true, mret]
end PEA
