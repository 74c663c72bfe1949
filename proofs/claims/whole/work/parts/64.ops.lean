/-! easy calls: cell, fault, about, hits, minutes -/
def ansFault (A : Ab) (w : Int32) : Int32 := if w = 0 then aX A 40 3 else if w = 1 then aX A 40 4 else -1
def ansCell (A : Ab) (c w : Int32) : Int32 := if 0 ≤ c ∧ c < Int32.ofNat (aN A 1) then (if w = 0 then aX A 1 c.toNatClampNeg else if w = 1 then aX A 2 c.toNatClampNeg else if w = 2 then aX A 3 c.toNatClampNeg + 10 else if w = 3 then (if aX A 4 c.toNatClampNeg = 0 then 0 else 1) else -1) else -1
def ansAbout (A : Ab) (w : Int32) : Int32 := if w = 0 then Int32.ofNat (aN A 1) else if w = 1 then Int32.ofNat (aN A 2) else if w = 2 then Int32.ofNat (aN A 3) else if w = 3 then Int32.ofNat (aN A 4) else if w = 4 then Int32.ofNat (aN A 5) else if w = 5 then aX A 40 0 else if w = 6 then Int32.ofNat (aN A 0) else if 0 ≤ w - 10 ∧ w - 10 < 4 then aX A (50 + (w - 10).toNatClampNeg) 0 else -1
/-- cells in the way of a ship, from place i on, m of them left -/
def hitsF (A : Ab) (s : Nat) (n : Int32) (c : Nat) : Bool := hitF (aX A 13 s) (aX A 12 s) (aX A 1 c) (aX A 2 c) (alongF (aX A 3 c) n)
def hitsL (A : Ab) (s : Nat) (n : Int32) : Nat → Nat → Int32
  | 0, _ => -1
  | m + 1, i => if hitsF A s n (if n = 0 then aN A 1 - 1 - i else i) then Int32.ofNat (if n = 0 then aN A 1 - 1 - i else i) else hitsL A s n m (i + 1)
def ansHits (A : Ab) (s n : Int32) : Int32 := if 0 ≤ s ∧ s < Int32.ofNat (aN A 3) then hitsL A s.toNatClampNeg n (aN A 1) 0 else -1
def ansMin (A : Ab) (s c n : Int32) : Int32 := if (0 ≤ s ∧ s < Int32.ofNat (aN A 3)) ∧ (0 ≤ c ∧ c < Int32.ofNat (aN A 1)) then minF (aX A 12 s.toNatClampNeg) (alongF (aX A 3 c.toNatClampNeg) n) else -1
theorem i10 : ((1 : Int32) = 0) = False ∧ ((0 : Int32) = 1) = False := ⟨eq_false (by decide), eq_false (by decide)⟩
section OPS
variable {N : Nat} {S : ms_S} {A : Ab}
theorem isSt_o {a : Nat} (h : o_st a) : isSt a = true := by rcases h with rfl | rfl <;> rfl
theorem isCv_o {a : Nat} (h : o_cv a) : isCv a = true := by rcases h with rfl | rfl | rfl | rfl | rfl <;> rfl
theorem isSh_o {i : Nat} (h : i < 20) : isSh (111 + i) = true := by unfold isSh; simp; omega
theorem q145 {a : Nat} {x : Int32} (hR : ms_R S 4 3 = some a) (ho : o_st a) : f145 N x S = some (if 0 ≤ x ∧ x < ms_I S a 4 then 1 else 0, S) := by
  unfold f145
  simp only [mlet, mb, mretZ, gI, gRo, hR, isSt_o ho, mif]
  grind
theorem C_fault {w : Int32} (h : cBase S A) : f115 N w S = some (ansFault A w, S) := by
  obtain ⟨_, ⟨_, _, _, h6, h7⟩, _⟩ := h
  unfold f115 ansFault
  simp only [mb, gI, mif, mret, h6, h7]
  grind
theorem M_fault {w : Int32} (h : mBase S A) : f169 N w S = some (ansFault A w, S) := by
  obtain ⟨_, ⟨_, _, _, h6, h7⟩, _⟩ := h
  unfold f169 ansFault
  simp only [mlet, mb, gI, mif, mret, h6, h7]
  grind
theorem C_cell {c w : Int32} (h : cBase S A) (hw : WF0 A) : f117 N c w S = some (ansCell A c w, S) := by
  obtain ⟨_, _, ⟨a, a2, e3, _, ho, ⟨h4, _, _, hc, _⟩, _⟩, _⟩ := h
  have oa : o_st a := by rcases ho with h | h; exact Or.inl h.1; exact Or.inr h.1
  have hn : aN A 1 ≤ 20 := hw.1.2.1
  unfold f117 ansCell
  simp only [mb, q145 e3 oa, h4]
  by_cases hin : 0 ≤ c ∧ c < Int32.ofNat (aN A 1)
  · obtain ⟨i, hi, rfl⟩ := i32_nat hin.1 (by omega) hin.2
    have h1 : mv_in (Int32.ofNat i) 20 := (ofN_in (by omega)).2 (by omega)
    have h2 := ofN_cl (i := i) (by omega)
    obtain ⟨g1, g2, g3, g4⟩ := hc i hi
    simp only [if_pos hin, mb, mif, mlet, gRo, e3, isSt_o oa, lA, if_pos h1, h2, mret, g1, g2, g3, g4, i10, ne_eq, not_false_eq_true, if_true, ite_not]
    repeat' (split <;> try rfl)
  · simp only [if_neg hin, mif, mret]
    grind
theorem M_cell {c w : Int32} (h : mBase S A) (hw : WF0 A) : f173 N c w S = some (ansCell A c w, S) := by
  obtain ⟨_, _, ⟨b, hb, hB, ⟨h4, _, _, hc, _⟩⟩, _⟩ := h
  have hn : aN A 1 ≤ 20 := hw.1.2.1
  unfold f173 ansCell
  simp only [mb, q172 hb hB, h4]
  by_cases hin : 0 ≤ c ∧ c < Int32.ofNat (aN A 1)
  · obtain ⟨i, hi, rfl⟩ := i32_nat hin.1 (by omega) hin.2
    have h3 : 20 * Int32.ofNat b + Int32.ofNat i = Int32.ofNat (20 * b + i) := by grind [i32_of]
    have h1 : mv_in (Int32.ofNat (20 * b + i)) 40 := (ofN_in (by omega)).2 (by omega)
    have h2 := ofN_cl (i := 20 * b + i) (by omega)
    have h5 := ofN_cl (i := i) (by omega)
    obtain ⟨g1, g2, g3, g4⟩ := hc i hi
    simp only [if_pos hin, mb, mif, mlet, gI, hB, h3, lA, if_pos h1, h2, h5, mret, g1, g2, g3, g4, i10, ne_eq, not_false_eq_true, if_true, ite_not]
    repeat' (split <;> try rfl)
  · simp only [if_neg hin, mif, mret]
    grind
theorem C_about {w : Int32} (h : cBase S A) (hw : WF0 A) : f140 N w S = some (ansAbout A w, S) := by
  obtain ⟨⟨t1, _⟩, ⟨n1, _⟩, ⟨a, a2, e3, _, ho, ⟨h4, h7, _⟩, _⟩, ⟨s1, _⟩, ⟨d1, _⟩, ⟨d2, _⟩, ⟨p, _, p2, _, p4⟩, _⟩ := h
  have oa : o_st a := by rcases ho with h | h; exact Or.inl h.1; exact Or.inr h.1
  unfold f140 ansAbout
  simp only [mb, mif, mlet, gRo, e3, isSt_o oa, gI, mret, h4, h7, t1, n1, s1, d1, d2, q143]
  by_cases hin : 0 ≤ w - 10 ∧ w - 10 < 4
  · obtain ⟨s, hs, es⟩ := i32_nat (n := 4) hin.1 (by omega) hin.2
    have h1 : mv_in (Int32.ofNat s) 4 := (ofN_in (by omega)).2 hs
    have h2 := ofN_cl (i := s) (by omega)
    obtain ⟨q1, q2, _⟩ := p4 s hs
    rw [es] at hin ⊢
    simp only [if_pos hin, lQo, if_pos h1, h2, q1, isCv_o (p2 s (by omega)), q2]
    grind
  · simp only [if_neg hin]
    grind
theorem M_about {w : Int32} (h : mBase S A) (hw : WF0 A) : f252 N w S = some (ansAbout A w, S) := by
  obtain ⟨⟨t1, _⟩, ⟨n1, _⟩, ⟨b, hb, hB, ⟨h4, h7, _⟩⟩, ⟨s1, _⟩, ⟨d1, _⟩, ⟨d2, _⟩, p4⟩ := h
  have g1 : mv_in (Int32.ofNat b) 2 := (ofN_in (by omega)).2 hb
  have g2 := ofN_cl (i := b) (by omega)
  unfold f252 ansAbout
  simp only [mb, mif, mlet, gI, mret, q170 hb hB, hB, lA, if_pos g1, g2, h4, h7, t1, n1, s1, d1, d2]
  by_cases hin : 0 ≤ w - 10 ∧ w - 10 < 4
  · obtain ⟨s, hs, es⟩ := i32_nat (n := 4) hin.1 (by omega) hin.2
    have h1 : mv_in (Int32.ofNat s) 5 := (ofN_in (by omega)).2 (by omega)
    have h2 := ofN_cl (i := s) (by omega)
    obtain ⟨q1, _⟩ := p4 s hs
    rw [es] at hin ⊢
    have e1 : ¬ w < 10 := by clear hw p4; grind
    have e2 : ¬ w ≥ 14 := by clear hw p4; grind
    simp only [if_pos hin, if_pos h1, h2, q1, if_neg e1, if_neg e2]
    split <;> try rfl
    repeat' (split <;> try rfl)
  · simp only [if_neg hin]
    have e1 : w < 10 ∨ w ≥ 14 := by clear hw p4; grind
    by_cases e3 : w < 10
    · simp only [if_pos e3]
      repeat' (split <;> try rfl)
    · simp only [if_neg e3, if_pos (e1.resolve_left e3)]
      repeat' (split <;> try rfl)
end OPS
