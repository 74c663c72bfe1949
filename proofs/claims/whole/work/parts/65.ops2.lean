/-! hits, minutes: loops over cells -/
section OPSB
variable {N : Nat} {S : ms_S} {A : Ab}
theorem hitsL_C {a s : Nat} {nn : Int32} (hn : aN A 1 ≤ 20) (h4 : ms_I S a 4 = Int32.ofNat (aN A 1)) (hc : ∀ i, i < aN A 1 → ms_A S (a + 1) i = aX A 1 i ∧ ms_A S (a + 2) i = aX A 2 i ∧ ms_A S (a + 3) i = aX A 3 i ∧ ms_A S (a + 4) i = aX A 4 i) (hd : ms_I S (111 + s) 3 = aX A 13 s) (hl : ms_I S (111 + s) 2 = aX A 12 s) : ∀ m i n, m + i = aN A 1 → m < n → f77_L2 N a (111 + s) (fun _ _ x4 => mret x4) (fun _ _ => mret (-1)) n nn (Int32.ofNat i) S = some (hitsL A s nn m i, S) := by
  intro m
  induction m with
  | zero =>
    intro i n hi hmn
    obtain ⟨n, rfl⟩ : ∃ q, n = q + 1 := ⟨n - 1, by omega⟩
    have hge : Int32.ofNat i ≥ Int32.ofNat (aN A 1) := (ofN_le (by omega) (by omega)).2 (by omega)
    rw [f77_L2]
    simp only [mb, gI, h4, if_pos hge, mret, hitsL]
  | succ m ih =>
    intro i n hi hmn
    obtain ⟨n, rfl⟩ : ∃ q, n = q + 1 := ⟨n - 1, by omega⟩
    have hge : ¬ Int32.ofNat i ≥ Int32.ofNat (aN A 1) := fun q => by have := (ofN_le (i := aN A 1) (j := i) (by omega) (by omega)).1 q; omega
    have hs : Int32.ofNat (aN A 1) - 1 - Int32.ofNat i = Int32.ofNat (aN A 1 - 1 - i) := by clear ih hc; grind [i32_of]
    have key : ∀ c : Nat, c < aN A 1 → mb (f78 N a (111 + s) (Int32.ofNat c) nn) (fun v3 => if v3 = 0 then f77_L2 N a (111 + s) (fun _ _ x4 => mret x4) (fun _ _ => mret (-1)) n nn (Int32.ofNat i + 1) else mret (Int32.ofNat c)) S = some (if hitsF A s nn c then Int32.ofNat c else hitsL A s nn m (i + 1), S) := by
      intro c hcc
      obtain ⟨g1, g2, g3, g4⟩ := hc c hcc
      have q := q78 (N := N) (S := S) (a := a) (a0 := 111 + s) (n := nn) (show c < 20 by omega)
      simp only [mb, q]
      have e : hitF (ms_I S (111 + s) 3) (ms_I S (111 + s) 2) (ms_A S (a + 1) c) (ms_A S (a + 2) c) (alongF (ms_A S (a + 3) c) nn) = hitsF A s nn c := by rw [hd, hl, g1, g2, g3]; rfl
      by_cases hh : hitsF A s nn c
      · rw [e]; simp only [if_pos hh]; rw [if_neg (by decide)]; rfl
      · rw [e]; simp only [if_neg hh, if_true]; rw [ofN_s]
        exact ih (i + 1) n (by omega) (by omega)
    rw [f77_L2]
    by_cases hz : nn = 0
    · simp only [mb, gI, h4, if_neg hge, mlet, if_pos hz, hs, hitsL]
      exact key _ (by omega)
    · simp only [mb, gI, h4, if_neg hge, mlet, if_neg hz, hitsL]
      exact key _ (by omega)
theorem C_hits {s nn : Int32} (hN : 100 ≤ N) (h : cBase S A) (hw : WF0 A) : f118 N s nn S = some (ansHits A s nn, S) := by
  obtain ⟨_, _, ⟨a, a2, e3, _, ho, ⟨h4, _, _, hc, _⟩, _⟩, ⟨s1, s2, s3⟩, _⟩ := h
  have oa : o_st a := by rcases ho with h | h; exact Or.inl h.1; exact Or.inr h.1
  have hn : aN A 1 ≤ 20 := hw.1.2.1
  have hn3 : aN A 3 ≤ 20 := hw.1.2.2.2.1
  unfold f118 ansHits
  simp only [mlet, mb, q144, s1]
  by_cases hin : 0 ≤ s ∧ s < Int32.ofNat (aN A 3)
  · obtain ⟨i, hi, rfl⟩ := i32_nat hin.1 (by omega) hin.2
    have h1 : mv_in (Int32.ofNat i) 20 := (ofN_in (by omega)).2 (by omega)
    have h2 := ofN_cl (i := i) (by omega)
    have hL := hitsL_C (N := N) (S := S) (a := a) (s := i) (nn := nn) hn h4 hc ((s3 i hi).1 3 (by omega)) ((s3 i hi).1 2 (by omega)) (aN A 1) 0 N (by omega) (by omega)
    simp only [if_pos hin, i10, if_false, mif, mb, gRo, e3, isSt_o oa, lQo, if_pos h1, h2, s2 i (by omega), isSh_o (show i < 20 by omega), if_true, mret]
    have e : f77 N a (111 + i) nn S = some (hitsL A i nn (aN A 1) 0, S) := hL
    simp only [e]
  · simp only [if_neg hin, if_true, mret]
theorem C_min {s c nn : Int32} (h : cBase S A) (hw : WF0 A) : f119 N s c nn S = some (ansMin A s c nn, S) := by
  obtain ⟨_, _, ⟨a, a2, e3, _, ho, ⟨h4, _, _, hc, _⟩, _⟩, ⟨s1, s2, s3⟩, _⟩ := h
  have oa : o_st a := by rcases ho with h | h; exact Or.inl h.1; exact Or.inr h.1
  have hn : aN A 1 ≤ 20 := hw.1.2.1
  have hn3 : aN A 3 ≤ 20 := hw.1.2.2.2.1
  unfold f119 ansMin
  simp only [mlet, mb, q144, s1]
  by_cases hin : 0 ≤ s ∧ s < Int32.ofNat (aN A 3)
  · by_cases hic : 0 ≤ c ∧ c < Int32.ofNat (aN A 1)
    · obtain ⟨i, hi, rfl⟩ := i32_nat hin.1 (by omega) hin.2
      obtain ⟨j, hj, rfl⟩ := i32_nat hic.1 (by omega) hic.2
      have h1 : mv_in (Int32.ofNat i) 20 := (ofN_in (by omega)).2 (by omega)
      have h2 := ofN_cl (i := i) (by omega)
      have h5 := ofN_cl (i := j) (by omega)
      have e := q79 (N := N) (S := S) (a := a) (a0 := 111 + i) (n := nn) (show j < 20 by omega)
      rw [(hc j hj).2.2.1, (s3 i hi).1 2 (by omega)] at e
      simp only [if_pos hin, i10, if_false, mif, mb, q145 e3 oa, h4, if_pos hic, if_pos (And.intro hin hic), gRo, e3, isSt_o oa, lQo, if_pos h1, h2, h5, s2 i (by omega), isSh_o (show i < 20 by omega), if_true, mret, e]
    · have hno : ¬ ((0 ≤ s ∧ s < Int32.ofNat (aN A 3)) ∧ (0 ≤ c ∧ c < Int32.ofNat (aN A 1))) := fun q => hic q.2
      simp only [if_neg hno, if_pos hin, i10, if_false, mif, mb, q145 e3 oa, h4, if_neg hic, if_true, mret]
  · have hno : ¬ ((0 ≤ s ∧ s < Int32.ofNat (aN A 3)) ∧ (0 ≤ c ∧ c < Int32.ofNat (aN A 1))) := fun q => hin q.1
    simp only [if_neg hno, if_neg hin, if_true, mret]
theorem hitsL_M {b s : Nat} {nn : Int32} (hs : s < 20) (hb : b < 2) (hB : ms_I S 131 20 = Int32.ofNat b) (hn : aN A 1 ≤ 20) (h4 : ms_A S 135 b = Int32.ofNat (aN A 1)) (hc : ∀ i, i < aN A 1 → ms_A S 137 (20 * b + i) = aX A 1 i ∧ ms_A S 138 (20 * b + i) = aX A 2 i ∧ ms_A S 139 (20 * b + i) = aX A 3 i ∧ ms_A S 140 (20 * b + i) = aX A 4 i) (hd : ms_A S 161 s = aX A 13 s) (hl : ms_A S 160 s = aX A 12 s) : ∀ m i n, m + i = aN A 1 → m < n → f200_L2 N (fun _ _ _ x4 => mret x4) (fun _ _ _ => mret (-1)) n (Int32.ofNat s) nn (Int32.ofNat i) S = some (hitsL A s nn m i, S) := by
  intro m
  induction m with
  | zero =>
    intro i n hi hmn
    obtain ⟨n, rfl⟩ : ∃ q, n = q + 1 := ⟨n - 1, by omega⟩
    have hge : Int32.ofNat i ≥ Int32.ofNat (aN A 1) := (ofN_le (by omega) (by omega)).2 (by omega)
    rw [f200_L2]
    simp only [mb, q170 hb hB, h4, if_pos hge, mret, hitsL]
  | succ m ih =>
    intro i n hi hmn
    obtain ⟨n, rfl⟩ : ∃ q, n = q + 1 := ⟨n - 1, by omega⟩
    have hge : ¬ Int32.ofNat i ≥ Int32.ofNat (aN A 1) := fun q => by have := (ofN_le (i := aN A 1) (j := i) (by omega) (by omega)).1 q; omega
    have hs2 : Int32.ofNat (aN A 1) - 1 - Int32.ofNat i = Int32.ofNat (aN A 1 - 1 - i) := by clear ih hc; grind [i32_of]
    have key : ∀ c : Nat, c < aN A 1 → mb (f199 N (Int32.ofNat s) (Int32.ofNat c) nn) (fun v3 => if v3 ≠ 0 then f200_L2 N (fun _ _ _ x4 => mret x4) (fun _ _ _ => mret (-1)) n (Int32.ofNat s) nn (Int32.ofNat i + 1) else mret (Int32.ofNat c)) S = some (if hitsF A s nn c then Int32.ofNat c else hitsL A s nn m (i + 1), S) := by
      intro c hcc
      obtain ⟨g1, g2, g3, g4⟩ := hc c hcc
      have q := q199 (N := N) (S := S) hb hB (n := nn) (show c < 20 by omega) hs
      simp only [mb, q]
      have e : hitF (ms_A S 161 s) (ms_A S 160 s) (ms_A S 137 (20 * b + c)) (ms_A S 138 (20 * b + c)) (alongF (ms_A S 139 (20 * b + c)) nn) = hitsF A s nn c := by rw [hd, hl, g1, g2, g3]; rfl
      by_cases hh : hitsF A s nn c
      · rw [e]; simp only [if_pos hh]; rw [if_neg (by decide)]; rfl
      · rw [e]; simp only [if_neg hh]; rw [if_pos (by decide), ofN_s]
        exact ih (i + 1) n (by omega) (by omega)
    rw [f200_L2]
    by_cases hz : nn = 0
    · simp only [mb, q170 hb hB, h4, if_neg hge, mlet, if_pos hz, hs2, hitsL]
      exact key _ (by omega)
    · simp only [mb, q170 hb hB, h4, if_neg hge, mlet, if_neg hz, hitsL]
      exact key _ (by omega)
theorem M_hits {s nn : Int32} (hN : 100 ≤ N) (h : mBase S A) (hw : WF0 A) : f201 N s nn S = some (ansHits A s nn, S) := by
  obtain ⟨_, _, ⟨b, hb, hB, ⟨h4, _, _, hc, _⟩⟩, ⟨s1, s2⟩, _⟩ := h
  have hn : aN A 1 ≤ 20 := hw.1.2.1
  have hn3 : aN A 3 ≤ 20 := hw.1.2.2.2.1
  unfold f201 ansHits
  simp only [mlet, mb, q197, s1]
  have hq : (0 ≤ s ∧ s ≤ Int32.ofNat (aN A 3) - 1) ↔ (0 ≤ s ∧ s < Int32.ofNat (aN A 3)) := by have := i32_of (aN A 3) (by omega); clear hc s2 hw; grind
  by_cases hin : 0 ≤ s ∧ s < Int32.ofNat (aN A 3)
  · have hin2 := hq.2 hin
    obtain ⟨i, hi, rfl⟩ := i32_nat hin.1 (by omega) hin.2
    have h2 := ofN_cl (i := i) (by omega)
    have hL := hitsL_M (N := N) (S := S) (s := i) (nn := nn) (by omega) hb hB hn h4 hc (s2 i hi 3 (by omega)) (s2 i hi 2 (by omega)) (aN A 1) 0 N (by omega) (by omega)
    have e : f200 N (Int32.ofNat i) nn S = some (hitsL A i nn (aN A 1) 0, S) := hL
    simp only [if_pos hin, if_pos hin2, i10, if_false, mb, h2, mret, e]
  · simp only [if_neg hin, if_neg (fun q => hin (hq.1 q)), if_true, mret]
theorem M_min {s c nn : Int32} (h : mBase S A) (hw : WF0 A) : f203 N s c nn S = some (ansMin A s c nn, S) := by
  obtain ⟨_, _, ⟨b, hb, hB, ⟨h4, _, _, hc, _⟩⟩, ⟨s1, s2⟩, _⟩ := h
  have hn : aN A 1 ≤ 20 := hw.1.2.1
  have hn3 : aN A 3 ≤ 20 := hw.1.2.2.2.1
  unfold f203 ansMin
  simp only [mlet, mb, q197, s1]
  have hq : (0 ≤ s ∧ s ≤ Int32.ofNat (aN A 3) - 1) ↔ (0 ≤ s ∧ s < Int32.ofNat (aN A 3)) := by have := i32_of (aN A 3) (by omega); clear hc s2 hw; grind
  by_cases hin : 0 ≤ s ∧ s < Int32.ofNat (aN A 3)
  · have hin2 := hq.2 hin
    by_cases hic : 0 ≤ c ∧ c < Int32.ofNat (aN A 1)
    · obtain ⟨i, hi, rfl⟩ := i32_nat hin.1 (by omega) hin.2
      obtain ⟨j, hj, rfl⟩ := i32_nat hic.1 (by omega) hic.2
      have h2 := ofN_cl (i := i) (by omega)
      have h5 := ofN_cl (i := j) (by omega)
      have e := q202 (N := N) (S := S) hb hB (n := nn) (show j < 20 by omega) (show i < 20 by omega)
      rw [(hc j hj).2.2.1, s2 i hi 2 (by omega)] at e
      simp only [if_pos hin2, i10, if_false, mif, mb, q172 hb hB, h4, if_pos hic, if_pos (And.intro hin hic), h2, h5, if_true, mret, e]
    · have hno : ¬ ((0 ≤ s ∧ s < Int32.ofNat (aN A 3)) ∧ (0 ≤ c ∧ c < Int32.ofNat (aN A 1))) := fun q => hic q.2
      simp only [if_neg hno, if_pos hin2, i10, if_false, mif, mb, q172 hb hB, h4, if_neg hic, if_true, mret]
  · have hno : ¬ ((0 ≤ s ∧ s < Int32.ofNat (aN A 3)) ∧ (0 ≤ c ∧ c < Int32.ofNat (aN A 1))) := fun q => hin q.1
    simp only [if_neg hno, if_neg (fun q => hin (hq.1 q)), if_true, mret]
end OPSB
