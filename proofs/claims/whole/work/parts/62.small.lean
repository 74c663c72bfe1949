/-! small methods: what they answer (the state stays) -/
theorem mif {β : Type} {c : Prop} {d : Decidable c} {x y : mM β} {S : ms_S} : (@ite _ c d x y) S = @ite _ c d (x S) (y S) := by
  split <;> rfl
def b2i (c : Prop) (d : Decidable c) : Int32 := @ite _ c d 1 0
theorem q141 {N : Nat} {S : ms_S} {x lo hi : Int32} : f141 N x lo hi S = some (if lo ≤ x ∧ x ≤ hi then 1 else 0, S) := by
  unfold f141
  simp only [mlet, mb, mret, mretZ, gI, lA, lL, mdiv, mif]
  grind
theorem q142 {N : Nat} {S : ms_S} {x : Int32} : f142 N x S = some (if 0 ≤ x ∧ x < 1000 then 1 else 0, S) := by
  unfold f142
  simp only [mlet, mb, mret, mretZ, gI, lA, lL, mdiv, mif]
  grind
theorem q143 {N : Nat} {S : ms_S} {x : Int32} : f143 N x S = some (if 0 ≤ x ∧ x < 4 then 1 else 0, S) := by
  unfold f143
  simp only [mlet, mb, mret, mretZ, gI, lA, lL, mdiv, mif]
  grind
theorem q144 {N : Nat} {S : ms_S} {x : Int32} : f144 N x S = some (if 0 ≤ x ∧ x < ms_I S 4 9 then 1 else 0, S) := by
  unfold f144
  simp only [mlet, mb, mret, mretZ, gI, lA, lL, mdiv, mif]
  grind
theorem q19 {N : Nat} {S : ms_S} {x : Int32} {a : Nat} : f19 N a x S = some (if 0 ≤ x ∧ x < ms_I S a 6 then 1 else 0, S) := by
  unfold f19
  simp only [mlet, mb, mret, mretZ, gI, lA, lL, mdiv, mif]
  grind
theorem q195 {N : Nat} {S : ms_S} {x lo hi : Int32} : f195 N x lo hi S = some (if lo ≤ x ∧ x ≤ hi then 1 else 0, S) := by
  unfold f195
  simp only [mlet, mb, mret, mretZ, gI, lA, lL, mdiv, mif]
  grind
theorem q211 {N : Nat} {S : ms_S} {x : Int32} : f211 N x S = some (if 0 ≤ x ∧ x < 1000 then 1 else 0, S) := by
  unfold f211
  simp only [mlet, mb, mret, mretZ, gI, lA, lL, mdiv, mif, q195]
  grind
theorem q176 {N : Nat} {S : ms_S} {x : Int32} : f176 N x S = some (if 0 ≤ x ∧ x < 4 then 1 else 0, S) := by
  unfold f176
  simp only [mlet, mb, mret, mretZ, gI, lA, lL, mdiv, mif]
  grind
theorem q197 {N : Nat} {S : ms_S} {x : Int32} : f197 N x S = some (if 0 ≤ x ∧ x ≤ ms_I S 131 50 - 1 then 1 else 0, S) := by
  unfold f197
  simp only [mlet, mb, mret, mretZ, gI, lA, lL, mdiv, mif, q195]
  grind
theorem q22 {N : Nat} {S : ms_S} {k : Int32} {a i : Nat} (hi : i < dn a) (hb : i < 200) : f22 N a (Int32.ofNat i) k S = some (if ms_A S (a + 5) i ≤ k ∧ (ms_A S (a + 6) i = -1 ∨ k < ms_A S (a + 6) i) then 1 else 0, S) := by
  have h1 : mv_in (Int32.ofNat i) (dn a) := (ofN_in (by omega)).2 hi
  have h2 := ofN_cl (i := i) (by omega)
  unfold f22
  simp only [mlet, mb, mret, mretZ, gI, lA, lL, mdiv, mif, if_pos h1, h2]
  grind
theorem q217 {N : Nat} {S : ms_S} {k : Int32} {i : Nat} (hi : i < 200) : f217 N (Int32.ofNat i) k S = some (if ms_A S 170 i ≤ k ∧ (ms_A S 171 i < 0 ∨ k < ms_A S 171 i) then 1 else 0, S) := by
  have h1 : mv_in (Int32.ofNat i) 200 := (ofN_in (by omega)).2 hi
  have h2 := ofN_cl (i := i) (by omega)
  unfold f217
  simp only [mlet, mb, mret, mretZ, gI, lA, lL, mdiv, mif, if_pos h1, h2]
  grind
theorem q243 {N : Nat} {S : ms_S} {k : Int32} {i : Nat} (hi : i < 60) : f243 N (Int32.ofNat i) k S = some (if ms_A S 193 i ≤ k ∧ (ms_A S 194 i < 0 ∨ k < ms_A S 194 i) then 1 else 0, S) := by
  have h1 : mv_in (Int32.ofNat i) 60 := (ofN_in (by omega)).2 hi
  have h2 := ofN_cl (i := i) (by omega)
  unfold f243
  simp only [mlet, mb, mret, mretZ, gI, lA, lL, mdiv, mif, if_pos h1, h2]
  grind
theorem q70 {N : Nat} {S : ms_S} {a : Nat} : f70 N a S = some (if ms_I S a 7 ≠ 0 ∧ ms_I S a 8 = 0 then 1 else 0, S) := by
  unfold f70
  simp only [mlet, mb, mret, mretZ, gI, lA, lL, mdiv, mif]
  grind
theorem q76 {N : Nat} {S : ms_S} {a i : Nat} {n : Int32} (hi : i < 20) : f76 N a (Int32.ofNat i) n S = some (if n = 0 then - ms_A S (a + 3) i else ms_A S (a + 3) i, S) := by
  have h1 : mv_in (Int32.ofNat i) 20 := (ofN_in (by omega)).2 hi
  have h2 := ofN_cl (i := i) (by omega)
  unfold f76
  simp only [mlet, mb, mret, mretZ, gI, lA, lL, mdiv, mif, if_pos h1, h2]
  grind
/-- does a ship hit: draft, length; depth, bend, the current along its way -/
def hitF (dr le de be cu : Int32) : Bool := decide (dr > de - 1) || decide (le * be + 50 * (if 0 < cu then cu else 0) > 1500)
def minF (le cu : Int32) : Int32 := if 1 < 6 + le / 100 - cu then 6 + le / 100 - cu else 1
def alongF (cu n : Int32) : Int32 := if n = 0 then -cu else cu
theorem q78 {N : Nat} {S : ms_S} {a a0 i : Nat} {n : Int32} (hi : i < 20) : f78 N a a0 (Int32.ofNat i) n S = some (if hitF (ms_I S a0 3) (ms_I S a0 2) (ms_A S (a + 1) i) (ms_A S (a + 2) i) (alongF (ms_A S (a + 3) i) n) then 1 else 0, S) := by
  have h1 : mv_in (Int32.ofNat i) 20 := (ofN_in (by omega)).2 hi
  have h2 := ofN_cl (i := i) (by omega)
  unfold f78
  simp only [mlet, mb, mret, mretZ, gI, lA, lL, mdiv, mif, q76 hi, if_pos h1, h2]
  grind [hitF, alongF]
theorem q79 {N : Nat} {S : ms_S} {a a0 i : Nat} {n : Int32} (hi : i < 20) : f79 N a a0 (Int32.ofNat i) n S = some (minF (ms_I S a0 2) (alongF (ms_A S (a + 3) i) n), S) := by
  have h1 : mv_in (Int32.ofNat i) 20 := (ofN_in (by omega)).2 hi
  have h2 := ofN_cl (i := i) (by omega)
  have h3 : ¬ (100 : Int32) = 0 := by decide
  unfold f79
  simp only [mlet, mb, mret, mretZ, gI, lA, lL, mdiv, mif, q76 hi, if_pos h1, h2, if_neg h3]
  rfl
theorem q170 {N : Nat} {S : ms_S} {b : Nat} (hb : b < 2) (hB : ms_I S 131 20 = Int32.ofNat b) : f170 N S = some (ms_A S 135 b, S) := by
  have h1 : mv_in (Int32.ofNat b) 2 := (ofN_in (by omega)).2 hb
  have h2 := ofN_cl (i := b) (by omega)
  unfold f170
  simp only [mlet, mb, mret, mretZ, gI, lA, lL, mdiv, mif, hB, if_pos h1, h2]
  done
theorem q171 {N : Nat} {S : ms_S} {b : Nat} (hb : b < 2) (hB : ms_I S 131 20 = Int32.ofNat b) {i : Nat} (hi : i < 20) : f171 N (Int32.ofNat i) S = some (ms_A S 139 (20 * b + i), S) := by
  have h3 : 20 * Int32.ofNat b + Int32.ofNat i = Int32.ofNat (20 * b + i) := by grind [i32_of]
  have h1 : mv_in (Int32.ofNat (20 * b + i)) 40 := (ofN_in (by omega)).2 (by omega)
  have h2 := ofN_cl (i := 20 * b + i) (by omega)
  unfold f171
  simp only [mlet, mb, mret, mretZ, gI, lA, lL, mdiv, mif, hB, h3, if_pos h1, h2]
  done
theorem q172 {N : Nat} {S : ms_S} {b : Nat} (hb : b < 2) (hB : ms_I S 131 20 = Int32.ofNat b) {x : Int32} : f172 N x S = some (if 0 ≤ x ∧ x < ms_A S 135 b then 1 else 0, S) := by
  unfold f172
  simp only [mlet, mb, mret, mretZ, gI, lA, lL, mdiv, mif, q170 hb hB]
  grind
theorem q198 {N : Nat} {S : ms_S} {b : Nat} (hb : b < 2) (hB : ms_I S 131 20 = Int32.ofNat b) {i : Nat} {n : Int32} (hi : i < 20) : f198 N (Int32.ofNat i) n S = some (alongF (ms_A S 139 (20 * b + i)) n, S) := by
  unfold f198
  simp only [mlet, mb, mret, mretZ, gI, lA, lL, mdiv, mif, q171 hb hB hi]
  grind [alongF]
theorem q199 {N : Nat} {S : ms_S} {b : Nat} (hb : b < 2) (hB : ms_I S 131 20 = Int32.ofNat b) {i s : Nat} {n : Int32} (hi : i < 20) (hs : s < 20) : f199 N (Int32.ofNat s) (Int32.ofNat i) n S = some (if hitF (ms_A S 161 s) (ms_A S 160 s) (ms_A S 137 (20 * b + i)) (ms_A S 138 (20 * b + i)) (alongF (ms_A S 139 (20 * b + i)) n) then 0 else 1, S) := by
  have h3 : 20 * Int32.ofNat b + Int32.ofNat i = Int32.ofNat (20 * b + i) := by grind [i32_of]
  have h1 : mv_in (Int32.ofNat (20 * b + i)) 40 := (ofN_in (by omega)).2 (by omega)
  have h2 := ofN_cl (i := 20 * b + i) (by omega)
  have h4 : mv_in (Int32.ofNat s) 20 := (ofN_in (by omega)).2 hs
  have h5 := ofN_cl (i := s) (by omega)
  unfold f199
  simp only [mlet, mb, mret, mretZ, gI, lA, lL, mdiv, mif, hB, h3, if_pos h1, h2, q198 hb hB hi, if_pos h4, h5]
  generalize alongF (ms_A S 139 (20 * b + i)) n = cu at *
  generalize ms_A S 161 s = dr at *
  generalize ms_A S 160 s = le at *
  generalize ms_A S 137 (20 * b + i) = de at *
  generalize ms_A S 138 (20 * b + i) = be at *
  simp only [hitF, Bool.or_eq_true, decide_eq_true_eq]
  by_cases c1 : cu ≤ 0
  · have c2 : ¬ 0 < cu := by grind
    simp only [if_pos c1, if_neg c2]
    by_cases c3 : dr > de - 1
    · simp [c3]
    · by_cases c4 : le * be + 50 * 0 > 1500
      · rw [if_neg c3, if_pos c4, if_pos (Or.inr c4)]; simp
      · rw [if_neg c3, if_neg c4, if_pos (Or.inr trivial), if_neg (fun q => Or.elim q c3 c4)]
  · have c2 : 0 < cu := by grind
    simp only [if_neg c1, if_pos c2]
    by_cases c3 : dr > de - 1
    · simp [c3]
    · by_cases c4 : le * be + 50 * cu > 1500
      · rw [if_neg c3, if_pos c4, if_pos (Or.inr c4)]; simp
      · rw [if_neg c3, if_neg c4, if_pos (Or.inr trivial), if_neg (fun q => Or.elim q c3 c4)]
theorem q202 {N : Nat} {S : ms_S} {b : Nat} (hb : b < 2) (hB : ms_I S 131 20 = Int32.ofNat b) {i s : Nat} {n : Int32} (hi : i < 20) (hs : s < 20) : f202 N (Int32.ofNat s) (Int32.ofNat i) n S = some (minF (ms_A S 160 s) (alongF (ms_A S 139 (20 * b + i)) n), S) := by
  have h4 : mv_in (Int32.ofNat s) 20 := (ofN_in (by omega)).2 hs
  have h5 := ofN_cl (i := s) (by omega)
  have h6 : ¬ (100 : Int32) = 0 := by decide
  unfold f202
  simp only [mlet, mb, mret, mretZ, gI, lA, lL, mdiv, mif, q198 hb hB hi, if_pos h4, h5, if_neg h6]
  grind [minF]
