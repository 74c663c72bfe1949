/-! a convention's text, line by line -/
abbrev Cd : Type := List (Nat × Int32)
/-- where reading is; kinds and mays with their codes; limits, codes of the dues; what has been told once; units; lines -/
abbrev Cw : Type := Sg × (List (List Int32 × Cd) × List (Int32 × Cd)) × ((Nat → Int32) × Cd) × Nat × Nat × Nat
def wSg (w : Cw) : Sg := w.1
def wK (w : Cw) : List (List Int32 × Cd) := w.2.1.1
def wM (w : Cw) : List (Int32 × Cd) := w.2.1.2
def wL (w : Cw) : Nat → Int32 := w.2.2.1.1
def wD (w : Cw) : Cd := w.2.2.1.2
def wT (w : Cw) : Nat := w.2.2.2.1
def wU (w : Cw) : Nat := w.2.2.2.2.1
def wN (w : Cw) : Nat := w.2.2.2.2.2
def w0 : Cw := (.inr 0, ([], []), (fun i => if i < 2 then 9999 else if i = 2 then 99 else 0, []), 0, 0, 0)
/-- sum, each, stay, notice: 0 .. 3; dues: 4; others: 9 -/
def lmT (ty : Nat) : Nat := if ty = 127 then 0 else if ty = 128 then 1 else if ty = 129 then 2 else if ty = 109 then 3 else if ty = 130 then 4 else 9
section CVM
variable (X : Nat → Int32) (L : Nat) (ln : List (List Int32))
def knW (w : Cw) : List (List Int32) := (wK w).map (·.1)
def kEx (w : Cw) : Px := pE X L true (knW w) ln 100 0 0 (dm X L 122 (nwN X L (knW w) (nx (wSg w))), [], wU w)
def kLn (w : Cw) : Cw := if 6 ≤ (wK w).length then (rf X L 2 (wSg w), w.2) else (dm X L 59 (kEx X L ln w).1, (wK w ++ [(nmV X L (nx (wSg w)), (kEx X L ln w).2.1)], wM w), (wL w, wD w), wT w, (kEx X L ln w).2.2, wN w)
/-- the case of a may -/
def mC (σ : Sg) : Sg := if isT X L 125 σ = true then nx σ else if isT X L 126 σ = true then nx σ else dm X L 106 σ
def mV (σ : Sg) : Int32 := if isT X L 125 σ = true then 0 else if isT X L 126 σ = true then 1 else 2
def mEx (w : Cw) : Px := pE X L false (knW w) ln 100 0 0 (dm X L 124 (mC X L (nx (wSg w))), [], wU w)
def mLn (w : Cw) : Cw := if 8 ≤ (wM w).length then (rf X L 2 (wSg w), w.2) else (dm X L 59 (mEx X L ln w).1, (wK w, wM w ++ [(mV X L (nx (wSg w)), (mEx X L ln w).2.1)]), (wL w, wD w), wT w, (mEx X L ln w).2.2, wN w)
def lLn (k : Nat) (w : Cw) : Cw := if Nat.testBit (wT w) k = true then (rf X L 2 (wSg w), w.2) else (dm X L 59 (nb X L 0 (if k < 2 then 9999 else 99) (nx (wSg w))), w.2.1, (fun i => if i = k then nuV X L (nx (wSg w)) else wL w i, wD w), wT w ||| 2 ^ k, wU w, wN w)
def dE (w : Cw) : Px := pE X L false (knW w) ln 100 0 0 (nx (wSg w), [], wU w)
def dLn (w : Cw) : Cw := if Nat.testBit (wT w) 4 = true then (rf X L 2 (wSg w), w.2) else (dm X L 59 (dE X L ln w).1, w.2.1, (wL w, (dE X L ln w).2.1), wT w ||| 2 ^ 4, (dE X L ln w).2.2, wN w)
def ln1 (w : Cw) : Cw := if sTy X L (wSg w) = 111 then kLn X L ln w else if sTy X L (wSg w) = 123 then mLn X L ln w else if lmT (sTy X L (wSg w)) < 4 then lLn X L (lmT (sTy X L (wSg w))) w else if lmT (sTy X L (wSg w)) = 4 then dLn X L ln w else (rf X L 2 (wSg w), w.2)
def upN (w : Cw) : Cw := (wSg w, w.2.1, w.2.2.1, wT w, wU w, wN w + 1)
def cvR : Nat → Cw → Cw
  | 0, w => w
  | f + 1, w => if sTy X L (wSg w) = 0 then w else cvR f (upN (ln1 X L ln w))
end CVM
def cvQ (A : Ab) : Cw := cvR (aX A 0) (aN A 0) ((List.range' 0 (aN A 2)).map (aM A)) (tkN (aX A 0) (aN A 0)) w0
/-- how many codes -/
def ccK : List (List Int32 × Cd) → Nat
  | [] => 0
  | x :: l => x.2.length + ccK l
def ccM : List (Int32 × Cd) → Nat
  | [] => 0
  | x :: l => x.2.length + ccM l
def ccW (w : Cw) : Nat := ccK (wK w) + ccM (wM w) + (wD w).length
theorem ccK_app {x : List Int32 × Cd} : ∀ l, ccK (l ++ [x]) = ccK l + x.2.length := by
  intro l
  induction l with
  | nil => simp [ccK]
  | cons y l ih => show y.2.length + ccK (l ++ [x]) = y.2.length + ccK l + x.2.length; rw [ih]; omega
theorem ccM_app {x : Int32 × Cd} : ∀ l, ccM (l ++ [x]) = ccM l + x.2.length := by
  intro l
  induction l with
  | nil => simp [ccM]
  | cons y l ih => show y.2.length + ccM (l ++ [x]) = y.2.length + ccM l + x.2.length; rw [ih]; omega
/-- what holds of a good state between lines -/
def CwOk (X : Nat → Int32) (L : Nat) (w : Cw) : Prop := (wK w).length ≤ 6 ∧ (wM w).length ≤ 8 ∧ wT w < 32 ∧ (gd (wSg w) = true → idx (wSg w) < tkN X L ∧ wU w ≤ 100 ∧ ccW w ≤ 2 * wU w + ntk X L (idx (wSg w)) ∧ (Nat.testBit (wT w) 4 = false → wD w = []) ∧ (∀ x ∈ wK w, ltw x.1))
section CWO
variable {X : Nat → Int32} {L : Nat} {ln : List (List Int32)}
theorem gd_mC {σ : Sg} (h : gd (mC X L σ) = true) : gd σ = true ∧ mC X L σ = nx σ ∧ sTy X L σ ≠ 0 := by
  unfold mC at *
  split at h
  · rename_i ht; rw [gd_nx] at h; exact ⟨h, if_pos ht, by have := of_decide_eq_true ht; omega⟩
  · rename_i ht
    split at h
    · rename_i ht2; rw [gd_nx] at h; exact ⟨h, by rw [if_neg ht, if_pos ht2], by have := of_decide_eq_true ht2; omega⟩
    · rename_i ht2
      obtain ⟨h1, h2, h3⟩ := gd_dm h
      exact ⟨h1, by rw [if_neg ht, if_neg ht2]; exact h3, by have := of_decide_eq_true h2; omega⟩
theorem idx_le_nx {σ : Sg} : idx σ ≤ idx (nx σ) := by cases σ with | inl e => exact Nat.le_refl _ | inr j => exact Nat.le_succ j
end CWO
