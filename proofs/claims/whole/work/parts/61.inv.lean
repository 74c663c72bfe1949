/-! what a house holds, apart from how: counts, numbers by row and place, names, codes; and how class and reference keep it -/
/-- counts; numbers (row, place); names of lands; codes (shelf, line).
counts: 0 bytes, 1 cells, 2 lands, 3 ships, 4 facts, 5 sightings; 10 + s kinds, 20 + s mays of shelf s.
rows: 0 bytes; 1 depth, 2 bend, 3 current, 4 narrow; 5 shore; 10 .. 17 ships (land, tons, length, draft, guns, decks, load, war); 20 .. 25 facts (day, ship or -1, north, number, told, untold); 30 .. 35 sightings (day, kind, north, minute, told, untold); 40: time, gap, blur, fault, its place, lines; 50 + s: lines, sum, each, stay, notice; 60 + s: cases of mays -/
abbrev Ab : Type := (Nat → Nat) × (Nat → Nat → Int32) × (Nat → List Int32) × (Nat → Nat → List (Nat × Int32))
def aN (A : Ab) : Nat → Nat := A.1
def aX (A : Ab) : Nat → Nat → Int32 := A.2.1
def aM (A : Ab) : Nat → List Int32 := A.2.2.1
def aE (A : Ab) : Nat → Nat → List (Nat × Int32) := A.2.2.2
def setN (A : Ab) (k v : Nat) : Ab := (fun j => if j = k then v else A.1 j, A.2)
def setX (A : Ab) (r i : Nat) (v : Int32) : Ab := (A.1, fun q j => if q = r ∧ j = i then v else A.2.1 q j, A.2.2)
theorem aG : (∀ (A : Ab) (k v j : Nat), aN (setN A k v) j = if j = k then v else aN A j)
    ∧ (∀ (A : Ab) (r i : Nat) (v : Int32) (q j : Nat), aX (setX A r i v) q j = if q = r ∧ j = i then v else aX A q j)
    ∧ (∀ (A : Ab) (k v : Nat), aX (setN A k v) = aX A ∧ aM (setN A k v) = aM A ∧ aE (setN A k v) = aE A)
    ∧ (∀ (A : Ab) (r i : Nat) (v : Int32), aN (setX A r i v) = aN A ∧ aM (setX A r i v) = aM A ∧ aE (setX A r i v) = aE A) :=
  ⟨fun _ _ _ _ => rfl, fun _ _ _ _ _ _ => rfl, fun _ _ _ => ⟨rfl, rfl, rfl⟩, fun _ _ _ _ => ⟨rfl, rfl, rfl⟩⟩
/-- cell b is the same -/
def Eqc (S S1 : ms_S) (b : Nat) : Prop := ms_I S1 b = ms_I S b ∧ ms_J S1 b = ms_J S b ∧ ms_R S1 b = ms_R S b ∧ ms_A S1 b = ms_A S b ∧ ms_L S1 b = ms_L S b ∧ ms_Q S1 b = ms_Q S b
theorem Eqc.rf {S : ms_S} {b : Nat} : Eqc S S b := ⟨rfl, rfl, rfl, rfl, rfl, rfl⟩
theorem Eqc.tr {S S1 S2 : ms_S} {b : Nat} (h : Eqc S S1 b) (k : Eqc S1 S2 b) : Eqc S S2 b := ⟨k.1.trans h.1, k.2.1.trans h.2.1, k.2.2.1.trans h.2.2.1, k.2.2.2.1.trans h.2.2.2.1, k.2.2.2.2.1.trans h.2.2.2.2.1, k.2.2.2.2.2.trans h.2.2.2.2.2⟩
theorem Eqc_I {S : ms_S} {a k b : Nat} {v : Int32} (h : b ≠ a) : Eqc S (ms_setI S a k v) b := ⟨ms_up_ne h, rfl, rfl, rfl, rfl, rfl⟩
theorem Eqc_J {S : ms_S} {a k b : Nat} {v : Int64} (h : b ≠ a) : Eqc S (ms_setJ S a k v) b := ⟨rfl, ms_up_ne h, rfl, rfl, rfl, rfl⟩
theorem Eqc_R {S : ms_S} {a k b : Nat} {v : Option Nat} (h : b ≠ a) : Eqc S (ms_setR S a k v) b := ⟨rfl, rfl, ms_up_ne h, rfl, rfl, rfl⟩
theorem Eqc_A {S : ms_S} {a k b : Nat} {v : Int32} (h : b ≠ a) : Eqc S (ms_setA S a k v) b := ⟨rfl, rfl, rfl, ms_up_ne h, rfl, rfl⟩
theorem Eqc_L {S : ms_S} {a k b : Nat} {v : Int64} (h : b ≠ a) : Eqc S (ms_setL S a k v) b := ⟨rfl, rfl, rfl, rfl, ms_up_ne h, rfl⟩
theorem Eqc_Q {S : ms_S} {a k b : Nat} {v : Option Nat} (h : b ≠ a) : Eqc S (ms_setQ S a k v) b := ⟨rfl, rfl, rfl, rfl, rfl, ms_up_ne h⟩
/-! the class -/
def cTape (S : ms_S) (A : Ab) : Prop := ms_I S 4 1 = Int32.ofNat (aN A 0) ∧ ∀ i, i < aN A 0 → ms_A S 5 i = aX A 0 i
def cNum (S : ms_S) (A : Ab) : Prop := ms_I S 4 17 = aX A 40 0 ∧ ms_I S 4 18 = aX A 40 1 ∧ ms_I S 4 19 = aX A 40 2 ∧ ms_I S 6 6 = aX A 40 3 ∧ ms_I S 6 7 = aX A 40 4
/-- a strait's object -/
def cStrAt (S : ms_S) (A : Ab) (a : Nat) : Prop := ms_I S a 4 = Int32.ofNat (aN A 1) ∧ ms_I S a 7 = Int32.ofNat (aN A 2) ∧ ms_I S a 8 = aX A 40 5
  ∧ (∀ i, i < aN A 1 → ms_A S (a + 1) i = aX A 1 i ∧ ms_A S (a + 2) i = aX A 2 i ∧ ms_A S (a + 3) i = aX A 3 i ∧ ms_A S (a + 4) i = aX A 4 i)
  ∧ (∀ i, i < aN A 2 → ms_A S (a + 6) i = aX A 5 i)
/-- letters packed by five bits, and by eight -/
def pk5 (l : List Int32) : Int64 := l.foldl (fun p c => p * 32 + Int32.toInt64 (c - 97 + 1)) 0
def pk8 (l : List Int32) : Int64 := l.foldl (fun p c => p <<< (Int32.toInt64 8 &&& 63) ||| Int32.toInt64 c) 0
/-- first and last narrow cell, of the first n -/
def goF (X : Nat → Int32) : Nat → Int32
  | 0 => -1
  | n + 1 => if goF X n = -1 ∧ X n ≠ 0 then Int32.ofNat n else goF X n
def goT (X : Nat → Int32) : Nat → Int32
  | 0 => -1
  | n + 1 => if X n ≠ 0 then Int32.ofNat n else goT X n
def cStr (S : ms_S) (A : Ab) : Prop := ∃ a a2, ms_R S 4 3 = some a ∧ ms_R S 4 4 = some a2 ∧ (a = 11 ∧ a2 = 20 ∨ a = 20 ∧ a2 = 11) ∧ cStrAt S A a
  ∧ ms_I S a 9 = goF (aX A 4) (aN A 1) ∧ ms_I S a 10 = goT (aX A 4) (aN A 1) ∧ (∀ i, i < aN A 2 → ms_L S (a + 5) i = pk5 (aM A i))
def cShip (S : ms_S) (A : Ab) : Prop := ms_I S 4 9 = Int32.ofNat (aN A 3) ∧ (∀ i, i < 20 → ms_Q S 39 i = some (111 + i))
  ∧ (∀ i, i < aN A 3 → (∀ k, k < 8 → ms_I S (111 + i) k = aX A (10 + k) i) ∧ ms_I S (111 + i) 8 = aX A 5 (aX A 10 i).toNatClampNeg)
def cDi (S : ms_S) (A : Ab) (a c r : Nat) : Prop := ms_I S a 6 = Int32.ofNat (aN A c) ∧ ∀ i, i < aN A c → ms_A S (a + 1) i = aX A r i ∧ ms_A S (a + 2) i = aX A (r + 1) i ∧ ms_A S (a + 3) i = aX A (r + 2) i ∧ ms_A S (a + 4) i = aX A (r + 3) i ∧ ms_A S (a + 5) i = aX A (r + 4) i ∧ ms_A S (a + 6) i = aX A (r + 5) i
/-- a piece of codes: from, to -/
def enc (q : Nat × Int32) : Int32 := Int32.ofNat q.1 + q.2 * 256
def cSeg (S : ms_S) (a : Nat) (f t : Int32) (l : List (Nat × Int32)) : Prop := ∃ n : Nat, f = Int32.ofNat n ∧ t = Int32.ofNat (n + l.length) ∧ n + l.length ≤ 512 ∧ (∃ m : Nat, ms_I S a 1 = Int32.ofNat m ∧ n + l.length ≤ m ∧ m ≤ 512) ∧ ∀ j, j < l.length → ms_A S (a + 1) (n + j) = enc (l.getD j (0, 0))
/-- bits of what codes ask a ship for -/
def askOf (l : List (Nat × Int32)) : Int32 := l.foldl (fun b q => if 100 ≤ q.1 ∧ q.1 < 111 then b ||| (1 <<< Int32.ofNat (q.1 - 100)) else b) 0
def askAll (E : Nat → List (Nat × Int32)) : Nat → Int32
  | 0 => 0
  | n + 1 => askAll E n ||| askOf (E n)
def cCvAt (S : ms_S) (A : Ab) (a s : Nat) : Prop := ms_I S a 17 = aX A (50 + s) 0 ∧ ms_I S a 11 = aX A (50 + s) 1 ∧ ms_I S a 12 = aX A (50 + s) 2 ∧ ms_I S a 13 = aX A (50 + s) 3 ∧ ms_I S a 14 = aX A (50 + s) 4
  ∧ ms_I S a 5 = Int32.ofNat (aN A (10 + s)) ∧ ms_I S a 10 = Int32.ofNat (aN A (20 + s)) ∧ ms_I S a 6 = askAll (aE A s) (aN A (10 + s))
  ∧ (∀ i, i < aN A (20 + s) → ms_A S (a + 5) i = aX A (60 + s) i)
  ∧ (∀ i, i < aN A (10 + s) → cSeg S a (ms_A S (a + 3) i) (ms_A S (a + 4) i) (aE A s i))
  ∧ (∀ i, i < aN A (20 + s) → cSeg S a (ms_A S (a + 6) i) (ms_A S (a + 7) i) (aE A s (6 + i)))
  ∧ cSeg S a (ms_I S a 15) (ms_I S a 16) (aE A s 14)
def cConv (S : ms_S) (A : Ab) : Prop := ∃ p : Nat → Nat, ms_R S 4 6 = some (p 4) ∧ (∀ s, s < 5 → o_cv (p s)) ∧ (∀ s t, s < 5 → t < 5 → p s = p t → s = t) ∧ (∀ s, s < 4 → ms_Q S 29 s = some (p s) ∧ cCvAt S A (p s) s)
def cBase (S : ms_S) (A : Ab) : Prop := cTape S A ∧ cNum S A ∧ cStr S A ∧ cShip S A ∧ cDi S A 40 4 20 ∧ cDi S A 47 5 30 ∧ cConv S A ∧ ms_L S 7 = pkW
/-! the reference -/
def mTape (S : ms_S) (A : Ab) : Prop := ms_I S 131 2 = Int32.ofNat (aN A 0) ∧ ∀ i, i < aN A 0 → ms_A S 132 i = vp_nar .byte (aX A 0 i)
def mNum (S : ms_S) (A : Ab) : Prop := ms_I S 131 72 = aX A 40 0 ∧ ms_I S 131 94 = aX A 40 1 ∧ ms_I S 131 95 = aX A 40 2 ∧ ms_I S 131 4 = aX A 40 3 ∧ ms_I S 131 5 = aX A 40 4
def mStrAt (S : ms_S) (A : Ab) (b : Nat) : Prop := ms_A S 135 b = Int32.ofNat (aN A 1) ∧ ms_A S 136 b = Int32.ofNat (aN A 2) ∧ ms_A S 134 b = aX A 40 5
  ∧ (∀ i, i < aN A 1 → ms_A S 137 (20 * b + i) = aX A 1 i ∧ ms_A S 138 (20 * b + i) = aX A 2 i ∧ ms_A S 139 (20 * b + i) = aX A 3 i ∧ ms_A S 140 (20 * b + i) = aX A 4 i)
  ∧ (∀ i, i < aN A 2 → ms_A S 141 (8 * b + i) = aX A 5 i ∧ ms_L S 142 (8 * b + i) = pk8 (aM A i))
def mStr (S : ms_S) (A : Ab) : Prop := ∃ b : Nat, b < 2 ∧ ms_I S 131 20 = Int32.ofNat b ∧ mStrAt S A b
def mShip (S : ms_S) (A : Ab) : Prop := ms_I S 131 50 = Int32.ofNat (aN A 3) ∧ ∀ i, i < aN A 3 → ∀ k, k < 8 → ms_A S (158 + k) i = aX A (10 + k) i
def mFact (S : ms_S) (A : Ab) : Prop := ms_I S 131 71 = Int32.ofNat (aN A 4) ∧ ∀ i, i < aN A 4 → ms_A S 168 i = aX A 20 i ∧ ms_A S 172 i = (if aX A 21 i = -1 then 0 else 1) ∧ ms_A S 167 i = (if aX A 21 i = -1 then aX A 23 i else aX A 21 i) ∧ ms_A S 173 i = aX A 22 i ∧ ms_A S 169 i = (if aX A 21 i = -1 then 0 else aX A 23 i) ∧ ms_A S 170 i = aX A 24 i ∧ ms_A S 171 i = aX A 25 i
def mSig (S : ms_S) (A : Ab) : Prop := ms_I S 131 105 = Int32.ofNat (aN A 5) ∧ ∀ i, i < aN A 5 → ms_A S 190 i = aX A 30 i ∧ ms_A S 192 i = aX A 31 i ∧ ms_A S 198 i = aX A 32 i ∧ ms_A S 191 i = aX A 33 i ∧ ms_A S 193 i = aX A 34 i ∧ ms_A S 194 i = aX A 35 i
/-- a type of codes in the reference's letters; in kind lines kind NAME has its own -/
def mCh (line t : Nat) : Int32 := if t = 3 then 110 else if t = 100 then 116 else if t = 101 then 108 else if t = 102 then 100 else if t = 103 then 103 else if t = 104 then 107 else if t = 105 then 111 else if t = 106 then 119 else if t = 107 then 115 else if t = 108 then 78 else if t = 109 then 79 else if t = 110 then 68 else if t = 111 then (if line < 6 then 69 else 75) else if t = 112 then 76 else if t = 113 then 126 else if t = 114 then 124 else if t = 115 then 38 else Int32.ofNat t
def mSeg (S : ms_S) (s line : Nat) (l : List (Nat × Int32)) : Prop := ∃ n : Nat, ms_A S 148 (15 * s + line) = Int32.ofNat n ∧ ms_A S 149 (15 * s + line) = Int32.ofNat (n + l.length) ∧ n + l.length ≤ 1200 ∧ ∀ j, j < l.length → ms_A S 150 (1200 * s + n + j) = mCh line (l.getD j (0, 0)).1 ∧ ms_A S 151 (1200 * s + n + j) = (l.getD j (0, 0)).2
def mCvAt (S : ms_S) (A : Ab) (s : Nat) : Prop := ms_A S 143 s = aX A (50 + s) 0 ∧ (∀ k, k < 4 → ms_A S 147 (4 * s + k) = aX A (50 + s) (1 + k)) ∧ ms_A S 144 s = Int32.ofNat (aN A (10 + s)) ∧ ms_A S 145 s = Int32.ofNat (aN A (20 + s))
  ∧ (∀ i, i < aN A (20 + s) → ms_A S 146 (8 * s + i) = aX A (60 + s) i)
  ∧ (∀ i, i < aN A (10 + s) → mSeg S s i (aE A s i)) ∧ (∀ i, i < aN A (20 + s) → mSeg S s (6 + i) (aE A s (6 + i)))
  ∧ ((ms_A S 156 s = 0 ∧ aE A s 14 = []) ∨ (ms_A S 156 s = 1 ∧ aE A s 14 ≠ [] ∧ mSeg S s 14 (aE A s 14)))
def mBase (S : ms_S) (A : Ab) : Prop := mTape S A ∧ mNum S A ∧ mStr S A ∧ mShip S A ∧ mFact S A ∧ mSig S A ∧ ∀ s, s < 4 → mCvAt S A s
