/-! bits of codes -/
theorem and255 (k : Nat) : Int32.ofNat k &&& 255 = Int32.ofNat (k % 256) := by
  apply Int32.toBitVec_inj.mp
  show (BitVec.ofNat 32 k &&& 255#32) = BitVec.ofNat 32 (k % 256)
  apply BitVec.eq_of_toNat_eq
  rw [BitVec.toNat_and, BitVec.toNat_ofNat, BitVec.toNat_ofNat, BitVec.toNat_ofNat]
  have : k % 2 ^ 32 &&& 255 % 2 ^ 32 = k % 2 ^ 32 % 2 ^ 8 := Nat.and_two_pow_sub_one_eq_mod _ 8
  rw [this]
  omega
theorem shr8 {k : Nat} (h : k < 2147483648) : Int32.ofNat k >>> ((8 : Int32) &&& 31) = Int32.ofNat (k / 256) := by
  apply Int32.toBitVec_inj.mp
  have e : (Int32.ofNat k >>> ((8 : Int32) &&& 31)).toBitVec = (BitVec.ofNat 32 k).sshiftRight 8 := rfl
  rw [e]
  apply BitVec.eq_of_toInt_eq
  rw [BitVec.toInt_sshiftRight]
  have e1 : (BitVec.ofNat 32 k).toInt = (k : Int) := Int32.toInt_ofNat_of_lt h
  have e2 : (Int32.ofNat (k / 256)).toBitVec.toInt = ((k / 256 : Nat) : Int) := Int32.toInt_ofNat_of_lt (by omega)
  rw [e1, e2, Int.shiftRight_eq_div_pow]
  omega
theorem enc_nat {t m : Nat} : enc (t, Int32.ofNat m) = Int32.ofNat (t + m * 256) := by
  unfold enc
  rw [show (256 : Int32) = Int32.ofNat 256 from rfl, ofN_mul, ofN_add]
theorem enc_t {t : Nat} {n : Int32} (ht : t < 256) (h0 : 0 ≤ n) (h1 : n ≤ 9999) : enc (t, n) &&& 255 = Int32.ofNat t := by
  obtain ⟨m, hm, rfl⟩ := i32_nat (x := n) (n := 10000) h0 (by omega) (by clear ht; grind)
  rw [enc_nat, and255]
  congr 1
  omega
theorem enc_n {t : Nat} {n : Int32} (ht : t < 256) (h0 : 0 ≤ n) (h1 : n ≤ 9999) : enc (t, n) >>> ((8 : Int32) &&& 31) = n := by
  obtain ⟨m, hm, rfl⟩ := i32_nat (x := n) (n := 10000) h0 (by omega) (by clear ht; grind)
  rw [enc_nat, shr8 (by omega)]
  congr 1
  omega
/-! e's: codes worked out over a pile -/
def isLeaf (t : Nat) : Bool := t == 3 || (decide (100 ≤ t) && decide (t ≤ 112))
def isOp (t : Nat) : Bool := t == 42 || t == 43 || t == 45 || t == 60 || t == 61 || t == 62 || t == 114 || t == 115
/-- the words' numbers, the land, what kind NAME is -/
def leafV (G : Nat → Int32) (land : Int32) (kf : Int32 → Int32) (q : Nat × Int32) : Int32 := if q.1 = 3 then q.2 else if q.1 = 111 then kf q.2 else if q.1 = 112 then (if land = q.2 then 1 else 0) else G (q.1 - 100)
def joinV (t : Nat) (l r : Int32) : Int32 := if t = 43 then l + r else if t = 45 then l - r else if t = 60 then (if l < r then 1 else 0) else if t = 61 then (if l = r then 1 else 0) else if t = 62 then (if l > r then 1 else 0) else if t = 114 then (if l ≠ 0 ∨ r ≠ 0 then 1 else 0) else if t = 115 then (if l ≠ 0 ∧ r ≠ 0 then 1 else 0) else l * r
def stepV (G : Nat → Int32) (land : Int32) (kf : Int32 → Int32) (st : List Int32) (q : Nat × Int32) : List Int32 :=
  if isLeaf q.1 = true then leafV G land kf q :: st else if q.1 = 113 then (match st with
    | x :: r => (if x = 0 then 1 else 0) :: r
    | [] => []) else (match st with
    | r :: l :: s => joinV q.1 l r :: s
    | s => s)
def evS (G : Nat → Int32) (land : Int32) (kf : Int32 → Int32) (l : List (Nat × Int32)) (st : List Int32) : List Int32 := l.foldl (stepV G land kf) st
def valE (G : Nat → Int32) (land : Int32) (kf : Int32 → Int32) (l : List (Nat × Int32)) : Int32 := (evS G land kf l []).headD 0
/-- how high the pile is behind codes, if it never gets too low or above 64 -/
def okL : List (Nat × Int32) → Nat → Option Nat
  | [], n => some n
  | q :: l, n => if isLeaf q.1 = true then (if n < 64 then okL l (n + 1) else none) else if q.1 = 113 then (if 0 < n then okL l n else none) else if isOp q.1 = true then (if 1 < n then okL l (n - 1) else none) else none
/-- codes whose numbers are small -/
def okN (l : List (Nat × Int32)) : Prop := ∀ q ∈ l, 0 ≤ q.2 ∧ q.2 ≤ 9999
/-- a pile in a row -/
def stR (f : Nat → Int32) : Nat → List Int32 → Prop
  | n, [] => n = 0
  | n, x :: r => 1 ≤ n ∧ f (n - 1) = x ∧ stR f (n - 1) r
theorem stR_up {f g : Nat → Int32} : ∀ (st : List Int32) (n : Nat), (∀ j, j < n → g j = f j) → stR f n st → stR g n st := by
  intro st
  induction st with
  | nil => intro n _ h; exact h
  | cons x r ih =>
    intro n hg h
    obtain ⟨h1, h2, h3⟩ := h
    exact ⟨h1, by rw [hg _ (by omega)]; exact h2, ih (n - 1) (fun j hj => hg j (by omega)) h3⟩
theorem stR_len {f : Nat → Int32} : ∀ (st : List Int32) (n : Nat), stR f n st → st.length = n := by
  intro st
  induction st with
  | nil => intro n h; exact h.symm
  | cons x r ih => intro n h; have := ih _ h.2.2; have := h.1; simp; omega
