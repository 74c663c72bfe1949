/-! a text's tokens -/
theorem mF : (∀ (β : Type) (a k : Nat) (f : Int64 → mM β) (S : ms_S), mb (gJ a k) f S = f (ms_J S a k) S)
    ∧ (∀ (β : Type) (a k : Nat) (v : Int64) (f : Unit → mM β) (S : ms_S), mb (pJ a k v) f S = f () (ms_setJ S a k v))
    ∧ (∀ (β : Type) (a n : Nat) (i : Int32) (f : Int64 → mM β) (S : ms_S), inR i n → mb (lL a n i) f S = f (ms_L S a i.toNatClampNeg) S)
    ∧ (∀ (β : Type) (a n : Nat) (i : Int32) (v : Int64) (f : Unit → mM β) (S : ms_S), inR i n → mb (sL a n i v) f S = f () (ms_setL S a i.toNatClampNeg v)) := by
  refine ⟨fun _ _ _ _ _ => rfl, fun _ _ _ _ _ _ => rfl, fun _ _ _ _ _ _ h => ?_, fun _ _ _ _ _ _ _ h => ?_⟩
  · have h : mv_in _ _ := h
    simp only [mb, lL, if_pos h]
  · have h : mv_in _ _ := h
    simp only [mb, sL, if_pos h]
def isLt (c : Int32) : Bool := decide (97 ≤ c ∧ c ≤ 122)
def isDg (c : Int32) : Bool := decide (48 ≤ c ∧ c ≤ 57)
def isSp (c : Int32) : Bool := decide (c = 32 ∨ c = 10)
def isSg (c : Int32) : Bool := decide (c = 59 ∨ c = 40 ∨ c = 41 ∨ c = 60 ∨ c = 62 ∨ c = 61 ∨ c = 43 ∨ c = 45 ∨ c = 42)
def rnF (P : Int32 → Bool) (X : Nat → Int32) (L : Nat) : Nat → Nat → Nat
  | 0, i => i
  | n + 1, i => if i < L ∧ P (X i) = true then rnF P X L n (i + 1) else i
def rnE (P : Int32 → Bool) (X : Nat → Int32) (L i : Nat) : Nat := rnF P X L (L - i) i
section RUN
variable {P : Int32 → Bool} {X : Nat → Int32} {L : Nat}
theorem rnE_s {i : Nat} : rnE P X L i = if i < L ∧ P (X i) = true then rnE P X L (i + 1) else i := by
  unfold rnE
  by_cases h : i < L
  · rw [show L - i = (L - (i + 1)) + 1 by omega]
    rfl
  · rw [show L - i = 0 by omega, if_neg (fun q => h q.1)]
    rfl
theorem rnE_y {i : Nat} (h : i < L) (hp : P (X i) = true) : rnE P X L i = rnE P X L (i + 1) := by rw [rnE_s, if_pos ⟨h, hp⟩]
theorem rnE_n {i : Nat} (h : ¬ (i < L ∧ P (X i) = true)) : rnE P X L i = i := by rw [rnE_s, if_neg h]
theorem rnE_all : ∀ g i, L - i < g → i ≤ rnE P X L i ∧ (i ≤ L → rnE P X L i ≤ L) ∧ (rnE P X L i < L → P (X (rnE P X L i)) = false) ∧ (∀ j, i ≤ j → j < rnE P X L i → P (X j) = true) := by
  intro g
  induction g with
  | zero => intro i h; omega
  | succ g ih =>
    intro i h
    by_cases hc : i < L ∧ P (X i) = true
    · rw [rnE_y hc.1 hc.2]
      obtain ⟨h1, h2, h3, h4⟩ := ih (i + 1) (by omega)
      refine ⟨by omega, fun _ => h2 (by omega), h3, fun j q1 q2 => ?_⟩
      by_cases e : j = i
      · subst e; exact hc.2
      · exact h4 j (by omega) q2
    · rw [rnE_n hc]
      refine ⟨Nat.le_refl _, fun h => h, fun h => ?_, fun j q1 q2 => absurd q2 (by omega)⟩
      cases hp : P (X i) with
      | false => rfl
      | true => exact absurd ⟨h, hp⟩ hc
theorem rnE_ge {i : Nat} : i ≤ rnE P X L i := (rnE_all (L - i + 1) i (by omega)).1
theorem rnE_le {i : Nat} (h : i ≤ L) : rnE P X L i ≤ L := (rnE_all (L - i + 1) i (by omega)).2.1 h
theorem rnE_st {i : Nat} (h : rnE P X L i < L) : P (X (rnE P X L i)) = false := (rnE_all (L - i + 1) i (by omega)).2.2.1 h
theorem rnE_in {i j : Nat} (h1 : i ≤ j) (h2 : j < rnE P X L i) : P (X j) = true := (rnE_all (L - i + 1) i (by omega)).2.2.2 j h1 h2
theorem rnE_gt {i : Nat} (h : i < L) (hp : P (X i) = true) : i < rnE P X L i := by
  rw [rnE_y h hp]
  exact rnE_ge
end RUN
/-- type, place, end, letters, number -/
abbrev Tk : Type := Nat × Nat × Nat × List Int32 × Int32
def tTy (t : Tk) : Nat := t.1
def tAt (t : Tk) : Nat := t.2.1
def tEn (t : Tk) : Nat := t.2.2.1
def tNm (t : Tk) : List Int32 := t.2.2.2.1
def tNu (t : Tk) : Int32 := t.2.2.2.2
def subL (X : Nat → Int32) (a n : Nat) : List Int32 := (List.range' a n).map X
theorem subL_s {X : Nat → Int32} {a n : Nat} : subL X a (n + 1) = subL X a n ++ [X (a + n)] := by
  unfold subL
  rw [List.range'_concat, List.map_append]
  simp
def numV (l : List Int32) : Int32 := l.foldl (fun a c => a * 10 + (c - 48)) 0
def wS (v : Int64) : Nat → Nat → Nat
  | 0, _ => 2
  | k + 1, i => if pkW i = v then 100 + i else wS v k (i + 1)
def wF (v : Int64) : Nat := wS v 31 0
def tokA (X : Nat → Int32) (L a : Nat) : Tk := if isLt (X a) = true then (if 8 < rnE isLt X L a - a then 1 else wF (pk5 (subL X a (rnE isLt X L a - a))), a, rnE isLt X L a, subL X a (rnE isLt X L a - a), 0)
  else if isDg (X a) = true then (if 4 < rnE isDg X L a - a ∨ (rnE isDg X L a < L ∧ isLt (X (rnE isDg X L a)) = true) then 1 else 3, a, rnE isDg X L a, [], numV (subL X a (rnE isDg X L a - a)))
  else (if isSg (X a) = true then (X a).toNatClampNeg else 1, a, a + 1, [], 0)
def tEnd (L : Nat) : Tk := (0, L, L, [], 0)
def tkL (X : Nat → Int32) (L : Nat) : Nat → Nat → List Tk
  | 0, _ => [tEnd L]
  | n + 1, i => if rnE isSp X L i < L then (if tTy (tokA X L (rnE isSp X L i)) = 1 then [tokA X L (rnE isSp X L i), tEnd L] else tokA X L (rnE isSp X L i) :: tkL X L n (tEn (tokA X L (rnE isSp X L i)))) else [tEnd L]
def tkA (X : Nat → Int32) (L : Nat) : List Tk := tkL X L (L + 1) 0
theorem tokA_en {X : Nat → Int32} {L a : Nat} (h : a < L) : a < tEn (tokA X L a) ∧ tEn (tokA X L a) ≤ L ∧ tAt (tokA X L a) = a := by
  unfold tokA
  split
  · rename_i hl; exact ⟨rnE_gt h hl, rnE_le (by omega), rfl⟩
  · split
    · rename_i _ hd; exact ⟨rnE_gt h hd, rnE_le (by omega), rfl⟩
    · exact ⟨Nat.lt_succ_self _, h, rfl⟩
theorem tkL_fuel {X : Nat → Int32} {L : Nat} : ∀ n i m, L - i < n → L - i < m → tkL X L n i = tkL X L m i := by
  intro n
  induction n with
  | zero => intro i m h; omega
  | succ n ih =>
    intro i m h1 h2
    obtain ⟨m, rfl⟩ : ∃ q, m = q + 1 := ⟨m - 1, by omega⟩
    unfold tkL
    by_cases hr : rnE isSp X L i < L
    · rw [if_pos hr, if_pos hr]
      by_cases hb : tTy (tokA X L (rnE isSp X L i)) = 1
      · rw [if_pos hb, if_pos hb]
      · rw [if_neg hb, if_neg hb]
        have h3 := (tokA_en (X := X) hr).1
        have h4 := rnE_ge (P := isSp) (X := X) (L := L) (i := i)
        rw [ih _ m (by omega) (by omega)]
    · rw [if_neg hr, if_neg hr]
theorem wS_ge {v : Int64} : ∀ k i, wS v k i = 2 ∨ (100 + i ≤ wS v k i ∧ wS v k i < 100 + i + k) := by
  intro k
  induction k with
  | zero => intro i; exact Or.inl rfl
  | succ k ih =>
    intro i
    unfold wS
    split
    · right; omega
    · rcases ih (i + 1) with h | h
      · exact Or.inl h
      · right; omega
theorem wF_ge {v : Int64} : wF v = 2 ∨ (100 ≤ wF v ∧ wF v < 131) := by
  rcases wS_ge (v := v) 31 0 with h | h
  · exact Or.inl h
  · right; unfold wF; omega
/-! the class's tokens -/
def valOK (v : Int64) (t : Tk) : Prop := (tTy t = 3 → v = Int32.toInt64 (tNu t)) ∧ (tTy t = 2 ∨ 100 ≤ tTy t → v = pk5 (tNm t))
def TC (S : ms_S) (dn : List Tk) : Prop := ms_I S 6 4 = Int32.ofNat dn.length ∧ ∀ j, j < dn.length → ms_A S 8 j = Int32.ofNat (tTy (dn.getD j (tEnd 0))) ∧ ms_A S 9 j = Int32.ofNat (tAt (dn.getD j (tEnd 0))) ∧ valOK (ms_L S 10 j) (dn.getD j (tEnd 0))
theorem tgetD_app {l : List Tk} {x d : Tk} {p : Nat} : (l ++ [x]).getD p d = if p < l.length then l.getD p d else if p = l.length then x else d := by
  rw [List.getD_eq_getElem?_getD, List.getElem?_append]
  by_cases h : p < l.length
  · rw [if_pos h, if_pos h, List.getD_eq_getElem?_getD]
  · rw [if_neg h, if_neg h]
    by_cases e : p = l.length
    · rw [if_pos e, e, Nat.sub_self]; rfl
    · rw [if_neg e]
      rw [List.getElem?_eq_none (by simp; omega)]
      rfl
section LXC
variable {N : Nat}
theorem q96 {S : ms_S} {c : Int32} : f96 N c S = some (if isLt c = true then 1 else 0, S) := by
  unfold f96 isLt
  simp only [mE, true_or, or_true, decide_eq_true_eq]
  by_cases h1 : c < 97
  · rw [if_pos h1, if_neg (fun q => Int32.not_lt.mpr q.1 h1)]
  · rw [if_neg h1]
    by_cases h2 : c > 122
    · rw [if_pos h2, if_neg (fun q => Int32.not_lt.mpr q.2 h2)]
    · rw [if_neg h2, if_pos ⟨Int32.not_lt.mp h1, Int32.not_lt.mp h2⟩]
theorem q97 {S : ms_S} {c : Int32} : f97 N c S = some (if isDg c = true then 1 else 0, S) := by
  unfold f97 isDg
  simp only [mE, true_or, or_true, decide_eq_true_eq]
  by_cases h1 : c < 48
  · rw [if_pos h1, if_neg (fun q => Int32.not_lt.mpr q.1 h1)]
  · rw [if_neg h1]
    by_cases h2 : c > 57
    · rw [if_pos h2, if_neg (fun q => Int32.not_lt.mpr q.2 h2)]
    · rw [if_neg h2, if_pos ⟨Int32.not_lt.mp h1, Int32.not_lt.mp h2⟩]
theorem E96 {S : ms_S} {c : Int32} {β : Type} {f : Int32 → mM β} : mb (f96 N c) f S = f (if isLt c = true then 1 else 0) S := by simp only [mb, q96]
theorem E97 {S : ms_S} {c : Int32} {β : Type} {f : Int32 → mM β} : mb (f97 N c) f S = f (if isDg c = true then 1 else 0) S := by simp only [mb, q97]
theorem lgc {x y : Int64} : lg_cmp x y = 0 ↔ x = y := by
  unfold lg_cmp
  by_cases h1 : x > y
  · rw [if_pos h1]; exact ⟨(fun q => absurd q (by decide)), (fun q => by subst q; exact (Int64.lt_irrefl h1).elim)⟩
  · rw [if_neg h1]
    by_cases h2 : x = y
    · rw [if_pos h2]; exact ⟨fun _ => h2, fun _ => rfl⟩
    · rw [if_neg h2]; exact ⟨(fun q => absurd q (by decide)), fun q => absurd q h2⟩
theorem q95 {S : ms_S} {v : Int64} (hN : 40 ≤ N) (hp : ms_L S 7 = pkW) : f95 N v S = some (Int32.ofNat (wF v), S) := by
  have L : ∀ k i n, k + i = 31 → k < n → f95_L2 N (fun (x1 : Int64) (x3 : Int32) => (mret (100 + x3))) (fun (x1 : Int64) (x3 : Int32) => (mret 2)) n v (Int32.ofNat i) S = some (Int32.ofNat (wS v k i), S) := by
    intro k
    induction k with
    | zero =>
      intro i n hi hn
      obtain ⟨n, rfl⟩ : ∃ q, n = q + 1 := ⟨n - 1, by omega⟩
      have e : i = 31 := by omega
      subst e
      rw [f95_L2]
      simp only [mE]
      rw [if_pos (by decide)]
      rfl
    | succ k ih =>
      intro i n hi hn
      obtain ⟨n, rfl⟩ : ∃ q, n = q + 1 := ⟨n - 1, by omega⟩
      have i1 : inR (Int32.ofNat i) 31 := ofN_inR (by omega) (by omega)
      have i2 := ofN_cl (i := i) (by omega)
      rw [f95_L2]
      simp only [mE]
      rw [if_neg (fun q => by have := (ofN_le (i := 31) (j := i) (by omega) (by omega)).1 q; omega)]
      simp only [mF, mE, i1, i2, hp]
      unfold wS
      by_cases h : pkW i = v
      · rw [if_neg (fun q => q (lgc.2 h)), if_pos h, show (100 : Int32) = Int32.ofNat 100 from rfl, ofN_add]
      · rw [if_pos (fun q => h (lgc.1 q)), if_neg h, ofN_s]
        exact ih (i + 1) n (by omega) (by omega)
  exact L 31 0 N (by omega) (by omega)
def offL (S S1 : ms_S) : Prop := (∀ j, j ≠ 4 → ms_I S1 6 j = ms_I S 6 j) ∧ ∀ b, b ≠ 6 → ¬ (8 ≤ b ∧ b ≤ 10) → Eqc S S1 b
theorem offL.rf {S : ms_S} : offL S S := ⟨fun _ _ => rfl, fun _ _ _ => Eqc.rf⟩
theorem offL.tr {S S1 S2 : ms_S} (h : offL S S1) (k : offL S1 S2) : offL S S2 := ⟨fun j hj => (k.1 j hj).trans (h.1 j hj), fun b h1 h2 => (h.2 b h1 h2).tr (k.2 b h1 h2)⟩
theorem q91 {S : ms_S} {dn : List Tk} {t : Tk} {ty at' : Int32} {v : Int64} (h : TC S dn) (hl : dn.length ≤ 1200) (h1 : ty = Int32.ofNat (tTy t)) (h2 : at' = Int32.ofNat (tAt t)) (h3 : valOK v t) : ∃ S1, f91 N ty at' v S = some ((), S1) ∧ TC S1 (dn ++ [t]) ∧ offL S S1 := by
  subst h1 h2
  obtain ⟨h4, hA⟩ := h
  have c0 : ∃ c, c = dn.length := ⟨_, rfl⟩
  obtain ⟨c, hc⟩ := c0
  rw [← hc] at h4 hA hl
  have c1 : inR (Int32.ofNat c) 1201 := ofN_inR (by omega) (by omega)
  have c2 := ofN_cl (i := c) (by omega)
  have X0 : ∃ X, X = ms_setI (ms_setL (ms_setA (ms_setA S 8 c (Int32.ofNat (tTy t))) 9 c (Int32.ofNat (tAt t))) 10 c v) 6 4 (Int32.ofNat (c + 1)) := ⟨_, rfl⟩
  obtain ⟨X, hX⟩ := X0
  have k1 : ms_I (ms_setA S 8 c (Int32.ofNat (tTy t))) 6 4 = Int32.ofNat c := by rw [(Eqc_A (by decide)).1]; exact h4
  have k2 : ms_I (ms_setA (ms_setA S 8 c (Int32.ofNat (tTy t))) 9 c (Int32.ofNat (tAt t))) 6 4 = Int32.ofNat c := by rw [(Eqc_A (by decide)).1]; exact k1
  have k3 : ms_I (ms_setL (ms_setA (ms_setA S 8 c (Int32.ofNat (tTy t))) 9 c (Int32.ofNat (tAt t))) 10 c v) 6 4 = Int32.ofNat c := by rw [(Eqc_L (by decide)).1]; exact k2
  refine ⟨X, ?_, ⟨?_, fun j hj => ?_⟩, ⟨fun j hj => ?_, fun b h1 h2 => ?_⟩⟩
  · unfold f91
    simp only [mE, h4]
    rw [if_neg (fun q => by have := (ofN_le (i := 1201) (j := c) (by omega) (by omega)).1 q; omega)]
    simp only [mE, mF, c1, c2, h4, k1, k2, k3, ofN_s, ← hX]
  · rw [hX, List.length_append, ← hc]; simp [mG]
  · rw [List.length_append, ← hc] at hj
    have hj : j < c + 1 := hj
    have x8 : ms_A X 8 j = if j = c then Int32.ofNat (tTy t) else ms_A S 8 j := by rw [hX, (Eqc_I (by decide)).2.2.2.1, (Eqc_L (by decide)).2.2.2.1]; simp only [mG, true_and, show ¬ ((8 : Nat) = 9) by decide, false_and, if_false]
    have x9 : ms_A X 9 j = if j = c then Int32.ofNat (tAt t) else ms_A S 9 j := by rw [hX, (Eqc_I (by decide)).2.2.2.1, (Eqc_L (by decide)).2.2.2.1]; simp only [mG, true_and, show ¬ ((9 : Nat) = 8) by decide, false_and, if_false]
    have x10 : ms_L X 10 j = if j = c then v else ms_L S 10 j := by rw [hX, (Eqc_I (by decide)).2.2.2.2.1]; simp only [mG, true_and]; rw [(Eqc_A (by decide)).2.2.2.2.1, (Eqc_A (by decide)).2.2.2.2.1]
    rw [tgetD_app, ← hc, x8, x9, x10]
    by_cases e : j = c
    · rw [if_pos e, if_pos e, if_pos e, if_neg (by omega), if_pos e]; exact ⟨rfl, rfl, h3⟩
    · rw [if_pos (show j < c by omega), if_neg e, if_neg e, if_neg e]; exact hA j (by omega)
  · rw [hX]
    simp only [mG, true_and, if_neg hj]
    rw [(Eqc_L (by decide)).1, (Eqc_A (by decide)).1, (Eqc_A (by decide)).1]
  · rw [hX]
    exact (((Eqc_A (by omega)).tr (Eqc_A (by omega))).tr (Eqc_L (by omega))).tr (Eqc_I h1)
theorem sg0 : ∀ t : Fin 256, decide ((Int32.ofNat t.1 ≥ 128 ∨ mv_ixf (UInt32.toInt32 (Int32.toUInt32 (Int32.ofNat t.1) % 65536)) (mv_tx 3) 0 < 0) ↔ isSg (Int32.ofNat t.1) = false) = true := by decide +kernel
theorem sgX {c : Int32} (h1 : 0 ≤ c) (h2 : c ≤ 255) : (c ≥ 128 ∨ mv_ixf (UInt32.toInt32 (Int32.toUInt32 c % 65536)) (mv_tx 3) 0 < 0) ↔ isSg c = false := by
  obtain ⟨t, ht, rfl⟩ := i32_nat (x := c) (n := 256) h1 (by omega) (by generalize c = z at *; grind)
  exact of_decide_eq_true (sg0 ⟨t, ht⟩)
end LXC
