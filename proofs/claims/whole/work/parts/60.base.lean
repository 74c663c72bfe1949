/-! runs of the functions, goal first; numbers -/
/-- x ends, and what it ends with is as Q says -/
def wp {α : Type} (x : mM α) (S : ms_S) (Q : α → ms_S → Prop) : Prop := ∃ v S1, x S = some (v, S1) ∧ Q v S1
section WPR
variable {α β : Type} {S S1 : ms_S} {Q : β → ms_S → Prop} {a k n : Nat} {i x y : Int32}
theorem wp_ret {v : β} (h : Q v S) : wp (mret v) S Q := ⟨v, S, rfl, h⟩
theorem wp_retZ {v : Int32} {Q : Int32 → ms_S → Prop} (hv : v = 0 ∨ v = 1) (h : Q v S) : wp (mretZ v) S Q := ⟨v, S, if_pos hv, h⟩
theorem wp_mono {x : mM β} {R : β → ms_S → Prop} (h : wp x S R) (k : ∀ v S1, R v S1 → Q v S1) : wp x S Q := by
  obtain ⟨v, S1, e, hr⟩ := h
  exact ⟨v, S1, e, k v S1 hr⟩
theorem wp_b {x : mM α} {f : α → mM β} {R : α → ms_S → Prop} (h : wp x S R) (k : ∀ v S1, R v S1 → wp (f v) S1 Q) : wp (mb x f) S Q := by
  obtain ⟨v, S1, e, hr⟩ := h
  obtain ⟨w, S2, e2, hq⟩ := k v S1 hr
  refine ⟨w, S2, ?_, hq⟩
  simp only [mb, e]
  exact e2
theorem wp_eq {x : mM α} {f : α → mM β} {v : α} (h : x S = some (v, S1)) (k : wp (f v) S1 Q) : wp (mb x f) S Q := by
  obtain ⟨w, S2, e2, hq⟩ := k
  refine ⟨w, S2, ?_, hq⟩
  simp only [mb, h]
  exact e2
theorem wp_let {γ : Type} {b : γ} {f : γ → mM β} (h : wp (f b) S Q) : wp (mlet b f) S Q := h
theorem wp_if {c : Prop} {d : Decidable c} {x y : mM β} (h1 : c → wp x S Q) (h2 : ¬ c → wp y S Q) : wp (@ite _ c d x y) S Q := by
  by_cases hc : c
  · rw [if_pos hc]; exact h1 hc
  · rw [if_neg hc]; exact h2 hc
theorem wp_gI {f : Int32 → mM β} (h : wp (f (ms_I S a k)) S Q) : wp (mb (gI a k) f) S Q := h
theorem wp_gJ {f : Int64 → mM β} (h : wp (f (ms_J S a k)) S Q) : wp (mb (gJ a k) f) S Q := h
theorem wp_pI {f : Unit → mM β} (h : wp (f ()) (ms_setI S a k x) Q) : wp (mb (pI a k x) f) S Q := h
theorem wp_pJ {v : Int64} {f : Unit → mM β} (h : wp (f ()) (ms_setJ S a k v) Q) : wp (mb (pJ a k v) f) S Q := h
theorem wp_pR {v : Nat} {f : Unit → mM β} (h : wp (f ()) (ms_setR S a k (some v)) Q) : wp (mb (pR a k v) f) S Q := h
theorem wp_pZ {f : Unit → mM β} (hx : x = 0 ∨ x = 1) (h : wp (f ()) (ms_setI S a k x) Q) : wp (mb (pZ a k x) f) S Q := wp_eq (if_pos hx) h
theorem wp_lA {f : Int32 → mM β} (hi : mv_in i n) (h : wp (f (ms_A S a i.toNatClampNeg)) S Q) : wp (mb (lA a n i) f) S Q := wp_eq (if_pos hi) h
theorem wp_lL {f : Int64 → mM β} (hi : mv_in i n) (h : wp (f (ms_L S a i.toNatClampNeg)) S Q) : wp (mb (lL a n i) f) S Q := wp_eq (if_pos hi) h
theorem wp_sA {f : Unit → mM β} (hi : mv_in i n) (h : wp (f ()) (ms_setA S a i.toNatClampNeg x) Q) : wp (mb (sA a n i x) f) S Q := wp_eq (if_pos hi) h
theorem wp_sB {f : Unit → mM β} (hi : mv_in i n) (h : wp (f ()) (ms_setA S a i.toNatClampNeg (vp_nar .boolean x)) Q) : wp (mb (sB a n i x) f) S Q := wp_eq (if_pos hi) h
theorem wp_sY {f : Unit → mM β} (hi : mv_in i n) (h : wp (f ()) (ms_setA S a i.toNatClampNeg (vp_nar .byte x)) Q) : wp (mb (sY a n i x) f) S Q := wp_eq (if_pos hi) h
theorem wp_sL {v : Int64} {f : Unit → mM β} (hi : mv_in i n) (h : wp (f ()) (ms_setL S a i.toNatClampNeg v) Q) : wp (mb (sL a n i v) f) S Q := wp_eq (if_pos hi) h
theorem wp_sQ {v : Nat} {f : Unit → mM β} (hi : mv_in i n) (h : wp (f ()) (ms_setQ S a i.toNatClampNeg (some v)) Q) : wp (mb (sQ a n i v) f) S Q := wp_eq (if_pos hi) h
theorem wp_gRo {P : Nat → Bool} {r : Nat} {f : Nat → mM β} (hr : ms_R S a k = some r) (hP : P r = true) (h : wp (f r) S Q) : wp (mb (gRo P a k) f) S Q := wp_eq (by simp only [gRo, hr, if_pos hP]) h
theorem wp_lQo {P : Nat → Bool} {r : Nat} {f : Nat → mM β} (hi : mv_in i n) (hr : ms_Q S a i.toNatClampNeg = some r) (hP : P r = true) (h : wp (f r) S Q) : wp (mb (lQo P a n i) f) S Q := wp_eq (by simp only [lQo, if_pos hi, hr, if_pos hP]) h
theorem wp_div {f : Int32 → mM β} (hy : y ≠ 0) (h : wp (f (x / y)) S Q) : wp (mb (mdiv x y) f) S Q := wp_eq (if_neg hy) h
theorem wp_rem {f : Int32 → mM β} (hy : y ≠ 0) (h : wp (f (x - x / y * y)) S Q) : wp (mb (mrem x y) f) S Q := wp_eq (if_neg hy) h
end WPR
/-- reads behind writes -/
theorem mG : (∀ (S : ms_S) (a k : Nat) (v : Int32) (b l : Nat), ms_I (ms_setI S a k v) b l = if b = a ∧ l = k then v else ms_I S b l)
    ∧ (∀ (S : ms_S) (a k : Nat) (v : Int32) (b l : Nat), ms_A (ms_setA S a k v) b l = if b = a ∧ l = k then v else ms_A S b l)
    ∧ (∀ (S : ms_S) (a k : Nat) (v : Int64) (b l : Nat), ms_J (ms_setJ S a k v) b l = if b = a ∧ l = k then v else ms_J S b l)
    ∧ (∀ (S : ms_S) (a k : Nat) (v : Int64) (b l : Nat), ms_L (ms_setL S a k v) b l = if b = a ∧ l = k then v else ms_L S b l)
    ∧ (∀ (S : ms_S) (a k : Nat) (v : Option Nat) (b l : Nat), ms_R (ms_setR S a k v) b l = if b = a ∧ l = k then v else ms_R S b l)
    ∧ (∀ (S : ms_S) (a k : Nat) (v : Option Nat) (b l : Nat), ms_Q (ms_setQ S a k v) b l = if b = a ∧ l = k then v else ms_Q S b l) :=
  ⟨fun _ _ _ _ _ _ => rfl, fun _ _ _ _ _ _ => rfl, fun _ _ _ _ _ _ => rfl, fun _ _ _ _ _ _ => rfl, fun _ _ _ _ _ _ => rfl, fun _ _ _ _ _ _ => rfl⟩
theorem mGo : (∀ (S : ms_S) (a k : Nat) (v : Int32), ms_I (ms_setA S a k v) = ms_I S ∧ ms_J (ms_setA S a k v) = ms_J S ∧ ms_R (ms_setA S a k v) = ms_R S ∧ ms_L (ms_setA S a k v) = ms_L S ∧ ms_Q (ms_setA S a k v) = ms_Q S)
    ∧ (∀ (S : ms_S) (a k : Nat) (v : Int32), ms_A (ms_setI S a k v) = ms_A S ∧ ms_J (ms_setI S a k v) = ms_J S ∧ ms_R (ms_setI S a k v) = ms_R S ∧ ms_L (ms_setI S a k v) = ms_L S ∧ ms_Q (ms_setI S a k v) = ms_Q S)
    ∧ (∀ (S : ms_S) (a k : Nat) (v : Int64), ms_A (ms_setJ S a k v) = ms_A S ∧ ms_I (ms_setJ S a k v) = ms_I S ∧ ms_R (ms_setJ S a k v) = ms_R S ∧ ms_L (ms_setJ S a k v) = ms_L S ∧ ms_Q (ms_setJ S a k v) = ms_Q S)
    ∧ (∀ (S : ms_S) (a k : Nat) (v : Int64), ms_A (ms_setL S a k v) = ms_A S ∧ ms_I (ms_setL S a k v) = ms_I S ∧ ms_R (ms_setL S a k v) = ms_R S ∧ ms_J (ms_setL S a k v) = ms_J S ∧ ms_Q (ms_setL S a k v) = ms_Q S)
    ∧ (∀ (S : ms_S) (a k : Nat) (v : Option Nat), ms_A (ms_setR S a k v) = ms_A S ∧ ms_I (ms_setR S a k v) = ms_I S ∧ ms_L (ms_setR S a k v) = ms_L S ∧ ms_J (ms_setR S a k v) = ms_J S ∧ ms_Q (ms_setR S a k v) = ms_Q S)
    ∧ (∀ (S : ms_S) (a k : Nat) (v : Option Nat), ms_A (ms_setQ S a k v) = ms_A S ∧ ms_I (ms_setQ S a k v) = ms_I S ∧ ms_L (ms_setQ S a k v) = ms_L S ∧ ms_J (ms_setQ S a k v) = ms_J S ∧ ms_R (ms_setQ S a k v) = ms_R S) :=
  ⟨fun _ _ _ _ => ⟨rfl, rfl, rfl, rfl, rfl⟩, fun _ _ _ _ => ⟨rfl, rfl, rfl, rfl, rfl⟩, fun _ _ _ _ => ⟨rfl, rfl, rfl, rfl, rfl⟩, fun _ _ _ _ => ⟨rfl, rfl, rfl, rfl, rfl⟩, fun _ _ _ _ => ⟨rfl, rfl, rfl, rfl, rfl⟩, fun _ _ _ _ => ⟨rfl, rfl, rfl, rfl, rfl⟩⟩
/-! numbers -/
theorem i32_of (n : Nat) (h : n < 2147483648) : (Lean.Grind.ToInt.toInt (Int32.ofNat n) : Int) = n := Int32.toInt_ofNat_of_lt h
theorem i32_cl (x : Int32) : x.toNatClampNeg < 2147483648 ∧ ((x.toNatClampNeg = 0 ∧ x < 0) ∨ (x = Int32.ofNat x.toNatClampNeg ∧ 0 ≤ x)) := by
  have h2 : x.toInt < 2147483648 := Int32.toInt_lt x
  have e : x.toNatClampNeg = x.toInt.toNat := rfl
  refine ⟨by omega, ?_⟩
  by_cases h : 0 ≤ x.toInt
  · right
    refine ⟨?_, Int32.le_iff_toInt_le.mpr h⟩
    apply Int32.toInt_inj.mp
    rw [Int32.toInt_ofNat_of_lt (by omega)]
    omega
  · left
    exact ⟨by omega, Int32.lt_iff_toInt_lt.mpr (by simpa using h)⟩
/-- a number between 0 and a bound, as a Nat -/
theorem i32_nat {x : Int32} {n : Nat} (h0 : 0 ≤ x) (hn : n < 2147483648) (h : x < Int32.ofNat n) : ∃ k, k < n ∧ x = Int32.ofNat k := by
  have h1 := i32_cl x
  have h2 := i32_of n hn
  have h3 := i32_of x.toNatClampNeg
  exact ⟨x.toNatClampNeg, by grind, by grind⟩
theorem ofN_cl {i : Nat} (h : i < 2147483648) : (Int32.ofNat i).toNatClampNeg = i := kClamp h
theorem ofN_in {i n : Nat} (h : i < 2147483648) : mv_in (Int32.ofNat i) n ↔ i < n :=
  ⟨fun q => Nat.lt_of_not_le fun q2 => q (Or.inr (by rw [ofN_cl h]; exact q2)), fun q => kIn q h⟩
theorem ofN_lt {i j : Nat} (h : i < 2147483648) (h2 : j < 2147483648) : (Int32.ofNat i < Int32.ofNat j) ↔ i < j := by
  rw [Int32.lt_iff_toInt_lt, Int32.toInt_ofNat_of_lt h, Int32.toInt_ofNat_of_lt h2]
  omega
theorem ofN_le {i j : Nat} (h : i < 2147483648) (h2 : j < 2147483648) : (Int32.ofNat i ≤ Int32.ofNat j) ↔ i ≤ j := by
  rw [Int32.le_iff_toInt_le, Int32.toInt_ofNat_of_lt h, Int32.toInt_ofNat_of_lt h2]
  omega
theorem ofN_eq {i j : Nat} (h : i < 2147483648) (h2 : j < 2147483648) : (Int32.ofNat i = Int32.ofNat j) ↔ i = j := by
  rw [← Int32.toInt_inj, Int32.toInt_ofNat_of_lt h, Int32.toInt_ofNat_of_lt h2]
  omega
theorem ofN_add {i j : Nat} : Int32.ofNat i + Int32.ofNat j = Int32.ofNat (i + j) := by simp [Int32.ofNat_add]
theorem ofN_mul {i j : Nat} : Int32.ofNat i * Int32.ofNat j = Int32.ofNat (i * j) := by simp [Int32.ofNat_mul]
theorem ofN_sub {i j : Nat} (h : j ≤ i) : Int32.ofNat i - Int32.ofNat j = Int32.ofNat (i - j) := by
  have : Int32.ofNat i = Int32.ofNat (i - j) + Int32.ofNat j := by rw [ofN_add]; congr 1; omega
  rw [this]
  grind
theorem ofN_s {i : Nat} : Int32.ofNat i + 1 = Int32.ofNat (i + 1) := kS1.symm
theorem ofN_nn {i : Nat} (h : i < 2147483648) : 0 ≤ Int32.ofNat i := by
  rw [Int32.le_iff_toInt_le, Int32.toInt_ofNat_of_lt h]
  simp
theorem ofN_nl {i : Nat} (h : i < 2147483648) : ¬ Int32.ofNat i < 0 := by
  rw [Int32.lt_iff_toInt_lt, Int32.toInt_ofNat_of_lt h]
  simp
-- tries: how grind takes these
theorem tr1 (x : Int32) (h1 : 0 ≤ x) (h2 : x < 20) : (x+1).toNatClampNeg = x.toNatClampNeg + 1 := by grind [i32_cl, i32_of]
theorem tr2 (n : Nat) (h : n < 1200) : (Int32.ofNat n) + 1 = Int32.ofNat (n+1) := by grind [i32_cl, i32_of]
theorem tr3 (n m : Nat) (h : n < 20) (h1 : m < 2) : mv_in (20 * (1 - Int32.ofNat m) + Int32.ofNat n) 40 := by grind [i32_cl, i32_of]
theorem tr4 (n m : Nat) (h : n < 20) (h1 : m < 2) : (20 * (1 - Int32.ofNat m) + Int32.ofNat n).toNatClampNeg = 20 * (1 - m) + n := by grind [i32_cl, i32_of]
