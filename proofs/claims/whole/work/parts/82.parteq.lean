/-! part: the class's ranges and the reference's are as good -/
theorem srch_none {α : Type} {f : Nat → Option α} : ∀ m i, srch f m i = none ↔ ∀ j, i ≤ j → j < i + m → f j = none := by
  intro m
  induction m with
  | zero => intro i; exact ⟨fun _ j h1 h2 => absurd h1 (by omega), fun _ => rfl⟩
  | succ m ih =>
    intro i
    rw [srch]
    cases hf : f i with
    | some x => exact ⟨(fun h => by cases h), (fun h => by have := h i (Nat.le_refl _) (by omega); rw [hf] at this; cases this)⟩
    | none =>
      rw [ih (i + 1)]
      refine ⟨fun h j h1 h2 => ?_, fun h j h1 h2 => h j (by omega) (by omega)⟩
      by_cases hj : j = i
      · rw [hj]; exact hf
      · exact h j (by omega) (by omega)
theorem srch_congr {α : Type} {f g : Nat → Option α} : ∀ m i, (∀ j, i ≤ j → j < i + m → f j = g j) → srch f m i = srch g m i := by
  intro m
  induction m with
  | zero => intro i _; rfl
  | succ m ih =>
    intro i h
    rw [srch, srch, h i (Nat.le_refl _) (by omega), ih (i + 1) (fun j h1 h2 => h j (by omega) (by omega))]
theorem srch_one {α : Type} {f : Nat → Option α} {m : Nat} (h : ∀ x, f x = none ↔ f 0 = none) : srch f (m + 1) 0 = srch f 1 0 := by
  rw [srch, srch]
  cases hf : f 0 with
  | some x => rfl
  | none =>
    show srch f m 1 = none
    exact (srch_none m 1).2 (fun j _ _ => (h j).2 hf)
theorem srch_add {α : Type} {f : Nat → Option α} : ∀ m n i, srch f (m + n) i = (match srch f m i with | some x => some x | none => srch f n (i + m)) := by
  intro m
  induction m with
  | zero => intro n i; rw [Nat.zero_add]; rfl
  | succ m ih =>
    intro n i
    rw [show m + 1 + n = (m + n) + 1 by omega, srch, srch]
    cases hf : f i with
    | some x => rfl
    | none => simp only; rw [ih n (i + 1), show i + 1 + m = i + (m + 1) by omega]
theorem srch_in {α : Type} (f : Nat → Nat → Option α) (k x : Nat) : ∀ m i, i + m ≤ k → srch (fun v => f (v / k) (v % k)) m (x * k + i) = srch (f x) m i := by
  intro m
  induction m with
  | zero => intro i _; rfl
  | succ m ih =>
    intro i h
    rw [srch, srch]
    have e1 : (x * k + i) / k = x := by rw [Nat.mul_comm, Nat.mul_add_div (by omega), Nat.div_eq_of_lt (by omega), Nat.add_zero]
    have e2 : (x * k + i) % k = i := by rw [Nat.mul_comm, Nat.mul_add_mod, Nat.mod_eq_of_lt (by omega)]
    simp only [e1, e2]
    rw [show x * k + i + 1 = x * k + (i + 1) by omega, ih (i + 1) (by omega)]
theorem srch_flat {α : Type} (f : Nat → Nat → Option α) (k : Nat) : ∀ m x, srch (fun v => f (v / k) (v % k)) (m * k) (x * k) = srch (fun y => srch (f y) k 0) m x := by
  intro m
  induction m with
  | zero => intro x; rw [Nat.zero_mul]; rfl
  | succ m ih =>
    intro x
    rw [show (m + 1) * k = k + m * k by rw [Nat.add_mul]; omega, srch_add, srch]
    have := srch_in f k x k 0 (by omega)
    rw [Nat.add_zero] at this
    rw [this, show x * k + k = (x + 1) * k by rw [Nat.add_mul]; omega, ih (x + 1)]
    cases srch (f x) k 0 <;> rfl
def fV (A : Ab) (a b v : Nat) : Option T4 := fW A a b (v / 252) (v / 12 % 21) (v / 2 % 6) (v % 2)
def partM (A : Ab) (a b : Nat) : Option T4 := srch (fV A a b) 25200 0
theorem partM_nest {A : Ab} {a b : Nat} : partM A a b = srch (fT A a b 21 6 2) 100 0 := by
  have s1 : srch (fV A a b) 25200 0 = srch (fun u => fD A a b 2 (u / 126) (u / 6 % 21) (u % 6)) 12600 0 := by
    have := srch_flat (fun u w => fW A a b (u / 126) (u / 6 % 21) (u % 6) w) 2 12600 0
    rw [Nat.zero_mul] at this
    refine Eq.trans (srch_congr _ _ (fun j _ _ => ?_)) this
    show fW A a b (j / 252) (j / 12 % 21) (j / 2 % 6) (j % 2) = fW A a b (j / 2 / 126) (j / 2 / 6 % 21) (j / 2 % 6) (j % 2)
    rw [Nat.div_div_eq_div_mul, Nat.div_div_eq_div_mul]
  have s2 : srch (fun u => fD A a b 2 (u / 126) (u / 6 % 21) (u % 6)) 12600 0 = srch (fun x => fG A a b 6 2 (x / 21) (x % 21)) 2100 0 := by
    have := srch_flat (fun x d => fD A a b 2 (x / 21) (x % 21) d) 6 2100 0
    rw [Nat.zero_mul] at this
    refine Eq.trans (srch_congr _ _ (fun j _ _ => ?_)) this
    show fD A a b 2 (j / 126) (j / 6 % 21) (j % 6) = fD A a b 2 (j / 6 / 21) (j / 6 % 21) (j % 6)
    rw [Nat.div_div_eq_div_mul]
  have s3 : srch (fun x => fG A a b 6 2 (x / 21) (x % 21)) 2100 0 = srch (fT A a b 21 6 2) 100 0 := by
    have := srch_flat (fun t g => fG A a b 6 2 t g) 21 100 0
    rw [Nat.zero_mul] at this
    exact this
  exact s1.trans (s2.trans s3)
/-! bits -/
def bitI (x : Int32) (k : Nat) : Bool := x.toBitVec.getLsbD k
theorem bit_or (x y : Int32) (k : Nat) : bitI (x ||| y) k = (bitI x k || bitI y k) := by
  unfold bitI
  rw [Int32.toBitVec_or, BitVec.getLsbD_or]
theorem bit_one : ∀ j : Fin 11, bitI ((1 : Int32) <<< Int32.ofNat j.val) j.val = true := by decide
theorem bit_of {x : Int32} {k : Nat} (hk : k = 0 ∨ k = 3 ∨ k = 4 ∨ k = 6) (h : ((x >>> (Int32.ofNat k &&& 31)) &&& 1) = 0) : bitI x k = false := by
  have key : ∀ y : BitVec 32, y = ((x >>> (Int32.ofNat k &&& 31)) &&& 1).toBitVec → y.getLsbD 0 = false := by
    intro y hy
    rw [hy, h]; decide
  unfold bitI
  rcases hk with rfl | rfl | rfl | rfl
  · have := key (x.toBitVec.sshiftRight 0 &&& 1#32) rfl
    rw [BitVec.getLsbD_and, BitVec.getLsbD_sshiftRight] at this
    simpa using this
  · have := key (x.toBitVec.sshiftRight 3 &&& 1#32) rfl
    rw [BitVec.getLsbD_and, BitVec.getLsbD_sshiftRight] at this
    simpa using this
  · have := key (x.toBitVec.sshiftRight 4 &&& 1#32) rfl
    rw [BitVec.getLsbD_and, BitVec.getLsbD_sshiftRight] at this
    simpa using this
  · have := key (x.toBitVec.sshiftRight 6 &&& 1#32) rfl
    rw [BitVec.getLsbD_and, BitVec.getLsbD_sshiftRight] at this
    simpa using this
theorem ask_fold {q : Nat × Int32} (h1 : 100 ≤ q.1) (h2 : q.1 < 111) : ∀ (l : List (Nat × Int32)) (b : Int32), (bitI b (q.1 - 100) = true ∨ q ∈ l) → bitI (l.foldl (fun b q => if 100 ≤ q.1 ∧ q.1 < 111 then b ||| (1 <<< Int32.ofNat (q.1 - 100)) else b) b) (q.1 - 100) = true := by
  intro l
  induction l with
  | nil => intro b h; rcases h with h | h; exact h; cases h
  | cons p l ih =>
    intro b h
    refine ih _ ?_
    rcases h with h | h
    · left
      show bitI (if 100 ≤ p.1 ∧ p.1 < 111 then b ||| (1 <<< Int32.ofNat (p.1 - 100)) else b) (q.1 - 100) = true
      split
      · rw [bit_or, h]; rfl
      · exact h
    · rcases List.mem_cons.mp h with h | h
      · left
        subst h
        show bitI (if 100 ≤ q.1 ∧ q.1 < 111 then b ||| (1 <<< Int32.ofNat (q.1 - 100)) else b) (q.1 - 100) = true
        rw [if_pos ⟨h1, h2⟩, bit_or, bit_one ⟨q.1 - 100, by omega⟩]
        simp
      · exact Or.inr h
theorem ask_mem {E : Nat → List (Nat × Int32)} {k : Nat} (hk : k < 11) : ∀ n, bitI (askAll E n) k = false → ∀ i, i < n → ∀ q ∈ E i, q.1 ≠ 100 + k := by
  intro n
  induction n with
  | zero => intro _ i hi; exact absurd hi (by omega)
  | succ n ih =>
    intro h i hi q hq e
    rw [askAll, bit_or, Bool.or_eq_false_iff] at h
    by_cases hin : i = n
    · subst hin
      have := ask_fold (q := q) (by omega) (by omega) (E i) 0 (Or.inr hq)
      rw [show q.1 - 100 = k by omega] at this
      have h2 := h.2
      unfold askOf at h2
      rw [this] at h2
      cases h2
    · exact ih h.1 i (by omega) q hq e
theorem askB_mem {A : Ab} {a b k : Nat} (hk : k = 0 ∨ k = 3 ∨ k = 4 ∨ k = 6) (h : askB A a b k = false) : (∀ i, i < aN A (10 + a) → ∀ q ∈ aE A a i, q.1 ≠ 100 + k) ∧ (∀ i, i < aN A (10 + b) → ∀ q ∈ aE A b i, q.1 ≠ 100 + k) := by
  unfold askB at h
  have h2 := of_decide_eq_false h
  have h3 := bit_of hk (Decidable.not_not.mp h2)
  rw [bit_or, Bool.or_eq_false_iff] at h3
  exact ⟨ask_mem (by omega) _ h3.1, ask_mem (by omega) _ h3.2⟩
/-- a word that no kind line asks for does nothing -/
theorem kd_indep {A : Ab} {s k t g d w t' g' d' w' : Nat} (hv : WFv A) (hs : s < 4) (hm : ∀ i, i < aN A (10 + s) → ∀ q ∈ aE A s i, q.1 ≠ 100 + k) (hG : ∀ j, j < 8 → j ≠ k → Gp A t g d w j = Gp A t' g' d' w' j) : kdP A s t g d w = kdP A s t' g' d' w' := by
  unfold kdP
  refine kindL_congr _ _ (fun i _ hi q hq hlf => ?_)
  obtain ⟨o1, o2, o3⟩ := (hv s hs).2.2.1 i (by omega)
  have h8 := o3 q hq
  have hne := hm i (by omega) q hq
  simp only [isLeaf, Bool.or_eq_true, beq_iff_eq, Bool.and_eq_true, decide_eq_true_eq] at hlf
  unfold leafV
  by_cases h3 : q.1 = 3
  · simp [h3]
  · by_cases h111 : q.1 = 111
    · simp [h111]
    · by_cases h112 : q.1 = 112
      · simp [h112]
      · rw [if_neg h3, if_neg h111, if_neg h112, if_neg h3, if_neg h111, if_neg h112]
        exact hG _ (by omega) (by omega)
theorem fW_none {A : Ab} {a b t g d w : Nat} : fW A a b t g d w = none ↔ kdP A a t g d w = kdP A b t g d w := by
  unfold fW
  split
  · exact ⟨fun _ => by assumption, fun _ => rfl⟩
  · rename_i h; exact ⟨fun q => (by cases q), fun q => absurd q h⟩
theorem part_eq {A : Ab} {a b : Nat} (hv : WFv A) (ha : a < 4) (hb : b < 4) : partC A a b = partM A a b := by
  rw [partM_nest]
  unfold partC
  -- war
  have eW : ∀ t g d, srch (fW A a b t g d) (cW A a b + 1) 0 = srch (fW A a b t g d) 2 0 := by
    intro t g d
    unfold cW
    cases hk : askB A a b 6 with
    | true => rfl
    | false =>
      obtain ⟨m1, m2⟩ := askB_mem (by omega) hk
      simp only [Bool.false_eq_true, if_false]
      refine (srch_one (m := 1) (fun x => ?_)).symm
      have hG : ∀ j, j < 8 → j ≠ 6 → Gp A t g d x j = Gp A t g d 0 j := fun j h1 h2 => by unfold Gp; simp only [h2, if_false]
      rw [fW_none, fW_none, kd_indep hv ha m1 hG, kd_indep hv hb m2 hG]
  have fDe : fD A a b (cW A a b + 1) = fD A a b 2 := by funext t g d; exact eW t g d
  have eD : ∀ t g, srch (fD A a b 2 t g) (cD A a b + 1) 0 = srch (fD A a b 2 t g) 6 0 := by
    intro t g
    unfold cD
    cases hk : askB A a b 4 with
    | true => rfl
    | false =>
      obtain ⟨m1, m2⟩ := askB_mem (by omega) hk
      simp only [Bool.false_eq_true, if_false]
      refine (srch_one (m := 5) (fun x => ?_)).symm
      unfold fD
      rw [srch_none, srch_none]
      refine forall_congr' fun w => forall_congr' fun _ => forall_congr' fun _ => ?_
      have hG : ∀ j, j < 8 → j ≠ 4 → Gp A t g x w j = Gp A t g 0 w j := fun j h1 h2 => by unfold Gp; simp only [h2, if_false]
      rw [fW_none, fW_none, kd_indep hv ha m1 hG, kd_indep hv hb m2 hG]
  have fGe : fG A a b (cD A a b + 1) (cW A a b + 1) = fG A a b 6 2 := by funext t g; unfold fG; rw [fDe]; exact eD t g
  have eG : ∀ t, srch (fG A a b 6 2 t) (cG A a b + 1) 0 = srch (fG A a b 6 2 t) 21 0 := by
    intro t
    unfold cG
    cases hk : askB A a b 3 with
    | true => rfl
    | false =>
      obtain ⟨m1, m2⟩ := askB_mem (by omega) hk
      simp only [Bool.false_eq_true, if_false]
      refine (srch_one (m := 20) (fun x => ?_)).symm
      unfold fG
      rw [srch_none, srch_none]
      refine forall_congr' fun d => forall_congr' fun _ => forall_congr' fun _ => ?_
      unfold fD
      rw [srch_none, srch_none]
      refine forall_congr' fun w => forall_congr' fun _ => forall_congr' fun _ => ?_
      have hG : ∀ j, j < 8 → j ≠ 3 → Gp A t x d w j = Gp A t 0 d w j := fun j h1 h2 => by unfold Gp; simp only [h2, if_false]
      rw [fW_none, fW_none, kd_indep hv ha m1 hG, kd_indep hv hb m2 hG]
  have fTe : fT A a b (cG A a b + 1) (cD A a b + 1) (cW A a b + 1) = fT A a b 21 6 2 := by funext t; unfold fT; rw [fGe]; exact eG t
  rw [fTe]
  unfold cT
  cases hk : askB A a b 0 with
  | true => rfl
  | false =>
    obtain ⟨m1, m2⟩ := askB_mem (by omega) hk
    simp only [Bool.false_eq_true, if_false]
    refine (srch_one (m := 99) (fun x => ?_)).symm
    unfold fT
    rw [srch_none, srch_none]
    refine forall_congr' fun g => forall_congr' fun _ => forall_congr' fun _ => ?_
    unfold fG
    rw [srch_none, srch_none]
    refine forall_congr' fun d => forall_congr' fun _ => forall_congr' fun _ => ?_
    unfold fD
    rw [srch_none, srch_none]
    refine forall_congr' fun w => forall_congr' fun _ => forall_congr' fun _ => ?_
    have hG : ∀ j, j < 8 → j ≠ 0 → Gp A x g d w j = Gp A 0 g d w j := fun j h1 h2 => by unfold Gp; simp only [h2, if_false]
    rw [fW_none, fW_none, kd_indep hv ha m1 hG, kd_indep hv hb m2 hG]
theorem partM_self {A : Ab} {a : Nat} : partM A a a = none := by
  unfold partM
  rw [srch_none]
  intro j _ _
  exact fW_none.2 rfl
