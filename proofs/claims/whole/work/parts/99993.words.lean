/-! words -/
def WL : List (List Nat) := [[116, 111, 110, 115], [108, 101, 110, 103, 116, 104], [100, 114, 97, 102, 116], [103, 117, 110, 115], [100, 101, 99, 107, 115], [108, 111, 97, 100], [119, 97, 114], [115, 104, 111, 114, 101], [110, 111, 114, 116, 104], [110, 111, 116, 105, 99, 101], [100, 97, 121], [107, 105, 110, 100], [108, 97, 110, 100], [110, 111, 116], [111, 114], [97, 110, 100], [99, 101, 108, 108], [100, 101, 112, 116, 104], [98, 101, 110, 100], [102, 108, 111, 119], [98, 97, 99, 107], [110, 97, 114, 114, 111, 119], [105, 115], [109, 97, 121], [105, 102], [112, 101, 97, 99, 101], [116, 104, 114, 101, 97, 116], [115, 117, 109], [101, 97, 99, 104], [115, 116, 97, 121], [100, 117, 101, 115]]
def K8 : List Int64 := [1953459827, 119182899770472, 431415715444, 1735749235, 431197743987, 1819238756, 7823730, 495673373285, 474316174440, 121424973488997, 6578553, 1802071652, 1818324580, 7237492, 28530, 6385252, 1667591276, 431198598248, 1650814564, 1718382455, 1650549611, 121364810985335, 26995, 7168377, 26982, 482737218405, 127991944667508, 7566701, 1700881256, 1937006969, 1685415283]
def toL (l : List Nat) : List Int32 := l.map Int32.ofNat
def r5 : List Nat → Nat
  | [] => 0
  | k :: r => r5 r * 32 + (k - 96)
def r8 : List Nat → Nat
  | [] => 0
  | k :: r => r8 r * 256 + k
def lets (l : List Nat) : Prop := ∀ k ∈ l, 97 ≤ k ∧ k ≤ 122
theorem i64_eq {a b : Nat} (ha : a < 18446744073709551616) (hb : b < 18446744073709551616) : Int64.ofNat a = Int64.ofNat b ↔ a = b := by
  refine ⟨fun h => ?_, fun h => by rw [h]⟩
  have h := congrArg Int64.toBitVec h
  have h : BitVec.ofNat 64 a = BitVec.ofNat 64 b := h
  have h := congrArg BitVec.toNat h
  rw [BitVec.toNat_ofNat, BitVec.toNat_ofNat, Nat.mod_eq_of_lt ha, Nat.mod_eq_of_lt hb] at h
  exact h
theorem let5 : ∀ k : Fin 26, decide (Int32.toInt64 (Int32.ofNat (k.1 + 97) - 97 + 1) = Int64.ofNat (k.1 + 97 - 96) ∧ Int32.toInt64 (Int32.ofNat (k.1 + 97)) = Int64.ofNat (k.1 + 97)) = true := by decide +kernel
theorem let_e {k : Nat} (h : 97 ≤ k ∧ k ≤ 122) : Int32.toInt64 (Int32.ofNat k - 97 + 1) = Int64.ofNat (k - 96) ∧ Int32.toInt64 (Int32.ofNat k) = Int64.ofNat k := by
  have := of_decide_eq_true (let5 ⟨k - 97, by omega⟩)
  simp only [show k - 97 + 97 = k by omega] at this
  exact this
theorem i64_mul {a : Nat} : Int64.ofNat a * 32 = Int64.ofNat (a * 32) := (Int64.ofNat_mul a 32).symm
theorem i64_add {a b : Nat} : Int64.ofNat a + Int64.ofNat b = Int64.ofNat (a + b) := (Int64.ofNat_add a b).symm
theorem pk5_r : ∀ l : List Nat, lets l → pk5 (toL l.reverse) = Int64.ofNat (r5 l) := by
  intro l
  induction l with
  | nil => intro _; rfl
  | cons k r ih =>
    intro h
    unfold toL at *
    rw [List.reverse_cons, List.map_append]
    show pk5 (r.reverse.map Int32.ofNat ++ [Int32.ofNat k]) = _
    rw [pk5_s, ih (fun j hj => h j (by simp [hj])), (let_e (h k (by simp))).1, i64_mul, i64_add]
    rfl
theorem sh8 {a k : Nat} (hk : k < 256) : Int64.ofNat a <<< (Int32.toInt64 8 &&& 63) ||| Int64.ofNat k = Int64.ofNat (a * 256 + k) := by
  apply Int64.toBitVec_inj.1
  rw [Int64.toBitVec_or]
  have e0 : (Int64.ofNat a <<< (Int32.toInt64 8 &&& 63)).toBitVec = BitVec.ofNat 64 a <<< 8 := by
    rw [show (Int32.toInt64 8 &&& 63) = 8 by decide, Int64.toBitVec_shiftLeft]
    rfl
  rw [e0]
  apply BitVec.eq_of_getLsbD_eq
  intro i hi
  have e1 : ∀ m : Nat, (Int64.ofNat m).toBitVec = BitVec.ofNat 64 m := fun _ => rfl
  rw [BitVec.getLsbD_or, BitVec.getLsbD_shiftLeft, e1, e1, BitVec.getLsbD_ofNat, BitVec.getLsbD_ofNat, BitVec.getLsbD_ofNat, show a * 256 + k = 2 ^ 8 * a + k by omega, Nat.testBit_two_pow_mul_add a (show k < 2 ^ 8 from hk), decide_eq_true hi]
  by_cases h8 : i < 8
  · rw [if_pos h8, decide_eq_true h8]
    simp
  · rw [if_neg h8, decide_eq_false h8, decide_eq_true (show i - 8 < 64 by omega)]
    have : Nat.testBit k i = false := Nat.testBit_lt_two_pow (Nat.lt_of_lt_of_le hk (by rw [show (256 : Nat) = 2 ^ 8 from rfl]; exact Nat.pow_le_pow_right (by omega) (by omega)))
    rw [this]
    simp
theorem pk8_s {l : List Int32} {c : Int32} : pk8 (l ++ [c]) = pk8 l <<< (Int32.toInt64 8 &&& 63) ||| Int32.toInt64 c := by unfold pk8; rw [List.foldl_append]; rfl
theorem pk8_r : ∀ l : List Nat, lets l → pk8 (toL l.reverse) = Int64.ofNat (r8 l) := by
  intro l
  induction l with
  | nil => intro _; rfl
  | cons k r ih =>
    intro h
    unfold toL at *
    rw [List.reverse_cons, List.map_append]
    show pk8 (r.reverse.map Int32.ofNat ++ [Int32.ofNat k]) = _
    rw [pk8_s, ih (fun j hj => h j (by simp [hj])), (let_e (h k (by simp))).2, sh8 (by have := h k (by simp); omega)]
    rfl
theorem r5_bd : ∀ l : List Nat, lets l → r5 l < 32 ^ l.length := by
  intro l
  induction l with
  | nil => intro _; simp [r5]
  | cons k r ih =>
    intro h
    have h1 := ih (fun j hj => h j (by simp [hj]))
    have h2 := h k (by simp)
    unfold r5
    rw [List.length_cons, Nat.pow_succ]
    omega
theorem r8_bd : ∀ l : List Nat, lets l → r8 l < 256 ^ l.length := by
  intro l
  induction l with
  | nil => intro _; simp [r8]
  | cons k r ih =>
    intro h
    have h1 := ih (fun j hj => h j (by simp [hj]))
    have h2 := h k (by simp)
    unfold r8
    rw [List.length_cons, Nat.pow_succ]
    omega
theorem r5_inj : ∀ l l' : List Nat, lets l → lets l' → r5 l = r5 l' → l = l' := by
  intro l
  induction l with
  | nil =>
    intro l' _ h' e
    cases l' with
    | nil => rfl
    | cons k r => have := h' k (by simp); unfold r5 at e; omega
  | cons k r ih =>
    intro l' h h' e
    cases l' with
    | nil => have := h k (by simp); unfold r5 at e; omega
    | cons k' r' =>
      have h1 := h k (by simp)
      have h2 := h' k' (by simp)
      have e : r5 r * 32 + (k - 96) = r5 r' * 32 + (k' - 96) := e
      have := ih r' (fun j hj => h j (by simp [hj])) (fun j hj => h' j (by simp [hj])) (by omega)
      rw [this, show k = k' by omega]
theorem r8_inj : ∀ l l' : List Nat, lets l → lets l' → r8 l = r8 l' → l = l' := by
  intro l
  induction l with
  | nil =>
    intro l' _ h' e
    cases l' with
    | nil => rfl
    | cons k r => have := h' k (by simp); unfold r8 at e; omega
  | cons k r ih =>
    intro l' h h' e
    cases l' with
    | nil => have := h k (by simp); unfold r8 at e; omega
    | cons k' r' =>
      have h1 := h k (by simp)
      have h2 := h' k' (by simp)
      have e : r8 r * 256 + k = r8 r' * 256 + k' := e
      have := ih r' (fun j hj => h j (by simp [hj])) (fun j hj => h' j (by simp [hj])) (by omega)
      rw [this, show k = k' by omega]
/-- letters, at most eight -/
def ltw (l : List Int32) : Prop := l.length ≤ 8 ∧ ∀ c ∈ l, 97 ≤ c ∧ c ≤ 122
theorem ltw_n {l : List Int32} (h : ltw l) : ∃ r : List Nat, l = toL r.reverse ∧ lets r ∧ r.length ≤ 8 := by
  refine ⟨(l.map Int32.toNatClampNeg).reverse, ?_, ?_, by rw [List.length_reverse, List.length_map]; exact h.1⟩
  · rw [List.reverse_reverse]
    unfold toL
    rw [List.map_map]
    have : ∀ c ∈ l, (Int32.ofNat ∘ Int32.toNatClampNeg) c = c := fun c hc => by
      obtain ⟨h1, h2⟩ := h.2 c hc
      obtain ⟨k, _, e⟩ := i32_nat (x := c) (n := 200) (by generalize c = z at *; clear h; grind) (by omega) (by generalize c = z at *; clear h; grind)
      show Int32.ofNat c.toNatClampNeg = c
      rw [e, ofN_cl (by omega)]
    exact (List.map_congr_left this).symm ▸ (List.map_id l).symm
  · intro k hk
    rw [List.mem_reverse] at hk
    obtain ⟨c, hc, rfl⟩ := List.mem_map.mp hk
    obtain ⟨h1, h2⟩ := h.2 c hc
    obtain ⟨k, hk, e⟩ := i32_nat (x := c) (n := 200) (by generalize c = z at *; clear h; grind) (by omega) (by generalize c = z at *; clear h; grind)
    rw [e] at h1 h2 ⊢
    rw [ofN_cl (by omega)]
    exact ⟨(ofN_le (i := 97) (by omega) (by omega)).1 h1, (ofN_le (j := 122) (by omega) (by omega)).1 h2⟩
theorem pk_inj {l l' : List Int32} (h : ltw l) (h' : ltw l') : (pk5 l = pk5 l' ↔ l = l') ∧ (pk8 l = pk8 l' ↔ l = l') := by
  obtain ⟨r, rfl, hr, hl⟩ := ltw_n h
  obtain ⟨r', rfl, hr', hl'⟩ := ltw_n h'
  have p5 : ∀ q : List Nat, lets q → q.length ≤ 8 → r5 q < 18446744073709551616 := fun q hq hl => Nat.lt_of_lt_of_le (r5_bd q hq) (Nat.le_trans (Nat.pow_le_pow_right (by omega) hl) (by decide))
  have p8 : ∀ q : List Nat, lets q → q.length ≤ 8 → r8 q < 18446744073709551616 := fun q hq hl => Nat.lt_of_lt_of_le (r8_bd q hq) (Nat.le_trans (Nat.pow_le_pow_right (by omega) hl) (by decide))
  constructor
  · rw [pk5_r r hr, pk5_r r' hr', i64_eq (p5 r hr hl) (p5 r' hr' hl')]
    exact ⟨fun e => by rw [r5_inj r r' hr hr' e], fun e => by
      have e2 : pk5 (toL r.reverse) = pk5 (toL r'.reverse) := by rw [e]
      rw [pk5_r r hr, pk5_r r' hr', i64_eq (p5 r hr hl) (p5 r' hr' hl')] at e2
      exact e2⟩
  · rw [pk8_r r hr, pk8_r r' hr', i64_eq (p8 r hr hl) (p8 r' hr' hl')]
    exact ⟨fun e => by rw [r8_inj r r' hr hr' e], fun e => by
      have e2 : pk8 (toL r.reverse) = pk8 (toL r'.reverse) := by rw [e]
      rw [pk8_r r hr, pk8_r r' hr', i64_eq (p8 r hr hl) (p8 r' hr' hl')] at e2
      exact e2⟩
def WI (i : Nat) : List Int32 := toL (WL.getD i [])
def K8I (i : Nat) : Int64 := K8.getD i 0
theorem WI_0 : ∀ i : Fin 31, decide (pkW i.1 = pk5 (WI i.1) ∧ K8I i.1 = pk8 (WI i.1) ∧ (WI i.1).length ≤ 8 ∧ (WI i.1).all (fun c => decide (97 ≤ c ∧ c ≤ 122)) = true) = true := by decide +kernel
theorem WI_1 : ∀ i j : Fin 31, decide (pkW i.1 = pkW j.1 → i.1 = j.1) = true := by decide +kernel
theorem WI_e {i : Nat} (h : i < 31) : pkW i = pk5 (WI i) ∧ K8I i = pk8 (WI i) ∧ ltw (WI i) := by
  obtain ⟨h1, h2, h3, h4⟩ := of_decide_eq_true (WI_0 ⟨i, h⟩)
  exact ⟨h1, h2, h3, fun c hc => of_decide_eq_true (List.all_eq_true.mp h4 c hc)⟩
theorem wS_hit {v : Int64} : ∀ k i, wS v k i = 2 ∨ ∃ j, i ≤ j ∧ j < i + k ∧ wS v k i = 100 + j ∧ pkW j = v := by
  intro k
  induction k with
  | zero => intro i; exact Or.inl rfl
  | succ k ih =>
    intro i
    unfold wS
    split
    · rename_i h; exact Or.inr ⟨i, by omega, by omega, rfl, h⟩
    · rcases ih (i + 1) with h | ⟨j, h1, h2, h3, h4⟩
      · exact Or.inl h
      · exact Or.inr ⟨j, by omega, by omega, h3, h4⟩
theorem wS_no {v : Int64} : ∀ k i, wS v k i = 2 → ∀ j, i ≤ j → j < i + k → pkW j ≠ v := by
  intro k
  induction k with
  | zero => intro i _ j h1 h2; omega
  | succ k ih =>
    intro i h j h1 h2
    unfold wS at h
    split at h
    · omega
    · rename_i hn
      by_cases e : j = i
      · rw [e]; exact hn
      · exact ih (i + 1) h j (by omega) (by omega)
/-- a word's type, in letters packed either way -/
theorem word8 {l : List Int32} (hl : ltw l) {i : Nat} (hi : i < 31) : wF (pk5 l) = 100 + i ↔ pk8 l = K8I i := by
  obtain ⟨w1, w2, w3⟩ := WI_e hi
  rw [w2, (pk_inj hl w3).2, ← (pk_inj hl w3).1, ← w1]
  refine ⟨fun h => ?_, fun h => ?_⟩
  · rcases wS_hit (v := pk5 l) 31 0 with q | ⟨j, _, hj, q1, q2⟩
    · have h : wS (pk5 l) 31 0 = 100 + i := h; omega
    · have h : wS (pk5 l) 31 0 = 100 + i := h
      have : j = i := by omega
      rw [← this]; exact q2.symm
  · rcases wS_hit (v := pk5 l) 31 0 with q | ⟨j, _, hj, q1, q2⟩
    · exact absurd h.symm (wS_no 31 0 q i (by omega) (by omega))
    · have e : j = i := of_decide_eq_true (WI_1 ⟨j, by omega⟩ ⟨i, hi⟩) (by rw [q2, h])
      show wS (pk5 l) 31 0 = _
      rw [q1, e]
theorem word8n {l : List Int32} (hl : ltw l) : wF (pk5 l) = 2 ↔ ∀ i, i < 31 → pk8 l ≠ K8I i := by
  refine ⟨fun h i hi q => by have := (word8 hl hi).2 q; omega, fun h => ?_⟩
  rcases wS_hit (v := pk5 l) 31 0 with q | ⟨j, _, hj, q1, q2⟩
  · exact q
  · exact absurd ((word8 hl (show j < 31 by omega)).1 q1) (h j (by omega))
section KPT
variable {N : Nat} {S : ms_S}
theorem q156y {i : Nat} (hi : i < 31) : f156 N (K8I i) S = some (1, S) := by
  have : i = 0 ∨ i = 1 ∨ i = 2 ∨ i = 3 ∨ i = 4 ∨ i = 5 ∨ i = 6 ∨ i = 7 ∨ i = 8 ∨ i = 9 ∨ i = 10 ∨ i = 11 ∨ i = 12 ∨ i = 13 ∨ i = 14 ∨ i = 15 ∨ i = 16 ∨ i = 17 ∨ i = 18 ∨ i = 19 ∨ i = 20 ∨ i = 21 ∨ i = 22 ∨ i = 23 ∨ i = 24 ∨ i = 25 ∨ i = 26 ∨ i = 27 ∨ i = 28 ∨ i = 29 ∨ i = 30 := by omega
  rcases this with rfl | rfl | rfl | rfl | rfl | rfl | rfl | rfl | rfl | rfl | rfl | rfl | rfl | rfl | rfl | rfl | rfl | rfl | rfl | rfl | rfl | rfl | rfl | rfl | rfl | rfl | rfl | rfl | rfl | rfl | rfl <;> rfl
theorem q156n {x : Int64} (h : ∀ i, i < 31 → x ≠ K8I i) : f156 N x S = some (0, S) := by
  have h0 : ¬ (lg_cmp x 1700881256) = 0 := fun q => h 28 (by omega) (lgc.1 q)
  have h1 : ¬ (lg_cmp x 1937006969) = 0 := fun q => h 29 (by omega) (lgc.1 q)
  have h2 : ¬ (lg_cmp x 121424973488997) = 0 := fun q => h 9 (by omega) (lgc.1 q)
  have h3 : ¬ (lg_cmp x 1685415283) = 0 := fun q => h 30 (by omega) (lgc.1 q)
  have h4 : ¬ (lg_cmp x 6385252) = 0 := fun q => h 15 (by omega) (lgc.1 q)
  have h5 : ¬ (lg_cmp x 28530) = 0 := fun q => h 14 (by omega) (lgc.1 q)
  have h6 : ¬ (lg_cmp x 7237492) = 0 := fun q => h 13 (by omega) (lgc.1 q)
  have h7 : ¬ (lg_cmp x 1953459827) = 0 := fun q => h 0 (by omega) (lgc.1 q)
  have h8 : ¬ (lg_cmp x 119182899770472) = 0 := fun q => h 1 (by omega) (lgc.1 q)
  have h9 : ¬ (lg_cmp x 431415715444) = 0 := fun q => h 2 (by omega) (lgc.1 q)
  have h10 : ¬ (lg_cmp x 1735749235) = 0 := fun q => h 3 (by omega) (lgc.1 q)
  have h11 : ¬ (lg_cmp x 431197743987) = 0 := fun q => h 4 (by omega) (lgc.1 q)
  have h12 : ¬ (lg_cmp x 1819238756) = 0 := fun q => h 5 (by omega) (lgc.1 q)
  have h13 : ¬ (lg_cmp x 474316174440) = 0 := fun q => h 8 (by omega) (lgc.1 q)
  have h14 : ¬ (lg_cmp x 6578553) = 0 := fun q => h 10 (by omega) (lgc.1 q)
  have h15 : ¬ (lg_cmp x 1667591276) = 0 := fun q => h 16 (by omega) (lgc.1 q)
  have h16 : ¬ (lg_cmp x 431198598248) = 0 := fun q => h 17 (by omega) (lgc.1 q)
  have h17 : ¬ (lg_cmp x 1650814564) = 0 := fun q => h 18 (by omega) (lgc.1 q)
  have h18 : ¬ (lg_cmp x 1718382455) = 0 := fun q => h 19 (by omega) (lgc.1 q)
  have h19 : ¬ (lg_cmp x 1650549611) = 0 := fun q => h 20 (by omega) (lgc.1 q)
  have h20 : ¬ (lg_cmp x 121364810985335) = 0 := fun q => h 21 (by omega) (lgc.1 q)
  have h21 : ¬ (lg_cmp x 1818324580) = 0 := fun q => h 12 (by omega) (lgc.1 q)
  have h22 : ¬ (lg_cmp x 495673373285) = 0 := fun q => h 7 (by omega) (lgc.1 q)
  have h23 : ¬ (lg_cmp x 1802071652) = 0 := fun q => h 11 (by omega) (lgc.1 q)
  have h24 : ¬ (lg_cmp x 26995) = 0 := fun q => h 22 (by omega) (lgc.1 q)
  have h25 : ¬ (lg_cmp x 7168377) = 0 := fun q => h 23 (by omega) (lgc.1 q)
  have h26 : ¬ (lg_cmp x 26982) = 0 := fun q => h 24 (by omega) (lgc.1 q)
  have h27 : ¬ (lg_cmp x 482737218405) = 0 := fun q => h 25 (by omega) (lgc.1 q)
  have h28 : ¬ (lg_cmp x 127991944667508) = 0 := fun q => h 26 (by omega) (lgc.1 q)
  have h29 : ¬ (lg_cmp x 7823730) = 0 := fun q => h 6 (by omega) (lgc.1 q)
  have h30 : ¬ (lg_cmp x 7566701) = 0 := fun q => h 27 (by omega) (lgc.1 q)
  unfold f156
  simp only [mE, h0, h1, h2, h3, h4, h5, h6, h7, h8, h9, h10, h11, h12, h13, h14, h15, h16, h17, h18, h19, h20, h21, h22, h23, h24, h25, h26, h27, h28, h29, h30, if_false, ne_eq, not_true_eq_false, not_false_eq_true, if_true, true_or]
theorem q156 {l : List Int32} (hl : ltw l) : f156 N (pk8 l) S = some (if wF (pk5 l) = 2 then 0 else 1, S) := by
  by_cases h : wF (pk5 l) = 2
  · rw [if_pos h]; exact q156n ((word8n hl).1 h)
  · rw [if_neg h]
    rcases wF_ge (v := pk5 l) with q | ⟨q1, q2⟩
    · exact absurd q h
    · obtain ⟨i, hi⟩ : ∃ i, wF (pk5 l) = 100 + i := ⟨wF (pk5 l) - 100, by omega⟩
      rw [(word8 hl (show i < 31 by omega)).1 hi]
      exact q156y (by omega)
end KPT
