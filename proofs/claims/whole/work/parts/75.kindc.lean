/-! kinds in the class -/
theorem evS_congr {G G' : Nat → Int32} {land land' : Int32} {kf kf' : Int32 → Int32} : ∀ (l : List (Nat × Int32)) (st : List Int32), (∀ q ∈ l, isLeaf q.1 = true → leafV G land kf q = leafV G' land' kf' q) → evS G land kf l st = evS G' land' kf' l st := by
  intro l
  induction l with
  | nil => intro st _; rfl
  | cons q l ih =>
    intro st h
    have e : stepV G land kf st q = stepV G' land' kf' st q := by
      unfold stepV
      by_cases hq : isLeaf q.1 = true
      · rw [if_pos hq, if_pos hq, h q (by simp) hq]
      · rw [if_neg hq, if_neg hq]
    show evS G land kf l (stepV G land kf st q) = evS G' land' kf' l (stepV G' land' kf' st q)
    rw [e]
    exact ih _ (fun p hp => h p (by simp [hp]))
theorem valE_congr {G G' : Nat → Int32} {land land' : Int32} {kf kf' : Int32 → Int32} {l : List (Nat × Int32)} (h : ∀ q ∈ l, isLeaf q.1 = true → leafV G land kf q = leafV G' land' kf' q) : valE G land kf l = valE G' land' kf' l := by
  unfold valE
  rw [evS_congr l [] h]
/-- the kind: the first line that holds, of m from i on -/
def kindL (E : Nat → List (Nat × Int32)) (G : Nat → Int32) (land : Int32) : Nat → Nat → Int32
  | 0, _ => -1
  | m + 1, i => if valE G land (fun _ => 0) (E i) = 0 then kindL E G land m (i + 1) else Int32.ofNat i
def mayL (E : Nat → List (Nat × Int32)) (C : Nat → Int32) (G : Nat → Int32) (land : Int32) (kf : Int32 → Int32) (w : Int32) : Nat → Nat → Int32
  | 0, _ => -1
  | m + 1, i => if C i = w ∧ valE G land kf (E (6 + i)) ≠ 0 then Int32.ofNat i else mayL E C G land kf w m (i + 1)
/-- shelves are well formed -/
def WFv (A : Ab) : Prop := ∀ s, s < 4 → aN A (10 + s) ≤ 6 ∧ aN A (20 + s) ≤ 8
  ∧ (∀ i, i < aN A (10 + s) → okL (aE A s i) 0 = some 1 ∧ okN (aE A s i) ∧ ∀ q ∈ aE A s i, (q.1 < 108 ∨ 110 < q.1) ∧ (q.1 = 111 → q.2 < Int32.ofNat i))
  ∧ (∀ i, i < aN A (20 + s) → okL (aE A s (6 + i)) 0 = some 1 ∧ okN (aE A s (6 + i)))
  ∧ (okL (aE A s 14) 0 = some 1 ∨ aE A s 14 = []) ∧ okN (aE A s 14)
  ∧ (0 ≤ aX A (50 + s) 1 ∧ aX A (50 + s) 1 ≤ 9999) ∧ (0 ≤ aX A (50 + s) 2 ∧ aX A (50 + s) 2 ≤ 9999) ∧ (0 ≤ aX A (50 + s) 3 ∧ aX A (50 + s) 3 ≤ 99) ∧ (0 ≤ aX A (50 + s) 4 ∧ aX A (50 + s) 4 ≤ 99)
section KDC
variable {N : Nat} {S : ms_S} {A : Ab} {G : Nat → Int32} {land : Int32} {a s : Nat}
theorem q25 {j : Nat} {w v : Int32} (hj : j < 11) (hw : w = Int32.ofNat (100 + j)) : f25 N w v S = some ((), ms_setA S 56 j v) := by
  subst hw
  have c1 : ¬ Int32.ofNat (100 + j) < 100 := fun q => by have := (ofN_lt (i := 100 + j) (j := 100) (by omega) (by omega)).1 q; omega
  have c2 : ¬ Int32.ofNat (100 + j) ≥ 111 := fun q => by have := (ofN_le (i := 111) (j := 100 + j) (by omega) (by omega)).1 q; omega
  have e : Int32.ofNat (100 + j) - 100 = Int32.ofNat j := by
    have : Int32.ofNat (100 + j) - 100 = Int32.ofNat (100 + j - 100) := ofN_sub (j := 100) (by omega)
    rw [this, Nat.add_sub_cancel_left]
  have h1 : inR (Int32.ofNat j) 11 := ofN_inR hj (by omega)
  unfold f25
  simp only [mE, if_neg c1, if_neg c2, e, h1, ofN_cl (i := j) (by omega)]
theorem E25 {j : Nat} {w v : Int32} {β : Type} {f : Unit → mM β} (hj : j < 11) (hw : w = Int32.ofNat (100 + j)) : mb (f25 N w v) f S = f () (ms_setA S 56 j v) := by simp only [mb, q25 hj hw]
def giveW (S : ms_S) (land sh t l d g k o w : Int32) : ms_S := ms_setA (ms_setA (ms_setA (ms_setA (ms_setA (ms_setA (ms_setA (ms_setA (ms_setI S 54 2 land) 56 7 sh) 56 0 t) 56 1 l) 56 2 d) 56 3 g) 56 4 k) 56 5 o) 56 6 w
theorem q27 {b : Nat} (hb : b ≠ 54) (h7 : ms_I S b 7 = 0 ∨ ms_I S b 7 = 1) (h8 : ms_I S b 8 = 0 ∨ ms_I S b 8 = 1) : f27 N b S = some ((), giveW S (ms_I S b 0) (ms_I S b 8) (ms_I S b 1) (ms_I S b 2) (ms_I S b 3) (ms_I S b 4) (ms_I S b 5) (ms_I S b 6) (ms_I S b 7)) := by
  have e26 : ∀ {β : Type} {f : Unit → mM β}, mb (f26 N (ms_I S b 0) (ms_I S b 8)) f S = f () (ms_setA (ms_setI S 54 2 (ms_I S b 0)) 56 7 (ms_I S b 8)) := by
    intro β f
    have : f26 N (ms_I S b 0) (ms_I S b 8) S = some ((), ms_setA (ms_setI S 54 2 (ms_I S b 0)) 56 7 (ms_I S b 8)) := by
      unfold f26
      simp only [mE]
      rcases h8 with h | h
      · rw [if_pos h, E25 (j := 7) (w := 107) (by omega) rfl, h]; rfl
      · rw [if_neg (by rw [h]; decide), E25 (j := 7) (w := 107) (by omega) rfl, h]; rfl
    simp only [mb, this]
  have eb : ∀ k v, ms_I (ms_setI S 54 2 v) b k = ms_I S b k := fun k v => by simp [mG, hb]
  unfold f27 giveW
  simp only [mE, e26, mGo, eb]
  rw [E25 (j := 0) (w := 100) (by omega) rfl]
  simp only [mE, mGo, eb]
  rw [E25 (j := 1) (w := 101) (by omega) rfl]
  simp only [mE, mGo, eb]
  rw [E25 (j := 2) (w := 102) (by omega) rfl]
  simp only [mE, mGo, eb]
  rw [E25 (j := 3) (w := 103) (by omega) rfl]
  simp only [mE, mGo, eb]
  rw [E25 (j := 4) (w := 104) (by omega) rfl]
  simp only [mE, mGo, eb]
  rw [E25 (j := 5) (w := 105) (by omega) rfl]
  simp only [mE, mGo, eb]
  rcases h7 with h | h
  · rw [if_pos h, E25 (j := 6) (w := 106) (by omega) rfl, h]; simp only [mE]
  · rw [if_neg (by rw [h]; decide), E25 (j := 6) (w := 106) (by omega) rfl, h]; simp only [mE]
/-- what a ship gives -/
def shipG (A : Ab) (i : Nat) (j : Nat) : Int32 := if j = 7 then aX A 5 (aX A 10 i).toNatClampNeg else aX A (11 + j) i
theorem giveShip {i : Nat} (h : cBase S A) (hw : WF0 A) (hi : i < aN A 3) : ∃ S1, f27 N (111 + i) S = some ((), S1) ∧ ms_I S1 54 2 = aX A 10 i ∧ ms_I S1 54 3 = ms_I S 54 3 ∧ (∀ j, j < 8 → ms_A S1 56 j = shipG A i j) ∧ (∀ j, 8 ≤ j → ms_A S1 56 j = ms_A S 56 j) ∧ ∀ b, b ≠ 54 → b ≠ 56 → Eqc S S1 b := by
  obtain ⟨_, _, _, ⟨s1, s2, s3⟩, _⟩ := h
  obtain ⟨g, g8⟩ := s3 i hi
  have ws := hw.2.2.2.2.2.1 i hi
  have hn2 := hw.1.2.2.1
  have w17 : aX A 17 i = 0 ∨ aX A 17 i = 1 := ws.2.2.2.2.2.2.2.2.2.2.2.2.2.2
  have hland : (aX A 10 i).toNatClampNeg < aN A 2 := by
    obtain ⟨l, hl, e⟩ := i32_nat ws.1 (by omega) ws.2.1
    rw [e, ofN_cl (by omega)]; exact hl
  have w5 := (hw.2.2.2.2.1 _ hland).1
  have q := q27 (N := N) (S := S) (b := 111 + i) (by omega) (by rw [g 7 (by omega)]; exact w17) (by rw [g8]; exact w5)
  refine ⟨_, q, ?_, ?_, fun j hj => ?_, fun j hj => ?_, fun b h1 h2 => ?_⟩
  · rw [g 0 (by omega)]; simp [giveW, mG, mGo]
  · simp [giveW, mG, mGo]
  · rw [g 1 (by omega), g 2 (by omega), g 3 (by omega), g 4 (by omega), g 5 (by omega), g 6 (by omega), g 7 (by omega), g8]
    unfold shipG giveW
    simp only [mG, mGo]
    match j, hj with
    | 0, _ => simp
    | 1, _ => simp
    | 2, _ => simp
    | 3, _ => simp
    | 4, _ => simp
    | 5, _ => simp
    | 6, _ => simp
    | 7, _ => simp
  · unfold giveW
    simp only [mG, mGo]
    rw [if_neg (by omega), if_neg (by omega), if_neg (by omega), if_neg (by omega), if_neg (by omega), if_neg (by omega), if_neg (by omega), if_neg (by omega)]
  · unfold giveW
    exact ((((((((Eqc_I h1).tr (Eqc_A h2)).tr (Eqc_A h2)).tr (Eqc_A h2)).tr (Eqc_A h2)).tr (Eqc_A h2)).tr (Eqc_A h2)).tr (Eqc_A h2)).tr (Eqc_A h2)
/-- kindBy: -/
theorem kindL_C (hN : 600 ≤ N) (oa : o_cv a) (hcv : cCvAt S A a s) (hv : WFv A) (hs : s < 4) (hG : ∀ j, j < 11 → ms_A S 56 j = G j) (hl : ms_I S 54 2 = land) (h3 : ms_I S 54 3 = -1) : ∀ m i n S', m + i = aN A (10 + s) → m < n → (∀ b, b ≠ 55 → Eqc S S' b) → ∃ S1, f29_L7 N a (fun (x2 : Int32) => (mb (pI 54 3 x2) fun _ => mret x2)) (fun (x2 : Int32) => (mret (-1))) n (Int32.ofNat i) S' = some (kindL (aE A s) G land m i, S1) ∧ ms_I S1 54 3 = kindL (aE A s) G land m i ∧ ms_I S1 54 2 = land ∧ ∀ b, b ≠ 54 → b ≠ 55 → Eqc S S1 b := by
  have ha : ∀ k, k ≤ 7 → a + k ≠ 55 := by rcases oa with rfl | rfl | rfl | rfl | rfl <;> intro k hk <;> omega
  obtain ⟨_, _, _, _, _, c5, _, _, _, cK, _, _⟩ := hcv
  obtain ⟨w6, _, wK, _⟩ := hv s hs
  intro m
  induction m with
  | zero =>
    intro i n S' hi hn hE
    obtain ⟨n, rfl⟩ : ∃ q, n = q + 1 := ⟨n - 1, by omega⟩
    have hge : Int32.ofNat i ≥ Int32.ofNat (aN A (10 + s)) := (ofN_le (by omega) (by omega)).2 (by omega)
    have e5 : ms_I S' a 5 = Int32.ofNat (aN A (10 + s)) := by rw [(hE a (by have := ha 0 (by omega); simpa using this)).1]; exact c5
    refine ⟨S', ?_, ?_, ?_, fun b h1 h2 => hE b h2⟩
    · rw [f29_L7]
      simp only [mE, e5, if_pos hge, kindL]
    · rw [(hE 54 (by decide)).1]; exact h3
    · rw [(hE 54 (by decide)).1]; exact hl
  | succ m ih =>
    intro i n S' hi hn hE
    obtain ⟨n, rfl⟩ : ∃ q, n = q + 1 := ⟨n - 1, by omega⟩
    have hge : ¬ Int32.ofNat i ≥ Int32.ofNat (aN A (10 + s)) := fun q => by have := (ofN_le (i := aN A (10 + s)) (j := i) (by omega) (by omega)).1 q; omega
    have e5 : ms_I S' a 5 = Int32.ofNat (aN A (10 + s)) := by rw [(hE a (by have := ha 0 (by omega); simpa using this)).1]; exact c5
    have h1 : inR (Int32.ofNat i) 6 := ofN_inR (by omega) (by omega)
    have h2 := ofN_cl (i := i) (by omega)
    obtain ⟨o1, o2, o3⟩ := wK i (by omega)
    have hseg : cSeg S' a (ms_A S' (a + 3) i) (ms_A S' (a + 4) i) (aE A s i) := by
      rw [(hE (a + 3) (ha 3 (by omega))).2.2.2.1, (hE (a + 4) (ha 4 (by omega))).2.2.2.1]
      exact cSeg_fr (cK i (by omega)) (fun b h1 h2 => hE b (by have := ha (b - a) (by omega); omega))
    obtain ⟨S1, e1, k1⟩ := q32 (N := N) (S := S') (G := G) (land := land) hN oa hseg o2 (Or.inl o1) (fun j hj => by rw [(hE 56 (by decide)).2.2.2.1]; exact hG j hj) (by rw [(hE 54 (by decide)).1]; exact hl)
    have hval : valE G land (kfC S') (aE A s i) = valE G land (fun _ => 0) (aE A s i) := by
      refine valE_congr (fun q hq _ => ?_)
      unfold leafV
      have hq0 := (o2 q hq).1
      have : kfC S' q.2 = 0 := by
        unfold kfC
        rw [(hE 54 (by decide)).1, h3, if_neg]
        intro e
        rw [← e] at hq0
        exact absurd hq0 (by decide)
      rw [this]
    rw [hval] at e1
    rw [f29_L7]
    simp only [mE, e5, if_neg hge, h1, h2]
    have e1b : ∀ {β : Type} {f : Int32 → mM β}, mb (f32 N a (ms_A S' (a + 3) i) (ms_A S' (a + 4) i)) f S' = f (valE G land (fun _ => 0) (aE A s i)) S1 := by intro β f; simp only [mb, e1]
    rw [e1b]
    by_cases hz : valE G land (fun _ => 0) (aE A s i) = 0
    · obtain ⟨S2, e2, r1, r2, k2⟩ := ih (i + 1) n S1 (by omega) (by omega) (fun b hb => (hE b hb).tr (k1 b hb))
      refine ⟨S2, ?_, ?_, r2, k2⟩
      · rw [if_pos hz, ofN_s, kindL, if_pos hz]; exact e2
      · rw [kindL, if_pos hz]; exact r1
    · refine ⟨ms_setI S1 54 3 (Int32.ofNat i), ?_, ?_, ?_, fun b h1 h2 => ((hE b h2).tr (k1 b h2)).tr (Eqc_I h1)⟩
      · rw [if_neg hz, kindL, if_neg hz]; rfl
      · rw [kindL, if_neg hz]; simp [mG]
      · have : ms_I (ms_setI S1 54 3 (Int32.ofNat i)) 54 2 = ms_I S1 54 2 := by simp [mG]
        rw [this, (k1 54 (by decide)).1, (hE 54 (by decide)).1]; exact hl
theorem q29 (hN : 600 ≤ N) (oa : o_cv a) (hcv : cCvAt S A a s) (hv : WFv A) (hs : s < 4) (hG : ∀ j, j < 11 → ms_A S 56 j = G j) (hl : ms_I S 54 2 = land) : ∃ S1, f29 N a S = some (kindL (aE A s) G land (aN A (10 + s)) 0, S1) ∧ ms_I S1 54 3 = kindL (aE A s) G land (aN A (10 + s)) 0 ∧ ms_I S1 54 2 = land ∧ ∀ b, b ≠ 54 → b ≠ 55 → Eqc S S1 b := by
  have ha : ∀ b, a ≤ b → b ≤ a + 7 → b ≠ 54 := by rcases oa with rfl | rfl | rfl | rfl | rfl <;> intro k h1 h2 <;> omega
  have hS : ∀ b, b ≠ 54 → Eqc S (ms_setI S 54 3 (-1)) b := fun b hb => Eqc_I hb
  obtain ⟨S1, e1, r1, r2, k1⟩ := kindL_C (N := N) (S := ms_setI S 54 3 (-1)) (G := G) (land := land) hN oa (cCvAt_fr hcv (fun b h1 h2 => hS b (ha b h1 h2))) hv hs (fun j hj => by rw [(hS 56 (by decide)).2.2.2.1]; exact hG j hj) (by simpa [mG] using hl) (by simp [mG]) (aN A (10 + s)) 0 N (ms_setI S 54 3 (-1)) (by omega) (by have := (hv s hs).1; omega) (fun _ _ => Eqc.rf)
  refine ⟨S1, ?_, r1, r2, fun b h1 h2 => (hS b h1).tr (k1 b h1 h2)⟩
  unfold f29
  simp only [mE]
  exact e1
def ansKind (A : Ab) (s i : Int32) : Int32 := if (0 ≤ s ∧ s < 4) ∧ 0 ≤ i ∧ i < Int32.ofNat (aN A 3) then kindL (aE A s.toNatClampNeg) (shipG A i.toNatClampNeg) (aX A 10 i.toNatClampNeg) (aN A (10 + s.toNatClampNeg)) 0 else -1
theorem kindL_congr {E : Nat → List (Nat × Int32)} {G' : Nat → Int32} : ∀ m i, (∀ k, i ≤ k → k < i + m → ∀ q ∈ E k, isLeaf q.1 = true → leafV G land (fun _ => 0) q = leafV G' land (fun _ => 0) q) → kindL E G land m i = kindL E G' land m i := by
  intro m
  induction m with
  | zero => intro i _; rfl
  | succ m ih =>
    intro i h
    rw [kindL, kindL, valE_congr (h i (by omega) (by omega)), ih (i + 1) (fun k h1 h2 => h k (by omega) (by omega))]
theorem kindG (hv : WFv A) (hs : s < 4) {G' : Nat → Int32} (h : ∀ j, j < 8 → G j = G' j) : kindL (aE A s) G land (aN A (10 + s)) 0 = kindL (aE A s) G' land (aN A (10 + s)) 0 := by
  refine kindL_congr _ _ (fun k _ hk q hq hlf => ?_)
  obtain ⟨o1, o2, o3⟩ := (hv s hs).2.2.1 k (by omega)
  have := o3 q hq
  simp only [isLeaf, Bool.or_eq_true, beq_iff_eq, Bool.and_eq_true, decide_eq_true_eq] at hlf
  unfold leafV
  by_cases h3 : q.1 = 3
  · simp [h3]
  · by_cases h111 : q.1 = 111
    · simp [h111]
    · by_cases h112 : q.1 = 112
      · simp [h112]
      · rw [if_neg h3, if_neg h111, if_neg h112, if_neg h3, if_neg h111, if_neg h112]
        exact h _ (by omega)
end KDC
