/-! the ledger's pieces: what a passage gives, may lines, dues, tons inside -/
/-- what a passage gives: fact f -/
def passG (A : Ab) (f : Nat) (j : Nat) : Int32 := if j < 8 then shipG A (aX A 21 f).toNatClampNeg j else if j = 8 then aX A 22 f else if j = 9 then aX A 23 f else aX A 20 f
def gst (A : Ab) (i : Nat) : Bool := decide (aX A 17 i ≠ 0 ∧ aX A 5 (aX A 10 i).toNatClampNeg = 0)
/-- tons of guests in the north: of the first n ships -/
def tonsF (A : Ab) (I : Nat → Int32) (land : Int32) : Nat → Int32
  | 0 => 0
  | n + 1 => if I n ≠ 0 ∧ gst A n = true ∧ (land = -1 ∨ aX A 10 n = land) then tonsF A I land n + aX A 11 n else tonsF A I land n
section JUD
variable {N : Nat} {S : ms_S} {A : Ab} {G : Nat → Int32} {land : Int32} {a s : Nat}
theorem q28 {n m d : Int32} (hn : n = 0 ∨ n = 1) : f28 N n m d S = some ((), ms_setA (ms_setA (ms_setA S 56 8 n) 56 9 m) 56 10 d) := by
  unfold f28
  simp only [mE]
  rcases hn with h | h
  · rw [if_pos h, E25 (j := 8) (w := 108) (by omega) rfl, E25 (j := 9) (w := 109) (by omega) rfl, E25 (j := 10) (w := 110) (by omega) rfl, h]; rfl
  · rw [if_neg (by rw [h]; decide), E25 (j := 8) (w := 108) (by omega) rfl, E25 (j := 9) (w := 109) (by omega) rfl, E25 (j := 10) (w := 110) (by omega) rfl, h]; rfl
theorem mayL_C {w : Int32} (hN : 600 ≤ N) (oa : o_cv a) (hcv : cCvAt S A a s) (hv : WFv A) (hs : s < 4) (hG : ∀ j, j < 11 → ms_A S 56 j = G j) (hl : ms_I S 54 2 = land) : ∀ m i n S', m + i = aN A (20 + s) → m < n → (∀ b, b ≠ 55 → Eqc S S' b) → ∃ S1, f30_L2 N a (fun _ x3 => mret x3) (fun _ _ => mret (-1)) n w (Int32.ofNat i) S' = some (mayL (aE A s) (aX A (60 + s)) G land (kfC S) w m i, S1) ∧ ∀ b, b ≠ 55 → Eqc S S1 b := by
  have ha : ∀ k, k ≤ 7 → a + k ≠ 55 := by rcases oa with rfl | rfl | rfl | rfl | rfl <;> intro k hk <;> omega
  obtain ⟨_, _, _, _, _, _, c10, _, c9, _, cM, _⟩ := hcv
  obtain ⟨_, w8, _, wM, _⟩ := hv s hs
  intro m
  induction m with
  | zero =>
    intro i n S' hi hn hE
    obtain ⟨n, rfl⟩ : ∃ q, n = q + 1 := ⟨n - 1, by omega⟩
    have hge : Int32.ofNat i ≥ Int32.ofNat (aN A (20 + s)) := (ofN_le (by omega) (by omega)).2 (by omega)
    have e5 : ms_I S' a 10 = Int32.ofNat (aN A (20 + s)) := by rw [(hE a (by have := ha 0 (by omega); simpa using this)).1]; exact c10
    refine ⟨S', ?_, hE⟩
    rw [f30_L2]
    simp only [mE, e5, if_pos hge, mayL]
  | succ m ih =>
    intro i n S' hi hn hE
    obtain ⟨n, rfl⟩ : ∃ q, n = q + 1 := ⟨n - 1, by omega⟩
    have hge : ¬ Int32.ofNat i ≥ Int32.ofNat (aN A (20 + s)) := fun q => by have := (ofN_le (i := aN A (20 + s)) (j := i) (by omega) (by omega)).1 q; omega
    have e5 : ms_I S' a 10 = Int32.ofNat (aN A (20 + s)) := by rw [(hE a (by have := ha 0 (by omega); simpa using this)).1]; exact c10
    have h1 : inR (Int32.ofNat i) 8 := ofN_inR (by omega) (by omega)
    have h2 := ofN_cl (i := i) (by omega)
    have e9 : ms_A S' (a + 5) i = aX A (60 + s) i := by rw [(hE (a + 5) (ha 5 (by omega))).2.2.2.1]; exact c9 i (by omega)
    obtain ⟨o1, o2⟩ := wM i (by omega)
    rw [f30_L2]
    simp only [mE, e5, if_neg hge, h1, h2, e9]
    by_cases hc : aX A (60 + s) i = w
    · rw [if_neg (fun q => q hc)]
      have hseg : cSeg S' a (ms_A S' (a + 6) i) (ms_A S' (a + 7) i) (aE A s (6 + i)) := by
        rw [(hE (a + 6) (ha 6 (by omega))).2.2.2.1, (hE (a + 7) (ha 7 (by omega))).2.2.2.1]
        exact cSeg_fr (cM i (by omega)) (fun b h1 h2 => hE b (by have := ha (b - a) (by omega); omega))
      obtain ⟨S1, e1, k1⟩ := q32 (N := N) (S := S') (G := G) (land := land) hN oa hseg o2 (Or.inl o1) (fun j hj => by rw [(hE 56 (by decide)).2.2.2.1]; exact hG j hj) (by rw [(hE 54 (by decide)).1]; exact hl)
      have kfe : kfC S' = kfC S := by unfold kfC; rw [(hE 54 (by decide)).1]
      rw [kfe] at e1
      have e1b : ∀ {β : Type} {f : Int32 → mM β}, mb (f32 N a (ms_A S' (a + 6) i) (ms_A S' (a + 7) i)) f S' = f (valE G land (kfC S) (aE A s (6 + i))) S1 := by intro β f; simp only [mb, e1]
      rw [e1b]
      by_cases hz : valE G land (kfC S) (aE A s (6 + i)) = 0
      · obtain ⟨S2, e2, k2⟩ := ih (i + 1) n S1 (by omega) (by omega) (fun b hb => (hE b hb).tr (k1 b hb))
        refine ⟨S2, ?_, k2⟩
        rw [if_pos hz, ofN_s, mayL, if_neg (fun q => q.2 hz)]; exact e2
      · refine ⟨S1, ?_, fun b hb => (hE b hb).tr (k1 b hb)⟩
        rw [if_neg hz, mayL, if_pos ⟨hc, hz⟩]; rfl
    · rw [if_pos hc]
      obtain ⟨S2, e2, k2⟩ := ih (i + 1) n S' (by omega) (by omega) hE
      refine ⟨S2, ?_, k2⟩
      rw [ofN_s, mayL, if_neg (fun q => hc q.1)]; exact e2
theorem q30 {w : Int32} (hN : 600 ≤ N) (oa : o_cv a) (hcv : cCvAt S A a s) (hv : WFv A) (hs : s < 4) (hG : ∀ j, j < 11 → ms_A S 56 j = G j) (hl : ms_I S 54 2 = land) : ∃ S1, f30 N a w S = some (mayL (aE A s) (aX A (60 + s)) G land (kfC S) w (aN A (20 + s)) 0, S1) ∧ ∀ b, b ≠ 55 → Eqc S S1 b :=
  mayL_C hN oa hcv hv hs hG hl (aN A (20 + s)) 0 N S (by omega) (by have := (hv s hs).2.1; omega) (fun _ _ => Eqc.rf)
def max0 (v : Int32) : Int32 := if 0 < v then v else 0
theorem q31 (hN : 600 ≤ N) (oa : o_cv a) (hcv : cCvAt S A a s) (hv : WFv A) (hs : s < 4) (hG : ∀ j, j < 11 → ms_A S 56 j = G j) (hl : ms_I S 54 2 = land) : ∃ S1, f31 N a S = some (max0 (valE G land (kfC S) (aE A s 14)), S1) ∧ ∀ b, b ≠ 55 → Eqc S S1 b := by
  obtain ⟨_, _, _, _, _, _, _, _, _, _, _, cD⟩ := hcv
  obtain ⟨_, _, _, _, w1, w2, _⟩ := hv s hs
  obtain ⟨S1, e1, k1⟩ := q32 (N := N) (S := S) (G := G) (land := land) hN oa cD w2 w1 hG hl
  refine ⟨S1, ?_, k1⟩
  unfold f31
  have e1b : ∀ {β : Type} {f : Int32 → mM β}, mb (f32 N a (ms_I S a 15) (ms_I S a 16)) f S = f (valE G land (kfC S) (aE A s 14)) S1 := by intro β f; simp only [mb, e1]
  simp only [mE]
  rw [e1b]; rfl
/-- tons inside, in the class: all twenty, of which those behind the count are in the south -/
theorem tonsL_C {I : Nat → Int32} (h : cShip S A) (hn3 : aN A 3 ≤ 20) (h0 : ms_R S 57 1 = some 39) (hI : ∀ i, i < 20 → ms_A S 62 i = I i) (hz : ∀ i, aN A 3 ≤ i → I i = 0) : ∀ m i n x, m + i = 20 → m < n → x = tonsF A I land (min i (aN A 3)) → f43_L4 N (fun _ x2 _ => mret x2) n land x (Int32.ofNat i) S = some (tonsF A I land (aN A 3), S) := by
  obtain ⟨s1, s2, s3⟩ := h
  intro m
  induction m with
  | zero =>
    intro i n x hi hn hx
    obtain ⟨n, rfl⟩ : ∃ q, n = q + 1 := ⟨n - 1, by omega⟩
    have e : i = 20 := by omega
    subst e
    rw [f43_L4, if_pos (by decide), hx, Nat.min_eq_right hn3]; rfl
  | succ m ih =>
    intro i n x hi hn hx
    obtain ⟨n, rfl⟩ : ∃ q, n = q + 1 := ⟨n - 1, by omega⟩
    have hge : ¬ Int32.ofNat i ≥ 20 := fun q => by have := (ofN_le (i := 20) (j := i) (by omega) (by omega)).1 q; omega
    have h1 : inR (Int32.ofNat i) 20 := ofN_inR (by omega) (by omega)
    have h2 := ofN_cl (i := i) (by omega)
    rw [f43_L4, if_neg hge]
    simp only [mE, h1, h2, hI i (by omega)]
    by_cases hlt : i < aN A 3
    · have em : min i (aN A 3) = i := by omega
      have em1 : min (i + 1) (aN A 3) = i + 1 := by omega
      rw [em] at hx
      obtain ⟨g, g8⟩ := s3 i hlt
      have q70' : ∀ {β : Type} {f : Int32 → mM β}, mb (f70 N (111 + i)) f S = f (if gst A i = true then 1 else 0) S := by
        intro β f
        have e : (ms_I S (111 + i) 7 ≠ 0 ∧ ms_I S (111 + i) 8 = 0) ↔ gst A i = true := by
          rw [g 7 (by omega), g8]
          unfold gst
          rw [decide_eq_true_eq]
        have : f70 N (111 + i) S = some (if gst A i = true then 1 else 0, S) := by
          rw [q70]
          by_cases hg : gst A i = true
          · rw [if_pos hg, if_pos (e.2 hg)]
          · rw [if_neg hg, if_neg (fun q => hg (e.1 q))]
        simp only [mb, this]
      have ship : ∀ {β : Type} {f : Nat → mM β}, mb (gRo (isA 39) 57 1) (fun _ => mb (lQo isSh 39 20 (Int32.ofNat i)) f) S = f (111 + i) S := by
        intro β f
        rw [EgRo h0 rfl, ElQo h1 (by rw [h2]; exact s2 i (by omega)) (isSh_o (by omega))]
      by_cases hi0 : I i = 0
      · rw [if_pos hi0, ofN_s]
        exact ih (i + 1) n x (by omega) (by omega) (by rw [em1, tonsF, if_neg (fun q => q.1 hi0)]; exact hx)
      · rw [if_neg hi0, ship, q70']
        by_cases hg : gst A i = true
        · rw [if_pos hg, if_neg (by decide)]
          by_cases hl : land = -1
          · rw [if_pos hl, ship]
            simp only [mE, g 1 (by omega), ofN_s]
            exact ih (i + 1) n _ (by omega) (by omega) (by rw [em1, tonsF, if_pos ⟨hi0, hg, Or.inl hl⟩, hx])
          · rw [if_neg hl, ship]
            simp only [mE, g 0 (by omega)]
            by_cases hll : aX A 10 i = land
            · have hll2 : ¬ (aX A (10 + 0) i ≠ land) := fun q => q hll
              rw [if_neg hll2, ship]
              simp only [mE, g 1 (by omega), ofN_s]
              exact ih (i + 1) n _ (by omega) (by omega) (by rw [em1, tonsF, if_pos ⟨hi0, hg, Or.inr hll⟩, hx])
            · have hll2 : aX A (10 + 0) i ≠ land := hll
              rw [if_pos hll2, ofN_s]
              exact ih (i + 1) n x (by omega) (by omega) (by rw [em1, tonsF, if_neg (fun q => q.2.2.elim hl hll)]; exact hx)
        · rw [if_neg hg, if_pos rfl, ofN_s]
          exact ih (i + 1) n x (by omega) (by omega) (by rw [em1, tonsF, if_neg (fun q => hg q.2.1)]; exact hx)
    · have em : min i (aN A 3) = aN A 3 := by omega
      have em1 : min (i + 1) (aN A 3) = aN A 3 := by omega
      rw [em] at hx
      rw [if_pos (hz i (by omega)), ofN_s]
      exact ih (i + 1) n x (by omega) (by omega) (by rw [em1]; exact hx)
theorem q43 {I : Nat → Int32} (hN : 30 ≤ N) (h : cShip S A) (hn3 : aN A 3 ≤ 20) (h0 : ms_R S 57 1 = some 39) (hI : ∀ i, i < 20 → ms_A S 62 i = I i) (hz : ∀ i, aN A 3 ≤ i → I i = 0) : f43 N land S = some (tonsF A I land (aN A 3), S) :=
  tonsL_C h hn3 h0 hI hz 20 0 N 0 (by omega) (by omega) (by simp [tonsF])
/-- guests, tons inside in the reference -/
theorem q221 {i : Nat} (h : mBase S A) (hw : WF0 A) (hi : i < aN A 3) : f221 N (Int32.ofNat i) S = some (if gst A i = true then 1 else 0, S) := by
  obtain ⟨_, _, ⟨b, hb, hB, ⟨_, _, _, _, hld⟩⟩, ⟨s1, s2⟩, _⟩ := h
  have hn3 : aN A 3 ≤ 20 := hw.1.2.2.2.1
  have hn2 := hw.1.2.2.1
  have ws := hw.2.2.2.2.2.1 i hi
  obtain ⟨ld, hl, eld⟩ := i32_nat ws.1 (by omega) ws.2.1
  have h1 : inR (Int32.ofNat i) 20 := ofN_inR (by omega) (by omega)
  have h2 := ofN_cl (i := i) (by omega)
  have a0 : ms_A S 158 i = Int32.ofNat ld := (s2 i hi 0 (by omega)).trans eld
  have a7 : ms_A S 165 i = aX A 17 i := s2 i hi 7 (by omega)
  have e : 8 * Int32.ofNat b + Int32.ofNat ld = Int32.ofNat (8 * b + ld) := by clear s2 hld ws hw; grind [i32_of]
  have h3 : inR (Int32.ofNat (8 * b + ld)) 16 := ofN_inR (by omega) (by omega)
  have hg : gst A i = decide (aX A 17 i ≠ 0 ∧ aX A 5 ld = 0) := by unfold gst; rw [eld, ofN_cl (by omega)]
  unfold f221
  simp only [mE, h1, h2, a7, hB, a0, e, h3, ofN_cl (i := 8 * b + ld) (by omega), (hld ld hl).1]
  rw [hg]
  by_cases c1 : aX A 17 i = 0
  · rw [if_pos c1, if_neg (by rw [decide_eq_true_eq]; exact fun q => q.1 c1)]; simp only [mE, true_or]
  · rw [if_neg c1]
    by_cases c2 : aX A 5 ld = 0
    · rw [if_neg (fun q => q c2), if_pos (decide_eq_true ⟨c1, c2⟩)]; simp only [mE, or_true]
    · rw [if_pos c2, if_neg (by rw [decide_eq_true_eq]; exact fun q => c2 q.2)]; simp only [mE, true_or]
theorem tonsL_M {I : Nat → Int32} (h : mBase S A) (hw : WF0 A) (hI : ∀ i, i < aN A 3 → ms_A S 179 i = I i) (hl0 : land = -1 ∨ 0 ≤ land) : ∀ m i n, m + i = aN A 3 → m < n → f222_L4 N (fun _ x2 _ => mret x2) n land (tonsF A I land i) (Int32.ofNat i) S = some (tonsF A I land (aN A 3), S) := by
  have hn3 : aN A 3 ≤ 20 := hw.1.2.2.2.1
  have hb0 := h
  obtain ⟨_, _, _, ⟨s1, s2⟩, _⟩ := h
  intro m
  induction m with
  | zero =>
    intro i n hi hn
    obtain ⟨n, rfl⟩ : ∃ q, n = q + 1 := ⟨n - 1, by omega⟩
    have e : i = aN A 3 := by omega
    subst e
    rw [f222_L4]
    simp only [mE, s1]
    rw [if_pos ((ofN_le (by omega) (by omega)).2 (Nat.le_refl _))]
  | succ m ih =>
    intro i n hi hn
    obtain ⟨n, rfl⟩ : ∃ q, n = q + 1 := ⟨n - 1, by omega⟩
    have hge : ¬ Int32.ofNat i ≥ Int32.ofNat (aN A 3) := fun q => by have := (ofN_le (i := aN A 3) (j := i) (by omega) (by omega)).1 q; omega
    have h1 : inR (Int32.ofNat i) 20 := ofN_inR (by omega) (by omega)
    have h2 := ofN_cl (i := i) (by omega)
    have a0 : ms_A S 158 i = aX A 10 i := s2 i (by omega) 0 (by omega)
    have a1 : ms_A S 159 i = aX A 11 i := s2 i (by omega) 1 (by omega)
    have m221 : ∀ {β : Type} {f : Int32 → mM β}, mb (f221 N (Int32.ofNat i)) f S = f (if gst A i = true then 1 else 0) S := by intro β f; simp only [mb, q221 hb0 hw (show i < aN A 3 by omega)]
    have hr := ih (i + 1) n (by omega) (by omega)
    have z0 : ∀ x : Int32, x + 0 = x := fun x => by simp
    rw [f222_L4]
    simp only [mE, s1, if_neg hge, h1, h2, hI i (by omega), m221, a0, a1, ofN_s, z0]
    rw [tonsF] at hr
    by_cases hi0 : I i = 0
    · rw [if_pos hi0]
      rw [if_neg (fun q => q.1 hi0)] at hr; exact hr
    · rw [if_neg hi0]
      by_cases hg : gst A i = true
      · rw [if_pos hg, if_neg (by decide)]
        by_cases hl : land < 0
        · have hlm : land = -1 := by rcases hl0 with h | h; exact h; exact absurd hl (Int32.not_lt.mpr h)
          rw [if_pos hl]
          rw [if_pos ⟨hi0, hg, Or.inl hlm⟩] at hr; exact hr
        · have hlm : ¬ land = -1 := fun q => hl (by rw [q]; decide)
          rw [if_neg hl]
          by_cases hll : aX A 10 i = land
          · rw [if_neg (fun q => q hll)]
            rw [if_pos ⟨hi0, hg, Or.inr hll⟩] at hr; exact hr
          · rw [if_pos hll]
            rw [if_neg (fun q => q.2.2.elim hlm hll)] at hr; exact hr
      · rw [if_neg hg, if_pos rfl]
        rw [if_neg (fun q => hg q.2.1)] at hr; exact hr
theorem q222 {I : Nat → Int32} (hN : 30 ≤ N) (h : mBase S A) (hw : WF0 A) (hI : ∀ i, i < aN A 3 → ms_A S 179 i = I i) (hl0 : land = -1 ∨ 0 ≤ land) : f222 N land S = some (tonsF A I land (aN A 3), S) :=
  tonsL_M h hw hI hl0 (aN A 3) 0 N (by omega) (by have := hw.1.2.2.2.1; omega)
end JUD
