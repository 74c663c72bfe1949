/-! strait: the reference -/
theorem byt0 : ∀ t : Fin 256, decide (vp_nar .byte (vp_nar .byte (Int32.ofNat t.1)) &&& 255 = Int32.ofNat t.1) = true := by decide +kernel
theorem byt {x : Int32} (h1 : 0 ≤ x) (h2 : x ≤ 255) : vp_nar .byte (vp_nar .byte x) &&& 255 = x := by
  obtain ⟨t, ht, rfl⟩ := i32_nat (x := x) (n := 256) h1 (by omega) (by generalize x = z at *; grind)
  exact of_decide_eq_true (byt0 ⟨t, ht⟩)
section SM4
variable {N : Nat} {S : ms_S} {A : Ab}
theorem copyL {K : Int32 → mM Unit} {Ln : Nat} {T : Nat → Int32} (hL : Ln ≤ 1200) : ∀ m i n (S : ms_S), m + i = Ln → m < n → ms_I S 131 3 = Int32.ofNat Ln → (∀ q, q < Ln → ms_A S 132 q = T q) → (∀ q, q < i → ms_A S 133 q = vp_nar .byte (T q)) → ∃ S1, f164_L20 N K n (Int32.ofNat i) S = K (Int32.ofNat Ln) S1 ∧ (∀ q, q < Ln → ms_A S1 133 q = vp_nar .byte (T q)) ∧ ∀ b, b ≠ 133 → Eqc S S1 b := by
  intro m
  induction m with
  | zero =>
    intro i n S hi hn h3 hT hd
    obtain ⟨n, rfl⟩ : ∃ q, n = q + 1 := ⟨n - 1, by omega⟩
    have e : i = Ln := by omega
    subst e
    refine ⟨S, ?_, hd, fun _ _ => Eqc.rf⟩
    rw [f164_L20]
    simp only [mE, h3]
    rw [if_pos ((ofN_le (by omega) (by omega)).2 (Nat.le_refl _))]
  | succ m ih =>
    intro i n S hi hn h3 hT hd
    obtain ⟨n, rfl⟩ : ∃ q, n = q + 1 := ⟨n - 1, by omega⟩
    have i1 : inR (Int32.ofNat i) 1220 := ofN_inR (by omega) (by omega)
    have i1' : inR (Int32.ofNat i) 1200 := ofN_inR (by omega) (by omega)
    have i2 := ofN_cl (i := i) (by omega)
    obtain ⟨S1, e1, r1, o1⟩ := ih (i + 1) n (ms_setA S 133 i (vp_nar .byte (T i))) (by omega) (by omega) (by simp only [mGo]; exact h3) (fun q hq => by rw [(Eqc_A (by decide)).2.2.2.1]; exact hT q hq) (fun q hq => by
      simp only [mG, true_and]
      by_cases e : q = i
      · rw [if_pos e, e]
      · rw [if_neg e]; exact hd q (by omega))
    refine ⟨S1, ?_, r1, fun b hb => (Eqc_A hb).tr (o1 b hb)⟩
    rw [f164_L20]
    simp only [mE, h3]
    rw [if_neg (fun q => by have := (ofN_le (i := Ln) (j := i) (by omega) (by omega)).1 q; omega)]
    simp only [mE, i1, i1', i2, hT i (by omega), ofN_s]
    exact e1
theorem q164 (hN : 1300 ≤ N) (h : mBase S A) (hw : WF0 A) : ∃ S1, f164 N S = some ((), S1) ∧ TxM S1 (aX A 0) (aN A 0) ∧ ms_I S1 131 2 = 0 ∧ ms_I S1 131 4 = 0 ∧ ms_I S1 131 5 = -1 ∧ ms_I S1 131 7 = Int32.ofNat 0 ∧ (∀ j, j ≠ 2 → ¬ (3 ≤ j ∧ j ≤ 9) → ms_I S1 131 j = ms_I S 131 j) ∧ ∀ b, b ≠ 131 → b ≠ 133 → Eqc S S1 b := by
  have hL : aN A 0 ≤ 1200 := hw.1.1
  have X0 : ∃ Y, Y = ms_setI (ms_setI (ms_setI S 131 4 0) 131 5 (-1)) 131 3 (Int32.ofNat (aN A 0)) := ⟨_, rfl⟩
  obtain ⟨Y, hY⟩ := X0
  have y2 : ms_I (ms_setI (ms_setI S 131 4 0) 131 5 (-1)) 131 2 = Int32.ofNat (aN A 0) := by simp [mG]; exact h.1.1
  have oY : ∀ b, b ≠ 131 → Eqc S Y b := fun b hb => by rw [hY]; exact ((Eqc_I hb).tr (Eqc_I hb)).tr (Eqc_I hb)
  obtain ⟨S1, e1, r1, o1⟩ := copyL (N := N) (K := fun (x1 : Int32) => (mb (pI 131 2 0) fun _ => mb (pI 131 7 0) fun _ => mret ())) (T := fun q => vp_nar .byte (aX A 0 q)) hL (aN A 0) 0 N Y (by omega) (by omega) (by rw [hY]; simp [mG]) (fun q hq => by rw [(oY 132 (by decide)).2.2.2.1]; exact h.1.2 q hq) (fun q hq => absurd hq (by omega))
  have W0 : ∃ W, W = ms_setI (ms_setI S1 131 2 0) 131 7 0 := ⟨_, rfl⟩
  obtain ⟨W, hW⟩ := W0
  have wI : ∀ j, j ≠ 2 → j ≠ 7 → ms_I W 131 j = ms_I Y 131 j := fun j h1 h2 => by rw [hW]; simp [mG, h1, h2]; rw [(o1 131 (by decide)).1]
  refine ⟨W, ?_, ⟨?_, fun i hi => ?_⟩, by rw [hW]; simp [mG], ?_, ?_, by rw [hW]; simp [mG], fun j h1 h2 => ?_, fun b h1 h2 => ?_⟩
  · unfold f164
    simp only [mE, y2, ← hY]
    refine e1.trans ?_
    simp only [mE, ← hW]
  · rw [wI 3 (by decide) (by decide), hY]; simp [mG]
  · rw [hW]
    simp only [mGo]
    rw [r1 i hi]
    obtain ⟨x1, x2⟩ := hw.2.2.1 i hi
    exact byt x1 x2
  · rw [wI 4 (by decide) (by decide), hY]; simp [mG]
  · rw [wI 5 (by decide) (by decide), hY]; simp [mG]
  · rw [wI j h1 (by omega), hY]
    simp only [mG, true_and, if_neg (show ¬ j = 3 by omega), if_neg (show ¬ j = 5 by omega), if_neg (show ¬ j = 4 by omega)]
  · rw [hW]
    exact (((oY b h1).tr (o1 b h2)).tr (Eqc_I h1)).tr (Eqc_I h1)
/-- a shelf of the reference, empty -/
def ClrM (S : ms_S) (s : Nat) : Prop := ms_A S 143 s = 0 ∧ ms_A S 144 s = 0 ∧ ms_A S 145 s = 0 ∧ ms_A S 156 s = 0 ∧ ms_A S 147 (4 * s) = 9999 ∧ ms_A S 147 (4 * s + 1) = 9999 ∧ ms_A S 147 (4 * s + 2) = 99 ∧ ms_A S 147 (4 * s + 3) = 0
def offC (s : Nat) (S S1 : ms_S) : Prop := (∀ b, ¬ (143 ≤ b ∧ b ≤ 145) → b ≠ 147 → b ≠ 155 → b ≠ 156 → Eqc S S1 b) ∧ (∀ b i, (143 ≤ b ∧ b ≤ 145) ∨ b = 156 → i ≠ s → ms_A S1 b i = ms_A S b i) ∧ (∀ i, ¬ (4 * s ≤ i ∧ i < 4 * s + 4) → ms_A S1 147 i = ms_A S 147 i ∧ ms_A S1 155 i = ms_A S 155 i)
theorem offC.wr {s b i : Nat} {S : ms_S} {v : Int32} (h : (((143 ≤ b ∧ b ≤ 145) ∨ b = 156) ∧ i = s) ∨ ((b = 147 ∨ b = 155) ∧ 4 * s ≤ i ∧ i < 4 * s + 4)) : offC s S (ms_setA S b i v) := by
  refine ⟨fun c h1 h2 h3 h4 => Eqc_A (by omega), fun c j h1 h2 => ?_, fun j hj => ⟨?_, ?_⟩⟩
  · simp only [mG]; rw [if_neg (by omega)]
  · simp only [mG]; rw [if_neg (by omega)]
  · simp only [mG]; rw [if_neg (by omega)]
theorem offC.tr {s : Nat} {S S1 S2 : ms_S} (h : offC s S S1) (q : offC s S1 S2) : offC s S S2 := ⟨fun b h1 h2 h3 h4 => (h.1 b h1 h2 h3 h4).tr (q.1 b h1 h2 h3 h4), fun b i h1 h2 => (q.2.1 b i h1 h2).trans (h.2.1 b i h1 h2), fun i hi => ⟨((q.2.2 i hi).1).trans (h.2.2 i hi).1, ((q.2.2 i hi).2).trans (h.2.2 i hi).2⟩⟩
theorem q174 {s : Nat} {S : ms_S} (hN : 20 ≤ N) (hs : s ≤ 4) : ∃ S1, f174 N (Int32.ofNat s) S = some ((), S1) ∧ ClrM S1 s ∧ (∀ k, k < 4 → ms_A S1 155 (4 * s + k) = 0) ∧ offC s S S1 := by
  have s1 : inR (Int32.ofNat s) 5 := ofN_inR (by omega) (by omega)
  have s2 := ofN_cl (i := s) (by omega)
  have e4 : ∀ k, 4 * Int32.ofNat s + Int32.ofNat k = Int32.ofNat (4 * s + k) := fun k => by rw [show (4 : Int32) = Int32.ofNat 4 from rfl, ofN_mul, ofN_add]
  have j1 : ∀ k, k < 4 → inR (Int32.ofNat (4 * s + k)) 20 := fun k hk => ofN_inR (by omega) (by omega)
  have j2 : ∀ k, k < 4 → (Int32.ofNat (4 * s + k)).toNatClampNeg = 4 * s + k := fun k hk => ofN_cl (by omega)
  obtain ⟨n, rfl⟩ : ∃ n, N = n + 5 := ⟨N - 5, by omega⟩
  have st : ∀ (k f : Nat) (v : Int32) (S' : ms_S), k < 4 → v = (if k < 2 then 9999 else if k = 2 then 99 else 0) → f174_L30 (n + 5) (fun (x1 : Int32) (x2 : Int32) => (mret ())) (f + 1) (Int32.ofNat s) (Int32.ofNat k) S' = f174_L30 (n + 5) (fun (x1 : Int32) (x2 : Int32) => (mret ())) f (Int32.ofNat s) (Int32.ofNat (k + 1)) (ms_setA (ms_setA S' 147 (4 * s + k) v) 155 (4 * s + k) 0) := by
    intro k f v S' hk hv
    rw [f174_L30]
    simp only [mE, e4]
    rw [if_neg (fun q => by have := (ofN_le (i := 4) (j := k) (by omega) (by omega)).1 q; omega)]
    by_cases h2 : k < 2
    · rw [if_pos h2] at hv
      rw [if_neg (fun q => by have := (ofN_le (i := 2) (j := k) (by omega) (by omega)).1 q; omega)]
      simp only [mE, j1 k hk, j2 k hk, vpb (Or.inl rfl), ofN_s, ← hv]
    · rw [if_neg h2] at hv
      have hge : Int32.ofNat k ≥ 2 := (ofN_le (i := 2) (by omega) (by omega)).2 (by omega)
      rw [if_pos hge]
      by_cases h22 : k = 2
      · rw [if_pos h22] at hv
        rw [if_neg (fun q => q (by rw [h22]; rfl))]
        simp only [mE, j1 k hk, j2 k hk, vpb (Or.inl rfl), ofN_s, ← hv]
      · rw [if_neg h22] at hv
        have hne : Int32.ofNat k ≠ 2 := fun q => h22 ((ofN_eq (j := 2) (by omega) (by omega)).1 q)
        rw [if_pos hne, hv]
        simp only [mE, j1 k hk, j2 k hk, vpb (Or.inl rfl), ofN_s]
  have Y0 : ∃ Y, Y = ms_setA (ms_setA (ms_setA (ms_setA S 143 s 0) 144 s 0) 145 s 0) 156 s 0 := ⟨_, rfl⟩
  obtain ⟨Y, hY⟩ := Y0
  have Z0 : ∃ Z, Z = ms_setA (ms_setA (ms_setA (ms_setA (ms_setA (ms_setA (ms_setA (ms_setA Y 147 (4 * s + 0) 9999) 155 (4 * s + 0) 0) 147 (4 * s + 1) 9999) 155 (4 * s + 1) 0) 147 (4 * s + 2) 99) 155 (4 * s + 2) 0) 147 (4 * s + 3) 0) 155 (4 * s + 3) 0 := ⟨_, rfl⟩
  obtain ⟨Z, hZ⟩ := Z0
  have zA : ∀ b, b ≠ 147 → b ≠ 155 → ms_A Z b = ms_A Y b := fun b h1 h2 => by
    rw [hZ, (Eqc_A h2).2.2.2.1, (Eqc_A h1).2.2.2.1, (Eqc_A h2).2.2.2.1, (Eqc_A h1).2.2.2.1, (Eqc_A h2).2.2.2.1, (Eqc_A h1).2.2.2.1, (Eqc_A h2).2.2.2.1, (Eqc_A h1).2.2.2.1]
  refine ⟨Z, ?_, ⟨?_, ?_, ?_, ?_, ?_, ?_, ?_, ?_⟩, fun k hk => ?_, ?_⟩
  · unfold f174
    simp only [mE, s1, s2, vpb (Or.inl rfl), ← hY]
    show f174_L30 (n + 5) _ (n + 4 + 1) (Int32.ofNat s) (Int32.ofNat 0) Y = _
    rw [st 0 (n + 4) 9999 Y (by omega) rfl]
    show f174_L30 (n + 5) _ (n + 3 + 1) (Int32.ofNat s) (Int32.ofNat 1) _ = _
    rw [st 1 (n + 3) 9999 _ (by omega) rfl]
    show f174_L30 (n + 5) _ (n + 2 + 1) (Int32.ofNat s) (Int32.ofNat 2) _ = _
    rw [st 2 (n + 2) 99 _ (by omega) rfl]
    show f174_L30 (n + 5) _ (n + 1 + 1) (Int32.ofNat s) (Int32.ofNat 3) _ = _
    rw [st 3 (n + 1) 0 _ (by omega) rfl, ← hZ, f174_L30]
    simp only [mE]
    rw [if_pos (by decide)]
  · rw [zA 143 (by decide) (by decide), hY]; simp [mG]
  · rw [zA 144 (by decide) (by decide), hY]; simp [mG]
  · rw [zA 145 (by decide) (by decide), hY]; simp [mG]
  · rw [zA 156 (by decide) (by decide), hY]; simp [mG]
  · rw [hZ]; simp [mG]
  · rw [hZ]; simp [mG]
  · rw [hZ]; simp [mG]
  · rw [hZ]; simp [mG]
  · rw [hZ]
    rcases (show k = 0 ∨ k = 1 ∨ k = 2 ∨ k = 3 by omega) with rfl | rfl | rfl | rfl <;> simp [mG]
  · have o1 : offC s S Y := by rw [hY]; exact (((offC.wr (by omega)).tr (offC.wr (by omega))).tr (offC.wr (by omega))).tr (offC.wr (by omega))
    have o2 : offC s Y Z := by rw [hZ]; exact (((((((offC.wr (by omega)).tr (offC.wr (by omega))).tr (offC.wr (by omega))).tr (offC.wr (by omega))).tr (offC.wr (by omega))).tr (offC.wr (by omega))).tr (offC.wr (by omega))).tr (offC.wr (by omega))
    exact o1.tr o2
theorem clrMAll {K : Int32 → mM Int32} (hN : 20 ≤ N) : ∀ m i n (S : ms_S), m + i = 4 → m < n → (∀ s, s < i → ClrM S s) → ∃ S1, f165_L88 N K n (Int32.ofNat i) S = K 4 S1 ∧ (∀ s, s < 4 → ClrM S1 s) ∧ ∀ b, ¬ (143 ≤ b ∧ b ≤ 145) → b ≠ 147 → b ≠ 155 → b ≠ 156 → Eqc S S1 b := by
  intro m
  induction m with
  | zero =>
    intro i n S hi hn hd
    obtain ⟨n, rfl⟩ : ∃ q, n = q + 1 := ⟨n - 1, by omega⟩
    have e : i = 4 := by omega
    subst e
    refine ⟨S, ?_, hd, fun _ _ _ _ _ => Eqc.rf⟩
    rw [f165_L88]
    simp only [mE]
    rw [if_pos (by decide)]
    rfl
  | succ m ih =>
    intro i n S hi hn hd
    obtain ⟨n, rfl⟩ : ∃ q, n = q + 1 := ⟨n - 1, by omega⟩
    obtain ⟨S1, e1, c1, _, o1⟩ := q174 (N := N) (s := i) (S := S) hN (by omega)
    have m174 : ∀ {β : Type} {f' : Unit → mM β}, mb (f174 N (Int32.ofNat i)) f' S = f' () S1 := by intro β f'; simp only [mb, e1]
    obtain ⟨S2, e2, c2, o2⟩ := ih (i + 1) n S1 (by omega) (by omega) (fun s hs => by
      by_cases e : s = i
      · rw [e]; exact c1
      · obtain ⟨d1, d2, d3, d4, d5, d6, d7, d8⟩ := hd s (by omega)
        exact ⟨by rw [o1.2.1 143 s (by omega) e]; exact d1, by rw [o1.2.1 144 s (by omega) e]; exact d2, by rw [o1.2.1 145 s (by omega) e]; exact d3, by rw [o1.2.1 156 s (by omega) e]; exact d4, by rw [(o1.2.2 (4 * s) (by omega)).1]; exact d5, by rw [(o1.2.2 (4 * s + 1) (by omega)).1]; exact d6, by rw [(o1.2.2 (4 * s + 2) (by omega)).1]; exact d7, by rw [(o1.2.2 (4 * s + 3) (by omega)).1]; exact d8⟩)
    refine ⟨S2, ?_, c2, fun b h1 h2 h3 h4 => (o1.1 b h1 h2 h3 h4).tr (o2 b h1 h2 h3 h4)⟩
    rw [f165_L88]
    simp only [mE]
    rw [if_neg (fun q => by have := (ofN_le (i := 4) (j := i) (by omega) (by omega)).1 q; omega), m174, ofN_s]
    exact e2
theorem mBad (h : mBase S A) {S1 : ms_S} {e : Nat × Nat} (h2 : ms_I S1 131 2 = 0) (h4 : ms_I S1 131 4 = Int32.ofNat e.1) (h5 : ms_I S1 131 5 = Int32.ofNat e.2) (hI : ∀ k, k = 50 ∨ k = 71 ∨ k = 72 ∨ k = 94 ∨ k = 95 ∨ k = 105 → ms_I S1 131 k = ms_I S 131 k) (hStr : mStr S1 A) (hCv : ∀ s, s < 4 → mCvAt S1 A s) (hE : ∀ b, (158 ≤ b ∧ b ≤ 165) ∨ (167 ≤ b ∧ b ≤ 173) ∨ (190 ≤ b ∧ b ≤ 194) ∨ b = 198 → ms_A S1 b = ms_A S b) : mBase S1 (nBad A e) := by
  obtain ⟨k1, k2, k3, k4, k5, k6, k7⟩ := h
  refine ⟨⟨h2, fun i hi => absurd hi (Nat.not_lt_zero i)⟩, ⟨?_, ?_, ?_, h4, h5⟩, mStr_ab hStr (nB_N (by decide)) (nB_N (by decide)) (fun q _ _ => nB_X (by omega)) (nB_40 (by decide) (by decide)) rfl, mShip_ab (A := A) ⟨by rw [hI 50 (by omega)]; exact k4.1, fun i hi k hk => by rw [hE (158 + k) (by omega)]; exact k4.2 i hi k hk⟩ (nB_N (by decide)) (fun q _ _ => nB_X (by omega)), mFact_ab (A := A) ?_ (nB_N (by decide)) (fun q _ _ => nB_X (by omega)), mSig_ab (A := A) ?_ (nB_N (by decide)) (fun q _ _ => nB_X (by omega)), fun s hs => mCvAt_ab (hCv s hs) ⟨nB_N (by omega), nB_N (by omega)⟩ ⟨nB_X (by omega), nB_X (by omega)⟩ rfl⟩
  · rw [hI 72 (by omega), k2.1]; exact (nB_40 (by decide) (by decide)).symm
  · rw [hI 94 (by omega), k2.2.1]; exact (nB_40 (by decide) (by decide)).symm
  · rw [hI 95 (by omega), k2.2.2.1]; exact (nB_40 (by decide) (by decide)).symm
  · unfold mFact at *
    rw [hI 71 (by omega), hE 168 (by omega), hE 172 (by omega), hE 167 (by omega), hE 173 (by omega), hE 169 (by omega), hE 170 (by omega), hE 171 (by omega)]; exact k5
  · unfold mSig at *
    rw [hI 105 (by omega), hE 190 (by omega), hE 192 (by omega), hE 198 (by omega), hE 191 (by omega), hE 193 (by omega), hE 194 (by omega)]; exact k6
set_option maxHeartbeats 1000000 in
theorem M_strait (hN : 1300 ≤ N) (h : mBase S A) (hw : WF0 A) : MP (f165 N) S (ansStrait A) (nxtStrait A) := by
  have hb := TxB_A hw
  have hn := tkN_le hb
  obtain ⟨S1, e1, x1, r2, r4, r5, r7, rI, o1⟩ := q164 (N := N) hN h hw
  have m164 : ∀ {β : Type} {f' : Unit → mM β}, mb (f164 N) f' S = f' () S1 := by intro β f'; simp only [mb, e1]
  have h' := h
  obtain ⟨k1, k2, ⟨b0, hb0, hB0, hst⟩, k4, k5, k6, k7⟩ := h
  have B0 : ∃ b, b = 1 - b0 := ⟨_, rfl⟩
  obtain ⟨b, hbe⟩ := B0
  have hb2 : b < 2 := by omega
  have B1 : inR (Int32.ofNat b) 2 := ofN_inR (by omega) (by omega)
  have B2 := ofN_cl (i := b) (by omega)
  have s20 : ms_I S1 131 20 = Int32.ofNat b0 := by rw [rI 20 (by decide) (by decide)]; exact hB0
  have e1b : 1 - Int32.ofNat b0 = Int32.ofNat b := by rw [hbe, show (1 : Int32) = Int32.ofNat 1 from rfl, ofN_sub (by omega)]
  have Y0 : ∃ Y, Y = ms_setA (ms_setA (ms_setA (ms_setI S1 131 21 (Int32.ofNat b)) 134 b 0) 135 b 0) 136 b 0 := ⟨_, rfl⟩
  obtain ⟨Y, hY⟩ := Y0
  have yI : ∀ j, j ≠ 21 → ms_I Y 131 j = ms_I S1 131 j := fun j hj => by rw [hY]; simp only [mGo]; simp only [mG, true_and, if_neg hj]
  have y21 : ms_I Y 131 21 = Int32.ofNat b := by rw [hY]; simp only [mGo]; simp only [mG, and_self, if_true]
  have oY : ∀ c, c ≠ 131 → ¬ (134 ≤ c ∧ c ≤ 136) → Eqc S1 Y c := fun c h1 h2 => by rw [hY]; exact (((Eqc_I h1).tr (Eqc_A (by omega))).tr (Eqc_A (by omega))).tr (Eqc_A (by omega))
  have yA : ∀ c i, i ≠ b → ms_A Y c i = ms_A S1 c i := fun c i hi => by rw [hY]; simp only [mG, hi, and_false, if_false]; simp only [mGo]
  have xY : TxM Y (aX A 0) (aN A 0) := by
    unfold TxM at *
    rw [yI 3 (by decide), (oY 133 (by decide) (by decide)).2.2.2.1]
    exact x1
  obtain ⟨S2, e2, t2, o2⟩ := q158 (N := N) (S := Y) (i := 0) hN hb (Nat.zero_le _) xY (by rw [yI 7 (by decide)]; exact r7)
  have m158 : ∀ {β : Type} {f' : Unit → mM β}, mb (f158 N) f' Y = f' () S2 := by intro β f'; simp only [mb, e2]
  have ms2 : MS S2 (aX A 0) (aN A 0) (.inr 0) := ⟨TxM_off xY o2, (tkJ_0 hb).2, by rw [(tkJ_0 hb).1]; exact t2, by rw [o2.1 4 (by omega), yI 4 (by decide)]; exact r4, by rw [o2.1 5 (by omega), yI 5 (by decide)]; exact r5⟩
  have st2 : StM S2 b [] [] 0 := StM_off ⟨by rw [hY]; simp [mG], by rw [hY]; simp [mG], by rw [hY]; simp [mG], fun i hi => absurd hi (Nat.not_lt_zero i), fun i hi => absurd hi (Nat.not_lt_zero i)⟩ o2.m
  obtain ⟨S3, e3, m3, s3, o3⟩ := straitLM (N := N) (X := aX A 0) (L := aN A 0) (b := b) (K := (mb (f155 N) fun v20 => if v20 ≠ 0 then (mb (gI 131 21) fun v22 => mb (pI 131 20 v22) fun _ => f165_L88 N (fun (x1 : Int32) => (mb (pI 131 50 0) fun _ => mb (pI 131 71 0) fun _ => mb (pI 131 105 0) fun _ => mb (gI 131 20) fun v29 => mb (lA 134 2 v29) fun v31 => mret v31)) N 0) else (mret (-1)))) hN hb2 hb (tkN (aX A 0) (aN A 0)) N (.inr 0, [], [], 0) S2 (by show tkN _ _ ≤ tkN _ _ + 0; omega) (by omega) ⟨Nat.zero_le _, Nat.zero_le _⟩ (by rw [o2.1 21 (by omega)]; exact y21) ms2 (fun _ => st2)
  have Q0 : ∃ q, q = stQ A := ⟨_, rfl⟩
  obtain ⟨q, hq⟩ := Q0
  have m3 : MS S3 (aX A 0) (aN A 0) q.1 := by rw [hq]; exact m3
  have s3 : gd q.1 = true → StM S3 b q.2.1 q.2.2.1 q.2.2.2 := by rw [hq]; exact s3
  have s321 : ms_I S3 131 21 = Int32.ofNat b := by rw [o3.1 21 (by omega), o2.1 21 (by omega)]; exact y21
  have f3I : ∀ j, j ≠ 2 → j ≠ 21 → ¬ (3 ≤ j ∧ j ≤ 9) → ms_I S3 131 j = ms_I S 131 j := fun j h1 h2 h3 => by rw [o3.1 j (by omega), o2.1 j (by omega), yI j h2, rI j h1 h3]
  have f32 : ms_I S3 131 2 = 0 := by rw [o3.1 2 (by omega), o2.1 2 (by omega), yI 2 (by decide)]; exact r2
  have f3E : ∀ c, c ≠ 131 → c ≠ 133 → ¬ (134 ≤ c ∧ c ≤ 142) → Eqc S S3 c := fun c h1 h2 h3 => (((o1 c h1 h2).tr (oY c h1 (by omega))).tr (o2.2 c h1)).tr (o3.2.1 c h1 h3)
  have pre : f165 N S = (mb (f155 N) fun v20 => if v20 ≠ 0 then (mb (gI 131 21) fun v22 => mb (pI 131 20 v22) fun _ => f165_L88 N (fun (x1 : Int32) => (mb (pI 131 50 0) fun _ => mb (pI 131 71 0) fun _ => mb (pI 131 105 0) fun _ => mb (gI 131 20) fun v29 => mb (lA 134 2 v29) fun v31 => mret v31)) N 0) else (mret (-1))) S3 := by
    have z21 : ms_I (ms_setI S1 131 21 (Int32.ofNat b)) 131 21 = Int32.ofNat b := by simp [mG]
    have z21b : ms_I (ms_setA (ms_setI S1 131 21 (Int32.ofNat b)) 134 b 0) 131 21 = Int32.ofNat b := by simp only [mGo]; exact z21
    have z21c : ms_I (ms_setA (ms_setA (ms_setI S1 131 21 (Int32.ofNat b)) 134 b 0) 135 b 0) 131 21 = Int32.ofNat b := by simp only [mGo]; exact z21
    unfold f165
    rw [m164]
    simp only [mE, s20, e1b, z21, z21b, z21c, B1, B2, ← hY]
    rw [m158]
    exact e3
  have ans : ansStrait A = if gd q.1 = true then Int32.ofNat q.2.2.2 else -1 := by rw [hq]; rfl
  rw [ans]
  unfold nxtStrait
  rw [← hq]
  unfold MP
  rw [pre, E155 m3]
  obtain ⟨σ, cs, ls, n⟩ := q
  cases σ with
  | inl e =>
    have m3 : MS S3 (aX A 0) (aN A 0) (.inl e) := m3
    refine ⟨S3, ?_, ?_, fun c hc => f3E c (by omega) (by omega) (by omega)⟩
    · rw [show gd (.inl e) = false from rfl]; rfl
    · refine mBad h' f32 m3.2.2.1 m3.2.2.2.2 (fun k hk => f3I k (by omega) (by omega) (by omega)) ?_ (fun s hs => mCvAt_fr (k7 s hs) (fun c h1 h2 => f3E c (by omega) (by omega) (by omega)) (f3E 156 (by decide) (by decide) (by decide))) (fun c hc => (f3E c (by omega) (by omega) (by omega)).2.2.2.1)
      refine ⟨b0, hb0, by rw [f3I 20 (by decide) (by decide) (by decide)]; exact hB0, ?_⟩
      have a1 : ∀ c, 134 ≤ c → c ≤ 136 → ms_A S3 c b0 = ms_A S c b0 := fun c h1 h2 => by rw [o3.2.2.1 c b0 h1 h2 (by omega), (o2.2 c (by omega)).2.2.2.1, yA c b0 (by omega), (o1 c (by omega) (by omega)).2.2.2.1]
      have a2 : ∀ c i, 137 ≤ c → c ≤ 140 → i < 20 → ms_A S3 c (20 * b0 + i) = ms_A S c (20 * b0 + i) := fun c i h1 h2 h3 => by rw [o3.2.2.2.1 c (20 * b0 + i) h1 h2 (by omega), (o2.2 c (by omega)).2.2.2.1, (oY c (by omega) (by omega)).2.2.2.1, (o1 c (by omega) (by omega)).2.2.2.1]
      have a3 : ∀ i, i < 8 → ms_A S3 141 (8 * b0 + i) = ms_A S 141 (8 * b0 + i) ∧ ms_L S3 142 (8 * b0 + i) = ms_L S 142 (8 * b0 + i) := fun i hi => ⟨by rw [(o3.2.2.2.2 (8 * b0 + i) (by omega)).1, (o2.2 141 (by decide)).2.2.2.1, (oY 141 (by decide) (by decide)).2.2.2.1, (o1 141 (by decide) (by decide)).2.2.2.1], by rw [(o3.2.2.2.2 (8 * b0 + i) (by omega)).2, (o2.2 142 (by decide)).2.2.2.2.1, (oY 142 (by decide) (by decide)).2.2.2.2.1, (o1 142 (by decide) (by decide)).2.2.2.2.1]⟩
      have hn1 : aN A 1 ≤ 20 := hw.1.2.1
      have hn2 : aN A 2 ≤ 8 := hw.1.2.2.1
      obtain ⟨t1, t2', t3, t4, t5⟩ := hst
      refine ⟨by rw [a1 135 (by omega) (by omega)]; exact t1, by rw [a1 136 (by omega) (by omega)]; exact t2', by rw [a1 134 (by omega) (by omega)]; exact t3, fun i hi => ?_, fun i hi => ?_⟩
      · rw [a2 137 i (by omega) (by omega) (by omega), a2 138 i (by omega) (by omega) (by omega), a2 139 i (by omega) (by omega) (by omega), a2 140 i (by omega) (by omega) (by omega)]
        exact t4 i hi
      · rw [(a3 i (by omega)).1, (a3 i (by omega)).2]
        exact t5 i hi
  | inr j =>
    have m3 : MS S3 (aX A 0) (aN A 0) (.inr j) := m3
    have st := s3 rfl
    rw [show gd (.inr j) = true from rfl, if_pos rfl, if_pos (by decide)]
    simp only [mE, s321]
    obtain ⟨S4, e4, c4, o4⟩ := clrMAll (N := N) (K := fun (x1 : Int32) => (mb (pI 131 50 0) fun _ => mb (pI 131 71 0) fun _ => mb (pI 131 105 0) fun _ => mb (gI 131 20) fun v29 => mb (lA 134 2 v29) fun v31 => mret v31)) (by omega) 4 0 N (ms_setI S3 131 20 (Int32.ofNat b)) (by omega) (by omega) (fun s hs => absurd hs (by omega))
    have e4 : f165_L88 N _ N 0 (ms_setI S3 131 20 (Int32.ofNat b)) = _ := e4
    have W0 : ∃ W, W = ms_setI (ms_setI (ms_setI S4 131 50 0) 131 71 0) 131 105 0 := ⟨_, rfl⟩
    obtain ⟨W, hW⟩ := W0
    have wI : ∀ k, k ≠ 20 → k ≠ 50 → k ≠ 71 → k ≠ 105 → ms_I W 131 k = ms_I S3 131 k := fun k h1 h2 h3 h4 => by
      rw [hW]
      simp only [mG, true_and, if_neg h2, if_neg h3, if_neg h4]
      rw [(o4 131 (by omega) (by omega) (by omega) (by omega)).1]
      simp only [mG, true_and, if_neg h1]
    have w20 : ms_I W 131 20 = Int32.ofNat b := by rw [hW]; simp [mG]; rw [(o4 131 (by omega) (by omega) (by omega) (by omega)).1]; simp [mG]
    have wE : ∀ c, c ≠ 131 → ¬ (143 ≤ c ∧ c ≤ 145) → c ≠ 147 → c ≠ 155 → c ≠ 156 → Eqc S3 W c := fun c h1 h2 h3 h4 h5 => by rw [hW]; exact ((((Eqc_I h1).tr (o4 c h2 h3 h4 h5)).tr (Eqc_I h1)).tr (Eqc_I h1)).tr (Eqc_I h1)
    have wC : ∀ s, s < 4 → ClrM W s := fun s hs => by
      have := c4 s hs
      rw [hW]
      unfold ClrM at *
      simp only [mGo]
      exact this
    obtain ⟨t1, t2', t3, t4, t5⟩ := st
    refine ⟨W, ?_, ?_, fun c hc => (f3E c (by omega) (by omega) (by omega)).tr (wE c (by omega) (by omega) (by omega) (by omega) (by omega))⟩
    · rw [e4]
      simp only [mE, ← hW, w20, B1, B2, (wE 134 (by decide) (by decide) (by decide) (by decide) (by decide)).2.2.2.1, t3]
      rfl
    · refine ⟨⟨?_, fun i hi => absurd hi (Nat.not_lt_zero i)⟩, ⟨?_, ?_, ?_, ?_, ?_⟩, ⟨b, hb2, w20, ?_, ?_, ?_, fun i hi => ?_, fun i hi => ?_⟩, ⟨?_, fun i hi => absurd hi (Nat.not_lt_zero i)⟩, ⟨?_, fun i hi => absurd hi (Nat.not_lt_zero i)⟩, ⟨?_, fun i hi => absurd hi (Nat.not_lt_zero i)⟩, fun s hs => ?_⟩
      · rw [wI 2 (by decide) (by decide) (by decide) (by decide)]; exact f32
      · rw [wI 72 (by decide) (by decide) (by decide) (by decide), f3I 72 (by decide) (by decide) (by decide)]; exact k2.1
      · rw [wI 94 (by decide) (by decide) (by decide) (by decide), f3I 94 (by decide) (by decide) (by decide)]; exact k2.2.1
      · rw [wI 95 (by decide) (by decide) (by decide) (by decide), f3I 95 (by decide) (by decide) (by decide)]; exact k2.2.2.1
      · rw [wI 4 (by decide) (by decide) (by decide) (by decide)]; exact m3.2.2.2.1
      · rw [wI 5 (by decide) (by decide) (by decide) (by decide)]; exact m3.2.2.2.2
      · rw [(wE 135 (by decide) (by decide) (by decide) (by decide) (by decide)).2.2.2.1]; exact t1
      · rw [(wE 136 (by decide) (by decide) (by decide) (by decide) (by decide)).2.2.2.1]; exact t2'
      · rw [(wE 134 (by decide) (by decide) (by decide) (by decide) (by decide)).2.2.2.1]; exact t3
      · rw [(wE 137 (by decide) (by decide) (by decide) (by decide) (by decide)).2.2.2.1, (wE 138 (by decide) (by decide) (by decide) (by decide) (by decide)).2.2.2.1, (wE 139 (by decide) (by decide) (by decide) (by decide) (by decide)).2.2.2.1, (wE 140 (by decide) (by decide) (by decide) (by decide) (by decide)).2.2.2.1]
        exact t4 i hi
      · rw [(wE 141 (by decide) (by decide) (by decide) (by decide) (by decide)).2.2.2.1, (wE 142 (by decide) (by decide) (by decide) (by decide) (by decide)).2.2.2.2.1]
        have := t5 i hi
        exact ⟨this.1, this.2.1⟩
      · rw [hW]; simp [mG]; rfl
      · rw [hW]; simp [mG]; rfl
      · rw [hW]; simp [mG]; rfl
      · obtain ⟨d1, d2, d3, d4, d5, d6, d7, d8⟩ := wC s hs
        have x50 : ∀ i, aX (nGood A cs ls n) (50 + s) i = if i = 1 ∨ i = 2 then 9999 else if i = 3 then 99 else 0 := fun i => by
          show (if 50 + s = 1 then _ else if 50 + s = 2 then _ else if 50 + s = 3 then _ else if 50 + s = 4 then _ else if 50 + s = 5 then _ else if 50 + s = 40 ∧ i = 3 then _ else if 50 + s = 40 ∧ i = 4 then _ else if 50 + s = 40 ∧ i = 5 then _ else if 50 ≤ 50 + s ∧ 50 + s < 54 then _ else _) = _
          rw [if_neg (by omega), if_neg (by omega), if_neg (by omega), if_neg (by omega), if_neg (by omega), if_neg (by omega), if_neg (by omega), if_neg (by omega), if_pos (by omega)]
        have n10 : aN (nGood A cs ls n) (10 + s) = 0 := by
          show (if _ then _ else _) = _
          rw [if_pos (by omega)]
        have n20 : aN (nGood A cs ls n) (20 + s) = 0 := by
          show (if _ then _ else _) = _
          rw [if_pos (by omega)]
        have e14 : aE (nGood A cs ls n) s 14 = [] := by
          show (if s < 4 ∧ 14 = 14 then _ else _) = _
          rw [if_pos ⟨hs, rfl⟩]
        refine ⟨by rw [d1, x50]; rfl, fun k hk => ?_, by rw [d2, n10]; rfl, by rw [d3, n20]; rfl, fun i hi => absurd hi (by rw [n20]; omega), fun i hi => absurd hi (by rw [n10]; omega), fun i hi => absurd hi (by rw [n20]; omega), Or.inl ⟨d4, e14⟩⟩
        rw [x50]
        rcases (show k = 0 ∨ k = 1 ∨ k = 2 ∨ k = 3 by omega) with rfl | rfl | rfl | rfl
        · exact d5
        · exact d6
        · exact d7
        · exact d8
end SM4
