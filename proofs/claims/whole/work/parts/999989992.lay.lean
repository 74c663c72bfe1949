/-! a convention is laid on its shelf: the reference -/
section LAY
variable {N : Nat}
theorem lay50 {K : Int32 → Int32 → mM Unit} {s : Nat} (hs : s < 4) : ∀ m i n (S : ms_S), m + i = 4 → m < n → ∃ S1, f178_L50 N K n (Int32.ofNat s) (Int32.ofNat i) S = K (Int32.ofNat s) (Int32.ofNat 4) S1 ∧ (∀ j, i ≤ j → j < 4 → ms_A S1 147 (4 * s + j) = ms_A S 147 (16 + j)) ∧ (∀ k, ¬ (4 * s + i ≤ k ∧ k < 4 * s + 4) → ms_A S1 147 k = ms_A S 147 k) ∧ ∀ c, c ≠ 147 → Eqc S S1 c := by
  intro m
  induction m with
  | zero =>
    intro i n S hi hn
    obtain ⟨n, rfl⟩ : ∃ q, n = q + 1 := ⟨n - 1, by omega⟩
    have e : i = 4 := by omega
    subst e
    refine ⟨S, ?_, fun j h1 h2 => absurd h2 (by omega), fun _ _ => rfl, fun _ _ => Eqc.rf⟩
    rw [f178_L50]
    simp only [mE]
    rw [if_pos (by decide)]
  | succ m ih =>
    intro i n S hi hn
    obtain ⟨n, rfl⟩ : ∃ q, n = q + 1 := ⟨n - 1, by omega⟩
    have e1 : 16 + Int32.ofNat i = Int32.ofNat (16 + i) := by rw [show (16 : Int32) = Int32.ofNat 16 from rfl, ofN_add]
    have e2 : 4 * Int32.ofNat s + Int32.ofNat i = Int32.ofNat (4 * s + i) := by rw [show (4 : Int32) = Int32.ofNat 4 from rfl, ofN_mul, ofN_add]
    have i1 : inR (Int32.ofNat (16 + i)) 20 := ofN_inR (by omega) (by omega)
    have i2 := ofN_cl (i := 16 + i) (by omega)
    have i3 : inR (Int32.ofNat (4 * s + i)) 20 := ofN_inR (by omega) (by omega)
    have i4 := ofN_cl (i := 4 * s + i) (by omega)
    have Y0 : ∃ Y, Y = ms_setA S 147 (4 * s + i) (ms_A S 147 (16 + i)) := ⟨_, rfl⟩
    obtain ⟨Y, hY⟩ := Y0
    have y147 : ∀ k, ms_A Y 147 k = if k = 4 * s + i then ms_A S 147 (16 + i) else ms_A S 147 k := fun k => by rw [hY]; simp only [mG, true_and]
    have oY : ∀ c, c ≠ 147 → Eqc S Y c := fun c h1 => by rw [hY]; exact Eqc_A h1
    obtain ⟨S1, e3, r147, t147, o1⟩ := ih (i + 1) n Y (by omega) (by omega)
    refine ⟨S1, ?_, fun j h1 h2 => ?_, fun k hk => ?_, fun c h1 => (oY c h1).tr (o1 c h1)⟩
    · rw [f178_L50]
      simp only [mE]
      rw [if_neg (fun q => by have := (ofN_le (i := 4) (j := i) (by omega) (by omega)).1 q; omega)]
      simp only [mE, e1, e2, i1, i2, i3, i4, ← hY, ofN_s]
      exact e3
    · by_cases e : j = i
      · rw [e, t147 (4 * s + i) (by omega), y147, if_pos rfl]
      · rw [r147 j (by omega) h2, y147, if_neg (by omega)]
    · rw [t147 k (by omega), y147, if_neg (by omega)]
theorem lay82 {K : Int32 → Int32 → mM Unit} {s : Nat} (hs : s < 4) : ∀ m i n (S : ms_S), m + i = 8 → m < n → ∃ S1, f178_L82 N K n (Int32.ofNat s) (Int32.ofNat i) S = K (Int32.ofNat s) (Int32.ofNat 8) S1 ∧ (∀ j, i ≤ j → j < 8 → ms_A S1 146 (8 * s + j) = ms_A S 146 (32 + j)) ∧ (∀ k, ¬ (8 * s + i ≤ k ∧ k < 8 * s + 8) → ms_A S1 146 k = ms_A S 146 k) ∧ ∀ c, c ≠ 146 → Eqc S S1 c := by
  intro m
  induction m with
  | zero =>
    intro i n S hi hn
    obtain ⟨n, rfl⟩ : ∃ q, n = q + 1 := ⟨n - 1, by omega⟩
    have e : i = 8 := by omega
    subst e
    refine ⟨S, ?_, fun j h1 h2 => absurd h2 (by omega), fun _ _ => rfl, fun _ _ => Eqc.rf⟩
    rw [f178_L82]
    simp only [mE]
    rw [if_pos (by decide)]
  | succ m ih =>
    intro i n S hi hn
    obtain ⟨n, rfl⟩ : ∃ q, n = q + 1 := ⟨n - 1, by omega⟩
    have e1 : 32 + Int32.ofNat i = Int32.ofNat (32 + i) := by rw [show (32 : Int32) = Int32.ofNat 32 from rfl, ofN_add]
    have e2 : 8 * Int32.ofNat s + Int32.ofNat i = Int32.ofNat (8 * s + i) := by rw [show (8 : Int32) = Int32.ofNat 8 from rfl, ofN_mul, ofN_add]
    have i1 : inR (Int32.ofNat (32 + i)) 40 := ofN_inR (by omega) (by omega)
    have i2 := ofN_cl (i := 32 + i) (by omega)
    have i3 : inR (Int32.ofNat (8 * s + i)) 40 := ofN_inR (by omega) (by omega)
    have i4 := ofN_cl (i := 8 * s + i) (by omega)
    have Y0 : ∃ Y, Y = ms_setA S 146 (8 * s + i) (ms_A S 146 (32 + i)) := ⟨_, rfl⟩
    obtain ⟨Y, hY⟩ := Y0
    have y146 : ∀ k, ms_A Y 146 k = if k = 8 * s + i then ms_A S 146 (32 + i) else ms_A S 146 k := fun k => by rw [hY]; simp only [mG, true_and]
    have oY : ∀ c, c ≠ 146 → Eqc S Y c := fun c h1 => by rw [hY]; exact Eqc_A h1
    obtain ⟨S1, e3, r146, t146, o1⟩ := ih (i + 1) n Y (by omega) (by omega)
    refine ⟨S1, ?_, fun j h1 h2 => ?_, fun k hk => ?_, fun c h1 => (oY c h1).tr (o1 c h1)⟩
    · rw [f178_L82]
      simp only [mE]
      rw [if_neg (fun q => by have := (ofN_le (i := 8) (j := i) (by omega) (by omega)).1 q; omega)]
      simp only [mE, e1, e2, i1, i2, i3, i4, ← hY, ofN_s]
      exact e3
    · by_cases e : j = i
      · rw [e, t146 (8 * s + i) (by omega), y146, if_pos rfl]
      · rw [r146 j (by omega) h2, y146, if_neg (by omega)]
    · rw [t146 k (by omega), y146, if_neg (by omega)]
theorem lay116 {K : Int32 → Int32 → mM Unit} {s : Nat} (hs : s < 4) : ∀ m i n (S : ms_S), m + i = 6 → m < n → ∃ S1, f178_L116 N K n (Int32.ofNat s) (Int32.ofNat i) S = K (Int32.ofNat s) (Int32.ofNat 6) S1 ∧ (∀ j, i ≤ j → j < 6 → ms_L S1 157 (6 * s + j) = ms_L S 157 (24 + j)) ∧ (∀ k, ¬ (6 * s + i ≤ k ∧ k < 6 * s + 6) → ms_L S1 157 k = ms_L S 157 k) ∧ ∀ c, c ≠ 157 → Eqc S S1 c := by
  intro m
  induction m with
  | zero =>
    intro i n S hi hn
    obtain ⟨n, rfl⟩ : ∃ q, n = q + 1 := ⟨n - 1, by omega⟩
    have e : i = 6 := by omega
    subst e
    refine ⟨S, ?_, fun j h1 h2 => absurd h2 (by omega), fun _ _ => rfl, fun _ _ => Eqc.rf⟩
    rw [f178_L116]
    simp only [mE, mF]
    rw [if_pos (by decide)]
  | succ m ih =>
    intro i n S hi hn
    obtain ⟨n, rfl⟩ : ∃ q, n = q + 1 := ⟨n - 1, by omega⟩
    have e1 : 24 + Int32.ofNat i = Int32.ofNat (24 + i) := by rw [show (24 : Int32) = Int32.ofNat 24 from rfl, ofN_add]
    have e2 : 6 * Int32.ofNat s + Int32.ofNat i = Int32.ofNat (6 * s + i) := by rw [show (6 : Int32) = Int32.ofNat 6 from rfl, ofN_mul, ofN_add]
    have i1 : inR (Int32.ofNat (24 + i)) 30 := ofN_inR (by omega) (by omega)
    have i2 := ofN_cl (i := 24 + i) (by omega)
    have i3 : inR (Int32.ofNat (6 * s + i)) 30 := ofN_inR (by omega) (by omega)
    have i4 := ofN_cl (i := 6 * s + i) (by omega)
    have Y0 : ∃ Y, Y = ms_setL S 157 (6 * s + i) (ms_L S 157 (24 + i)) := ⟨_, rfl⟩
    obtain ⟨Y, hY⟩ := Y0
    have y157 : ∀ k, ms_L Y 157 k = if k = 6 * s + i then ms_L S 157 (24 + i) else ms_L S 157 k := fun k => by rw [hY]; simp only [mG, true_and]
    have oY : ∀ c, c ≠ 157 → Eqc S Y c := fun c h1 => by rw [hY]; exact Eqc_L h1
    obtain ⟨S1, e3, r157, t157, o1⟩ := ih (i + 1) n Y (by omega) (by omega)
    refine ⟨S1, ?_, fun j h1 h2 => ?_, fun k hk => ?_, fun c h1 => (oY c h1).tr (o1 c h1)⟩
    · rw [f178_L116]
      simp only [mE, mF]
      rw [if_neg (fun q => by have := (ofN_le (i := 6) (j := i) (by omega) (by omega)).1 q; omega)]
      simp only [mE, mF, e1, e2, i1, i2, i3, i4, ← hY, ofN_s]
      exact e3
    · by_cases e : j = i
      · rw [e, t157 (6 * s + i) (by omega), y157, if_pos rfl]
      · rw [r157 j (by omega) h2, y157, if_neg (by omega)]
    · rw [t157 k (by omega), y157, if_neg (by omega)]
theorem lay150 {K : Int32 → Int32 → mM Unit} {s : Nat} (hs : s < 4) : ∀ m i n (S : ms_S), m + i = 15 → m < n → ∃ S1, f178_L150 N K n (Int32.ofNat s) (Int32.ofNat i) S = K (Int32.ofNat s) (Int32.ofNat 15) S1 ∧ (∀ j, i ≤ j → j < 15 → ms_A S1 148 (15 * s + j) = ms_A S 148 (60 + j)) ∧ (∀ k, ¬ (15 * s + i ≤ k ∧ k < 15 * s + 15) → ms_A S1 148 k = ms_A S 148 k) ∧ (∀ j, i ≤ j → j < 15 → ms_A S1 149 (15 * s + j) = ms_A S 149 (60 + j)) ∧ (∀ k, ¬ (15 * s + i ≤ k ∧ k < 15 * s + 15) → ms_A S1 149 k = ms_A S 149 k) ∧ ∀ c, c ≠ 148 → c ≠ 149 → Eqc S S1 c := by
  intro m
  induction m with
  | zero =>
    intro i n S hi hn
    obtain ⟨n, rfl⟩ : ∃ q, n = q + 1 := ⟨n - 1, by omega⟩
    have e : i = 15 := by omega
    subst e
    refine ⟨S, ?_, fun j h1 h2 => absurd h2 (by omega), fun _ _ => rfl, fun j h1 h2 => absurd h2 (by omega), fun _ _ => rfl, fun _ _ _ => Eqc.rf⟩
    rw [f178_L150]
    simp only [mE]
    rw [if_pos (by decide)]
  | succ m ih =>
    intro i n S hi hn
    obtain ⟨n, rfl⟩ : ∃ q, n = q + 1 := ⟨n - 1, by omega⟩
    have e1 : 60 + Int32.ofNat i = Int32.ofNat (60 + i) := by rw [show (60 : Int32) = Int32.ofNat 60 from rfl, ofN_add]
    have e2 : 15 * Int32.ofNat s + Int32.ofNat i = Int32.ofNat (15 * s + i) := by rw [show (15 : Int32) = Int32.ofNat 15 from rfl, ofN_mul, ofN_add]
    have i1 : inR (Int32.ofNat (60 + i)) 75 := ofN_inR (by omega) (by omega)
    have i2 := ofN_cl (i := 60 + i) (by omega)
    have i3 : inR (Int32.ofNat (15 * s + i)) 75 := ofN_inR (by omega) (by omega)
    have i4 := ofN_cl (i := 15 * s + i) (by omega)
    have Y0 : ∃ Y, Y = ms_setA (ms_setA S 148 (15 * s + i) (ms_A S 148 (60 + i))) 149 (15 * s + i) (ms_A S 149 (60 + i)) := ⟨_, rfl⟩
    obtain ⟨Y, hY⟩ := Y0
    have q1 : ms_A (ms_setA S 148 (15 * s + i) (ms_A S 148 (60 + i))) 149 (60 + i) = ms_A S 149 (60 + i) := by rw [(Eqc_A (by decide)).2.2.2.1]
    have y148 : ∀ k, ms_A Y 148 k = if k = 15 * s + i then ms_A S 148 (60 + i) else ms_A S 148 k := fun k => by rw [hY, (Eqc_A (by decide)).2.2.2.1]; simp only [mG, true_and]
    have y149 : ∀ k, ms_A Y 149 k = if k = 15 * s + i then ms_A S 149 (60 + i) else ms_A S 149 k := fun k => by rw [hY]; simp only [mG, true_and]; rw [if_neg (show ¬ ((149 : Nat) = 148 ∧ k = 15 * s + i) by omega)]
    have oY : ∀ c, c ≠ 148 → c ≠ 149 → Eqc S Y c := fun c h1 h2 => by rw [hY]; exact (Eqc_A h1).tr (Eqc_A h2)
    obtain ⟨S1, e3, r148, t148, r149, t149, o1⟩ := ih (i + 1) n Y (by omega) (by omega)
    refine ⟨S1, ?_, fun j h1 h2 => ?_, fun k hk => ?_, fun j h1 h2 => ?_, fun k hk => ?_, fun c h1 h2 => (oY c h1 h2).tr (o1 c h1 h2)⟩
    · rw [f178_L150]
      simp only [mE]
      rw [if_neg (fun q => by have := (ofN_le (i := 15) (j := i) (by omega) (by omega)).1 q; omega)]
      simp only [mE, e1, e2, i1, i2, i3, i4, q1, ← hY, ofN_s]
      exact e3
    · by_cases e : j = i
      · rw [e, t148 (15 * s + i) (by omega), y148, if_pos rfl]
      · rw [r148 j (by omega) h2, y148, if_neg (by omega)]
    · rw [t148 k (by omega), y148, if_neg (by omega)]
    · by_cases e : j = i
      · rw [e, t149 (15 * s + i) (by omega), y149, if_pos rfl]
      · rw [r149 j (by omega) h2, y149, if_neg (by omega)]
    · rw [t149 k (by omega), y149, if_neg (by omega)]
theorem lay204 {K : Int32 → Int32 → mM Unit} {s : Nat} {C : Nat} (hs : s < 4) (hC : C ≤ 1200) : ∀ m i n (S : ms_S), m + i = C → m < n → ms_I S 131 37 = Int32.ofNat C → ∃ S1, f178_L204 N K n (Int32.ofNat s) (Int32.ofNat i) S = K (Int32.ofNat s) (Int32.ofNat C) S1 ∧ (∀ j, i ≤ j → j < C → ms_A S1 150 (1200 * s + j) = ms_A S 150 (4800 + j)) ∧ (∀ k, ¬ (1200 * s + i ≤ k ∧ k < 1200 * s + C) → ms_A S1 150 k = ms_A S 150 k) ∧ (∀ j, i ≤ j → j < C → ms_A S1 151 (1200 * s + j) = ms_A S 151 (4800 + j)) ∧ (∀ k, ¬ (1200 * s + i ≤ k ∧ k < 1200 * s + C) → ms_A S1 151 k = ms_A S 151 k) ∧ ∀ c, c ≠ 150 → c ≠ 151 → Eqc S S1 c := by
  intro m
  induction m with
  | zero =>
    intro i n S hi hn h37
    obtain ⟨n, rfl⟩ : ∃ q, n = q + 1 := ⟨n - 1, by omega⟩
    have e : i = C := by omega
    subst e
    refine ⟨S, ?_, fun j h1 h2 => absurd h2 (by omega), fun _ _ => rfl, fun j h1 h2 => absurd h2 (by omega), fun _ _ => rfl, fun _ _ _ => Eqc.rf⟩
    rw [f178_L204]
    simp only [mE, h37]
    rw [if_pos ((ofN_le (by omega) (by omega)).2 (Nat.le_refl _))]
  | succ m ih =>
    intro i n S hi hn h37
    obtain ⟨n, rfl⟩ : ∃ q, n = q + 1 := ⟨n - 1, by omega⟩
    have e1 : 4800 + Int32.ofNat i = Int32.ofNat (4800 + i) := by rw [show (4800 : Int32) = Int32.ofNat 4800 from rfl, ofN_add]
    have e2 : 1200 * Int32.ofNat s + Int32.ofNat i = Int32.ofNat (1200 * s + i) := by rw [show (1200 : Int32) = Int32.ofNat 1200 from rfl, ofN_mul, ofN_add]
    have i1 : inR (Int32.ofNat (4800 + i)) 6000 := ofN_inR (by omega) (by omega)
    have i2 := ofN_cl (i := 4800 + i) (by omega)
    have i3 : inR (Int32.ofNat (1200 * s + i)) 6000 := ofN_inR (by omega) (by omega)
    have i4 := ofN_cl (i := 1200 * s + i) (by omega)
    have Y0 : ∃ Y, Y = ms_setA (ms_setA S 150 (1200 * s + i) (ms_A S 150 (4800 + i))) 151 (1200 * s + i) (ms_A S 151 (4800 + i)) := ⟨_, rfl⟩
    obtain ⟨Y, hY⟩ := Y0
    have q1 : ms_A (ms_setA S 150 (1200 * s + i) (ms_A S 150 (4800 + i))) 151 (4800 + i) = ms_A S 151 (4800 + i) := by rw [(Eqc_A (by decide)).2.2.2.1]
    have y150 : ∀ k, ms_A Y 150 k = if k = 1200 * s + i then ms_A S 150 (4800 + i) else ms_A S 150 k := fun k => by rw [hY, (Eqc_A (by decide)).2.2.2.1]; simp only [mG, true_and]
    have y151 : ∀ k, ms_A Y 151 k = if k = 1200 * s + i then ms_A S 151 (4800 + i) else ms_A S 151 k := fun k => by rw [hY]; simp only [mG, true_and]; rw [if_neg (show ¬ ((151 : Nat) = 150 ∧ k = 1200 * s + i) by omega)]
    have oY : ∀ c, c ≠ 150 → c ≠ 151 → Eqc S Y c := fun c h1 h2 => by rw [hY]; exact (Eqc_A h1).tr (Eqc_A h2)
    obtain ⟨S1, e3, r150, t150, r151, t151, o1⟩ := ih (i + 1) n Y (by omega) (by omega) (by rw [(oY 131 (by decide) (by decide)).1]; exact h37)
    refine ⟨S1, ?_, fun j h1 h2 => ?_, fun k hk => ?_, fun j h1 h2 => ?_, fun k hk => ?_, fun c h1 h2 => (oY c h1 h2).tr (o1 c h1 h2)⟩
    · rw [f178_L204]
      simp only [mE, h37]
      rw [if_neg (fun q => by have := (ofN_le (i := C) (j := i) (by omega) (by omega)).1 q; omega)]
      simp only [mE, e1, e2, i1, i2, i3, i4, q1, ← hY, ofN_s]
      exact e3
    · by_cases e : j = i
      · rw [e, t150 (1200 * s + i) (by omega), y150, if_pos rfl]
      · rw [r150 j (by omega) h2, y150, if_neg (by omega)]
    · rw [t150 k (by omega), y150, if_neg (by omega)]
    · by_cases e : j = i
      · rw [e, t151 (1200 * s + i) (by omega), y151, if_pos rfl]
      · rw [r151 j (by omega) h2, y151, if_neg (by omega)]
    · rw [t151 k (by omega), y151, if_neg (by omega)]
end LAY
