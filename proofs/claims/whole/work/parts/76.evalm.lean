/-! e's in the reference -/
def kfM (S : ms_S) (line : Nat) (x : Int32) : Int32 := if line < 6 then (if ms_A S 166 x.toNatClampNeg = 0 then 0 else 1) else (if ms_I S 131 62 = x then 1 else 0)
def mEnv (S : ms_S) (G : Nat → Int32) (land : Int32) : Prop := (∀ j, j < 11 → j ≠ 7 → ms_I S 131 (51 + j) = G j) ∧ ms_I S 131 58 = land ∧ ∃ b : Nat, b < 2 ∧ ms_I S 131 20 = Int32.ofNat b ∧ ((land = -1 ∧ G 7 = 0) ∨ (∃ k, k < 8 ∧ land = Int32.ofNat k ∧ G 7 = if ms_A S 141 (8 * b + k) = 0 then 0 else 1))
theorem leaf14 {t : Nat} (h : isLeaf t = true) : t = 3 ∨ t = 100 ∨ t = 101 ∨ t = 102 ∨ t = 103 ∨ t = 104 ∨ t = 105 ∨ t = 106 ∨ t = 107 ∨ t = 108 ∨ t = 109 ∨ t = 110 ∨ t = 111 ∨ t = 112 := by
  simp only [isLeaf, Bool.or_eq_true, beq_iff_eq, Bool.and_eq_true, decide_eq_true_eq] at h
  omega
section EVM
variable {N : Nat} {S0 S : ms_S} {G : Nat → Int32} {land : Int32}
theorem q204 {t line : Nat} {n : Int32} (ht : isLeaf t = true) (hE : mEnv S G land) (h111 : t = 111 → line < 6 → 0 ≤ n ∧ n < 6) : f204 N (mCh line t) n S = some (leafV G land (kfM S line) (t, n), S) := by
  obtain ⟨hG, hl, b, hb, hB, hs⟩ := hE
  rcases leaf14 ht with rfl | rfl | rfl | rfl | rfl | rfl | rfl | rfl | rfl | rfl | rfl | rfl | rfl | rfl
  · rfl
  · show some (ms_I S 131 51, S) = some (G 0, S); rw [hG 0 (by omega) (by omega)]
  · show some (ms_I S 131 52, S) = some (G 1, S); rw [hG 1 (by omega) (by omega)]
  · show some (ms_I S 131 53, S) = some (G 2, S); rw [hG 2 (by omega) (by omega)]
  · show some (ms_I S 131 54, S) = some (G 3, S); rw [hG 3 (by omega) (by omega)]
  · show some (ms_I S 131 55, S) = some (G 4, S); rw [hG 4 (by omega) (by omega)]
  · show some (ms_I S 131 56, S) = some (G 5, S); rw [hG 5 (by omega) (by omega)]
  · show some (ms_I S 131 57, S) = some (G 6, S); rw [hG 6 (by omega) (by omega)]
  · show (mb (gI 131 58) fun v23 => if v23 < 0 then mret 0 else (mb (gI 131 20) fun v25 => mb (gI 131 58) fun v27 => mb (lA 141 16 ((8 * v25) + v27)) fun v29 => if v29 = 0 then mret 0 else mret 1)) S = some (G 7, S)
    simp only [mE, hl, hB]
    rcases hs with ⟨rfl, g7⟩ | ⟨k, hk, rfl, g7⟩
    · rw [if_pos (by decide), g7]
    · have e : 8 * Int32.ofNat b + Int32.ofNat k = Int32.ofNat (8 * b + k) := by clear hG; grind [i32_of]
      have h1 : inR (Int32.ofNat (8 * b + k)) 16 := ofN_inR (by omega) (by omega)
      rw [if_neg (ofN_nl (i := k) (by omega)), e]
      simp only [mE, h1, ofN_cl (i := 8 * b + k) (by omega), g7]
      split <;> rfl
  · show some (ms_I S 131 59, S) = some (G 8, S); rw [hG 8 (by omega) (by omega)]
  · show some (ms_I S 131 60, S) = some (G 9, S); rw [hG 9 (by omega) (by omega)]
  · show some (ms_I S 131 61, S) = some (G 10, S); rw [hG 10 (by omega) (by omega)]
  · by_cases hln : line < 6
    · have e1 : mCh line 111 = 69 := by
        show (if line < 6 then (69 : Int32) else 75) = 69
        rw [if_pos hln]
      have e2 : leafV G land (kfM S line) (111, n) = if ms_A S 166 n.toNatClampNeg = 0 then 0 else 1 := by
        show kfM S line n = _
        unfold kfM
        rw [if_pos hln]
      rw [e1, e2]
      obtain ⟨n0, n6⟩ := h111 rfl hln
      obtain ⟨k, hk, rfl⟩ := i32_nat (n := 6) n0 (by omega) n6
      have h1 : inR (Int32.ofNat k) 6 := ofN_inR hk (by omega)
      show (mb (lA 166 6 (Int32.ofNat k)) fun v5 => if v5 = 0 then mret 0 else mret 1) S = _
      simp only [mE, h1]
      split <;> rfl
    · have e1 : mCh line 111 = 75 := by
        show (if line < 6 then (69 : Int32) else 75) = 75
        rw [if_neg hln]
      have e2 : leafV G land (kfM S line) (111, n) = if ms_I S 131 62 = n then 1 else 0 := by
        show kfM S line n = _
        unfold kfM
        rw [if_neg hln]
      rw [e1, e2]
      show (if ms_I S 131 62 ≠ n then mret 0 else mret 1 : mM Int32) S = _
      by_cases h : ms_I S 131 62 = n
      · rw [if_pos h, if_neg (fun q => q h)]; rfl
      · rw [if_neg h, if_pos h]; rfl
  · show (if ms_I S 131 58 ≠ n then mret 0 else mret 1 : mM Int32) S = some (if land = n then 1 else 0, S)
    rw [hl]
    by_cases h : land = n
    · rw [if_pos h, if_neg (fun q => q h)]; rfl
    · rw [if_neg h, if_pos h]; rfl
theorem q205 {t line : Nat} {l r : Int32} (ht : isOp t = true) : f205 N (mCh line t) l r S = some (joinV t l r, S) := by
  simp only [isOp, Bool.or_eq_true, beq_iff_eq] at ht
  rcases ht with ((((((rfl | rfl) | rfl) | rfl) | rfl) | rfl) | rfl) | rfl
  · rfl
  · rfl
  · rfl
  · show (if l ≥ r then mret 0 else mret 1 : mM Int32) S = some (if l < r then 1 else 0, S)
    by_cases h : l < r
    · rw [if_pos h, if_neg (Int32.not_le.mpr h)]; rfl
    · rw [if_neg h, if_pos (Int32.not_lt.mp h)]; rfl
  · show (if l ≠ r then mret 0 else mret 1 : mM Int32) S = some (if l = r then 1 else 0, S)
    by_cases h : l = r
    · rw [if_pos h, if_neg (fun q => q h)]; rfl
    · rw [if_neg h, if_pos h]; rfl
  · show (if l ≤ r then mret 0 else mret 1 : mM Int32) S = some (if l > r then 1 else 0, S)
    by_cases h : l > r
    · rw [if_pos h, if_neg (Int32.not_le.mpr h)]; rfl
    · rw [if_neg h, if_pos (Int32.not_lt.mp h)]; rfl
  · show (if l ≠ 0 then mret 1 else if r = 0 then mret 0 else mret 1 : mM Int32) S = some (if l ≠ 0 ∨ r ≠ 0 then 1 else 0, S)
    by_cases h : l = 0
    · by_cases h2 : r = 0
      · rw [if_neg (fun q => q h), if_pos h2, if_neg (by rintro (q | q); exact q h; exact q h2)]; rfl
      · rw [if_neg (fun q => q h), if_neg h2, if_pos (Or.inr h2)]; rfl
    · rw [if_pos h, if_pos (Or.inl h)]; rfl
  · show (if l = 0 then mret 0 else if r = 0 then mret 0 else mret 1 : mM Int32) S = some (if l ≠ 0 ∧ r ≠ 0 then 1 else 0, S)
    by_cases h : l = 0
    · rw [if_pos h, if_neg (fun q => q.1 h)]; rfl
    · by_cases h2 : r = 0
      · rw [if_neg h, if_pos h2, if_neg (fun q => q.2 h2)]; rfl
      · rw [if_neg h, if_neg h2, if_pos ⟨h, h2⟩]; rfl
theorem q206l {t line : Nat} (ht : isLeaf t = true) : f206 N (mCh line t) S = some (1, S) ∧ mCh line t ≠ 126 := by
  rcases leaf14 ht with rfl | rfl | rfl | rfl | rfl | rfl | rfl | rfl | rfl | rfl | rfl | rfl | rfl | rfl
  case inr.inr.inr.inr.inr.inr.inr.inr.inr.inr.inr.inr.inl =>
    by_cases hln : line < 6
    · have e1 : mCh line 111 = 69 := by
        show (if line < 6 then (69 : Int32) else 75) = 69
        rw [if_pos hln]
      rw [e1]; exact ⟨rfl, by decide⟩
    · have e1 : mCh line 111 = 75 := by
        show (if line < 6 then (69 : Int32) else 75) = 75
        rw [if_neg hln]
      rw [e1]; exact ⟨rfl, by decide⟩
  all_goals exact ⟨rfl, by simp [mCh]⟩
theorem q206o {t line : Nat} (ht : isOp t = true) : f206 N (mCh line t) S = some (0, S) ∧ mCh line t ≠ 126 := by
  simp only [isOp, Bool.or_eq_true, beq_iff_eq] at ht
  rcases ht with ((((((rfl | rfl) | rfl) | rfl) | rfl) | rfl) | rfl) | rfl <;> exact ⟨rfl, by simp [mCh]⟩
/-- the numbers of kinds in kind lines are small -/
def okK (line : Nat) (l : List (Nat × Int32)) : Prop := ∀ q ∈ l, q.1 = 111 → line < 6 → 0 ≤ q.2 ∧ q.2 < 6
theorem mEnv_fr (h : mEnv S0 G land) (h1 : ms_I S 131 = ms_I S0 131) (h2 : ms_A S 141 = ms_A S0 141) : mEnv S G land := by
  unfold mEnv at *
  rw [h1, h2]
  exact h
set_option maxHeartbeats 4000000 in
theorem valL_M {K : Int32 → Int32 → Int32 → Int32 → mM Int32} {s line n0 L : Nat} (hs : s < 5) (hline : line < 15) (hle : n0 + L ≤ 1200) (hto : ms_A S0 149 (15 * s + line) = Int32.ofNat (n0 + L)) (hEnv : mEnv S0 G land) : ∀ (l2 : List (Nat × Int32)) (p n m : Nat) (st : List Int32) (S : ms_S) (fu : Nat), p + l2.length = L → (∀ j, j < l2.length → ms_A S0 150 (1200 * s + n0 + p + j) = mCh line (l2.getD j (0, 0)).1 ∧ ms_A S0 151 (1200 * s + n0 + p + j) = (l2.getD j (0, 0)).2) → okK line l2 → okL l2 n = some m → n ≤ 64 → stR (ms_A S 154) n st → (∀ b, b ≠ 154 → Eqc S0 S b) → l2.length < fu → ∃ S1 y, f207_L21 N K fu (Int32.ofNat s) (Int32.ofNat line) (Int32.ofNat n) (Int32.ofNat (1200 * s + n0 + p)) S = K (Int32.ofNat s) (Int32.ofNat line) (Int32.ofNat m) y S1 ∧ stR (ms_A S1 154) m (evS G land (kfM S0 line) l2 st) ∧ ∀ b, b ≠ 154 → Eqc S0 S1 b := by
  have hix : 15 * Int32.ofNat s + Int32.ofNat line = Int32.ofNat (15 * s + line) := by clear hto hEnv; grind [i32_of]
  have hx1 : inR (Int32.ofNat (15 * s + line)) 75 := ofN_inR (by omega) (by omega)
  have hx2 := ofN_cl (i := 15 * s + line) (by omega)
  have hlim : 1200 * Int32.ofNat s + Int32.ofNat (n0 + L) = Int32.ofNat (1200 * s + n0 + L) := by
    rw [show (1200 : Int32) = Int32.ofNat 1200 from rfl, ofN_mul, ofN_add]
    congr 1
    omega
  intro l2
  induction l2 with
  | nil =>
    intro p n m st S fu hp hc hN hok hn hst hE hfu
    obtain ⟨fu, rfl⟩ : ∃ q, fu = q + 1 := ⟨fu - 1, by omega⟩
    have hp : p = L := by simpa using hp
    subst hp
    cases hok
    have htS : ms_A S 149 (15 * s + line) = Int32.ofNat (n0 + p) := by rw [(hE 149 (by decide)).2.2.2.1]; exact hto
    refine ⟨S, Int32.ofNat (1200 * s + n0 + p), ?_, hst, hE⟩
    rw [f207_L21]
    simp only [mE, hix, hx1, hx2, htS, hlim]
    rw [if_pos ((ofN_le (by omega) (by omega)).2 (Nat.le_refl _))]
  | cons q l2 ih =>
    intro p n m st S fu hp hc hN hok hn hst hE hfu
    obtain ⟨fu, rfl⟩ : ∃ q, fu = q + 1 := ⟨fu - 1, by omega⟩
    have hp : p + (l2.length + 1) = L := by simpa using hp
    have hfu : l2.length + 1 < fu + 1 := by simpa using hfu
    obtain ⟨t, x⟩ := q
    have hN2 : okK line l2 := fun q hq => hN q (by simp [hq])
    have hc0 := hc 0 (by simp)
    have hcode : ms_A S 150 (1200 * s + n0 + p) = mCh line t := by rw [(hE 150 (by decide)).2.2.2.1]; exact hc0.1
    have hnum : ms_A S 151 (1200 * s + n0 + p) = x := by rw [(hE 151 (by decide)).2.2.2.1]; exact hc0.2
    have hc2 : ∀ j, j < l2.length → ms_A S0 150 (1200 * s + n0 + (p + 1) + j) = mCh line (l2.getD j (0, 0)).1 ∧ ms_A S0 151 (1200 * s + n0 + (p + 1) + j) = (l2.getD j (0, 0)).2 := fun j hj => by
      have := hc (j + 1) (by simp; omega)
      rw [show 1200 * s + n0 + (p + 1) + j = 1200 * s + n0 + p + (j + 1) by omega]
      exact this
    have htS : ms_A S 149 (15 * s + line) = Int32.ofNat (n0 + L) := by rw [(hE 149 (by decide)).2.2.2.1]; exact hto
    have g0 : ¬ Int32.ofNat (1200 * s + n0 + p) ≥ Int32.ofNat (1200 * s + n0 + L) := fun q => by have := (ofN_le (i := 1200 * s + n0 + L) (j := 1200 * s + n0 + p) (by omega) (by omega)).1 q; omega
    have h1 : inR (Int32.ofNat (1200 * s + n0 + p)) 6000 := ofN_inR (by omega) (by omega)
    have h2 := ofN_cl (i := 1200 * s + n0 + p) (by omega)
    have hEnvS : mEnv S G land := mEnv_fr hEnv (hE 131 (by decide)).1 (hE 141 (by decide)).2.2.2.1
    have kfe : kfM S line = kfM S0 line := by unfold kfM; rw [(hE 166 (by decide)).2.2.2.1, (hE 131 (by decide)).1]
    unfold okL at hok
    rw [f207_L21]
    simp only [mE, hix, hx1, hx2, htS, hlim, if_neg g0, h1, h2, hcode, hnum]
    by_cases hleaf : isLeaf t = true
    · simp only [hleaf, if_true] at hok
      by_cases hn64 : n < 64
      · rw [if_pos hn64] at hok
        obtain ⟨u1, u2⟩ := q206l (N := N) (S := S) (line := line) hleaf
        have e206 : ∀ {β : Type} {f : Int32 → mM β}, mb (f206 N (mCh line t)) f S = f 1 S := by intro β f; simp only [mb, u1]
        have e204 : ∀ {β : Type} {f : Int32 → mM β}, mb (f204 N (mCh line t) x) f S = f (leafV G land (kfM S0 line) (t, x)) S := by intro β f; rw [← kfe]; simp only [mb, q204 hleaf hEnvS (fun h1 h2 => hN (t, x) (by simp) h1 h2)]
        have h3 : inR (Int32.ofNat n) 140 := ofN_inR (by omega) (by omega)
        have h4 := ofN_cl (i := n) (by omega)
        obtain ⟨S1, y, e1, r1, k1⟩ := ih (p + 1) (n + 1) m (leafV G land (kfM S0 line) (t, x) :: st) (ms_setA S 154 n (leafV G land (kfM S0 line) (t, x))) fu (by omega) hc2 hN2 hok (by omega) ⟨by omega, by simp [mG], by
          refine stR_up st n (fun j hj => ?_) hst
          have : j ≠ n := by omega
          simp [mG, this]⟩ (fun b hb => (hE b hb).tr (Eqc_A hb)) (by omega)
        refine ⟨S1, y, ?_, ?_, k1⟩
        · rw [if_pos u2, e206, if_neg (by decide)]
          simp only [mE, h1, h2, hnum, e204, h3, h4, ofN_s]
          rw [show 1200 * s + n0 + p + 1 = 1200 * s + n0 + (p + 1) by omega]
          exact e1
        · have : evS G land (kfM S0 line) ((t, x) :: l2) st = evS G land (kfM S0 line) l2 (leafV G land (kfM S0 line) (t, x) :: st) := by
            show evS G land (kfM S0 line) l2 (stepV G land (kfM S0 line) st (t, x)) = _
            unfold stepV
            rw [if_pos hleaf]
          rw [this]; exact r1
      · rw [if_neg hn64] at hok; cases hok
    · simp only [hleaf, Bool.false_eq_true, if_false] at hok
      by_cases h113 : t = 113
      · simp only [h113, if_true] at hok
        by_cases hn0 : 0 < n
        · rw [if_pos hn0] at hok
          cases st with
          | nil => have := stR_len _ _ hst; simp at this; omega
          | cons y r =>
            obtain ⟨r1, r2, r3⟩ := hst
            have e1 : Int32.ofNat n - 1 = Int32.ofNat (n - 1) := ofN_sub (j := 1) (by omega)
            have h3 : inR (Int32.ofNat (n - 1)) 140 := ofN_inR (by omega) (by omega)
            have h4 := ofN_cl (i := n - 1) (by omega)
            have c113 : ¬ (mCh line t ≠ 126) := fun q => q (by rw [h113]; rfl)
            obtain ⟨S1, z, e1', r1', k1⟩ := ih (p + 1) n m ((if y = 0 then 1 else 0) :: r) (ms_setA S 154 (n - 1) (if y = 0 then 1 else 0)) fu (by omega) hc2 hN2 hok hn ⟨r1, by simp [mG], by
              refine stR_up r (n - 1) (fun j hj => ?_) r3
              have : j ≠ n - 1 := by omega
              simp [mG, this]⟩ (fun b hb => (hE b hb).tr (Eqc_A hb)) (by omega)
            refine ⟨S1, z, ?_, ?_, k1⟩
            · rw [if_neg c113]
              rw [show 1200 * s + n0 + (p + 1) = 1200 * s + n0 + p + 1 by omega] at e1'
              simp only [mE, e1, h3, h4, r2]
              by_cases hy : y = 0
              · simp only [hy, ne_eq, not_true_eq_false, if_false, if_true, ofN_s] at e1' ⊢
                exact e1'
              · simp only [hy, ne_eq, not_false_eq_true, if_false, if_true, ofN_s] at e1' ⊢
                exact e1'
            · have : evS G land (kfM S0 line) ((t, x) :: l2) (y :: r) = evS G land (kfM S0 line) l2 ((if y = 0 then 1 else 0) :: r) := by
                show evS G land (kfM S0 line) l2 (stepV G land (kfM S0 line) (y :: r) (t, x)) = _
                unfold stepV
                rw [if_neg hleaf, if_pos h113]
              rw [this]; exact r1'
        · rw [if_neg hn0] at hok; cases hok
      · simp only [h113, if_false] at hok
        by_cases hop : isOp t = true
        · simp only [hop, if_true] at hok
          by_cases hn1 : 1 < n
          · rw [if_pos hn1] at hok
            cases st with
            | nil => have := stR_len _ _ hst; simp at this; omega
            | cons y r =>
              cases r with
              | nil => have := stR_len _ _ hst; simp at this; omega
              | cons z r =>
                obtain ⟨r1, r2, r3, r4, r5⟩ := hst
                have e1 : Int32.ofNat n + (-1) = Int32.ofNat (n - 1) := by
                  have : Int32.ofNat n - 1 = Int32.ofNat (n - 1) := ofN_sub (j := 1) (by omega)
                  rw [← this]; clear ih hc hc2 hE hok hEnv hEnvS; grind
                have e2 : Int32.ofNat (n - 1) - 1 = Int32.ofNat (n - 1 - 1) := ofN_sub (j := 1) (by omega)
                have h3 : inR (Int32.ofNat (n - 1)) 140 := ofN_inR (by omega) (by omega)
                have h4 := ofN_cl (i := n - 1) (by omega)
                have h5 : inR (Int32.ofNat (n - 1 - 1)) 140 := ofN_inR (by omega) (by omega)
                have h6 := ofN_cl (i := n - 1 - 1) (by omega)
                obtain ⟨u1, u2⟩ := q206o (N := N) (S := S) (line := line) hop
                have e206 : ∀ {β : Type} {f : Int32 → mM β}, mb (f206 N (mCh line t)) f S = f 0 S := by intro β f; simp only [mb, u1]
                have e205 : ∀ {β : Type} {f : Int32 → mM β}, mb (f205 N (mCh line t) z y) f S = f (joinV t z y) S := by intro β f; simp only [mb, q205 hop]
                obtain ⟨S1, w, e1', r1', k1⟩ := ih (p + 1) (n - 1) m (joinV t z y :: r) (ms_setA S 154 (n - 1 - 1) (joinV t z y)) fu (by omega) hc2 hN2 hok (by omega) ⟨by omega, by simp [mG], by
                  refine stR_up r (n - 1 - 1) (fun j hj => ?_) r5
                  have : j ≠ n - 1 - 1 := by omega
                  simp [mG, this]⟩ (fun b hb => (hE b hb).tr (Eqc_A hb)) (by omega)
                refine ⟨S1, w, ?_, ?_, k1⟩
                · rw [if_pos u2, e206, if_pos rfl]
                  rw [show 1200 * s + n0 + (p + 1) = 1200 * s + n0 + p + 1 by omega] at e1'
                  simp only [mE, e1, e2, h3, h4, h5, h6, r2, r4, e205, ofN_s]
                  exact e1'
                · have : evS G land (kfM S0 line) ((t, x) :: l2) (y :: z :: r) = evS G land (kfM S0 line) l2 (joinV t z y :: r) := by
                    show evS G land (kfM S0 line) l2 (stepV G land (kfM S0 line) (y :: z :: r) (t, x)) = _
                    unfold stepV
                    rw [if_neg hleaf, if_neg h113]
                  rw [this]; exact r1'
          · rw [if_neg hn1] at hok; cases hok
        · simp only [hop, Bool.false_eq_true, if_false] at hok; cases hok
/-- an e of the reference -/
theorem q207 {s line : Nat} {l : List (Nat × Int32)} (hN : 1300 ≤ N) (hs : s < 5) (hline : line < 15) (hseg : mSeg S s line l) (hk : okK line l) (hok : okL l 0 = some 1) (hEnv : mEnv S G land) : ∃ S1, f207 N (Int32.ofNat s) (Int32.ofNat line) S = some (valE G land (kfM S line) l, S1) ∧ ∀ b, b ≠ 154 → Eqc S S1 b := by
  obtain ⟨n0, hf, ht, hle, hcode⟩ := hseg
  have hix : 15 * Int32.ofNat s + Int32.ofNat line = Int32.ofNat (15 * s + line) := by clear hf ht hcode hEnv; grind [i32_of]
  have hx1 : inR (Int32.ofNat (15 * s + line)) 75 := ofN_inR (by omega) (by omega)
  have hx2 := ofN_cl (i := 15 * s + line) (by omega)
  have hst : 1200 * Int32.ofNat s + Int32.ofNat n0 = Int32.ofNat (1200 * s + n0 + 0) := by
    rw [show (1200 : Int32) = Int32.ofNat 1200 from rfl, ofN_mul, ofN_add]; rfl
  obtain ⟨S1, y, e1, r1, k1⟩ := valL_M (N := N) (K := fun (x1 : Int32) (x2 : Int32) (x3 : Int32) (x4 : Int32) => (mb (lA 154 140 0) fun v24 => mret v24)) hs hline hle ht hEnv l 0 0 1 [] S N (by omega) hcode hk hok (by omega) rfl (fun _ _ => Eqc.rf) (by omega)
  refine ⟨S1, ?_, k1⟩
  unfold f207
  simp only [mE, hix, hx1, hx2, hf, hst]
  refine Eq.trans e1 ?_
  have h3 : inR 0 140 := ofN_inR (i := 0) (by omega) (by omega)
  have h2 : (0 : Int32).toNatClampNeg = 0 := by decide
  simp only [mE, h3, h2]
  unfold valE
  cases hv : evS G land (kfM S line) l [] with
  | nil => rw [hv] at r1; cases r1
  | cons y r => rw [hv] at r1; simp only [List.headD_cons]; rw [← r1.2.1]
end EVM
