/-! e's in the class -/
section EVC
variable {N : Nat} {S0 S : ms_S} {G : Nat → Int32} {land : Int32} {a : Nat}
def kfC (S : ms_S) (x : Int32) : Int32 := if ms_I S 54 3 = x then 1 else 0
theorem t256 {t : Nat} (h : isLeaf t = true ∨ t = 113 ∨ isOp t = true) : t < 256 := by
  simp only [isLeaf, isOp, Bool.or_eq_true, beq_iff_eq, Bool.and_eq_true, decide_eq_true_eq] at h
  omega
theorem q33 {t : Nat} {n : Int32} (ht : isLeaf t = true) (hG : ∀ j, j < 11 → ms_A S 56 j = G j) (hl : ms_I S 54 2 = land) : f33 N (Int32.ofNat t) n S = some (leafV G land (kfC S) (t, n), S) := by
  have ht2 := t256 (Or.inl ht)
  simp only [isLeaf, Bool.or_eq_true, beq_iff_eq, Bool.and_eq_true, decide_eq_true_eq] at ht
  have c3 : (Int32.ofNat t = 3) ↔ t = 3 := ofN_eq (j := 3) (by omega) (by omega)
  have c111 : (Int32.ofNat t = 111) ↔ t = 111 := ofN_eq (j := 111) (by omega) (by omega)
  have c112 : (Int32.ofNat t = 112) ↔ t = 112 := ofN_eq (j := 112) (by omega) (by omega)
  unfold f33 leafV
  simp only [mE]
  by_cases h3 : t = 3
  · rw [if_pos (c3.2 h3), if_pos h3]
  · rw [if_neg (fun q => h3 (c3.1 q)), if_neg h3]
    by_cases h111 : t = 111
    · rw [if_pos (c111.2 h111), if_pos h111]
      unfold kfC
      by_cases e : ms_I S 54 3 = n
      · simp only [e, ne_eq, not_true_eq_false, if_false, if_true]
      · simp only [e, ne_eq, not_false_eq_true, if_false, if_true]
    · rw [if_neg (fun q => h111 (c111.1 q)), if_neg h111]
      by_cases h112 : t = 112
      · rw [if_pos (c112.2 h112), if_pos h112, hl]
        by_cases e : land = n
        · simp only [e, ne_eq, not_true_eq_false, if_false, if_true]
        · simp only [e, ne_eq, not_false_eq_true, if_false, if_true]
      · rw [if_neg (fun q => h112 (c112.1 q)), if_neg h112]
        have e : Int32.ofNat t - 100 = Int32.ofNat (t - 100) := ofN_sub (j := 100) (by omega)
        rw [e]
        have h1 : inR (Int32.ofNat (t - 100)) 11 := ofN_inR (by omega) (by omega)
        simp only [mE, h1, ofN_cl (i := t - 100) (by omega), hG (t - 100) (by omega)]
theorem q34 {t : Nat} {l r : Int32} (ht : isOp t = true) : f34 N (Int32.ofNat t) l r S = some (joinV t l r, S) := by
  simp only [isOp, Bool.or_eq_true, beq_iff_eq] at ht
  rcases ht with ((((((rfl | rfl) | rfl) | rfl) | rfl) | rfl) | rfl) | rfl
  · rfl
  · rfl
  · rfl
  · show (if l ≥ r then mret 0 else mret 1 : mM Int32) S = some (if l < r then 1 else 0, S)
    by_cases h : l < r
    · rw [if_pos h, if_neg (Int32.not_le.mpr h)]; rfl
    · rw [if_neg h, if_pos (Int32.not_lt.mp h)]; rfl
  · show (if l ≠ r then mret 0 else mret 1 : mM Int32) S = some (if l = r then 1 else 0, S)
    by_cases h : l = r
    · rw [if_pos h, if_neg (fun q => q h)]; rfl
    · rw [if_neg h, if_pos h]; rfl
  · show (if l ≤ r then mret 0 else mret 1 : mM Int32) S = some (if l > r then 1 else 0, S)
    by_cases h : l > r
    · rw [if_pos h, if_neg (Int32.not_le.mpr h)]; rfl
    · rw [if_neg h, if_pos (Int32.not_lt.mp h)]; rfl
  · show (if l ≠ 0 then mret 1 else if r = 0 then mret 0 else mret 1 : mM Int32) S = some (if l ≠ 0 ∨ r ≠ 0 then 1 else 0, S)
    by_cases h : l = 0
    · by_cases h2 : r = 0
      · rw [if_neg (fun q => q h), if_pos h2, if_neg (by rintro (q | q); exact q h; exact q h2)]; rfl
      · rw [if_neg (fun q => q h), if_neg h2, if_pos (Or.inr h2)]; rfl
    · rw [if_pos h, if_pos (Or.inl h)]; rfl
  · show (if l = 0 then mret 0 else if r = 0 then mret 0 else mret 1 : mM Int32) S = some (if l ≠ 0 ∧ r ≠ 0 then 1 else 0, S)
    by_cases h : l = 0
    · rw [if_pos h, if_neg (fun q => q.1 h)]; rfl
    · by_cases h2 : r = 0
      · rw [if_neg h, if_pos h2, if_neg (fun q => q.2 h2)]; rfl
      · rw [if_neg h, if_neg h2, if_pos ⟨h, h2⟩]; rfl
set_option maxHeartbeats 4000000 in
theorem valL_C {K : Int32 → Int32 → Int32 → Int32 → mM Int32} {n0 L cc : Nat} {x2 : Int32} (oa : o_cv a) (hcc : ms_I S0 a 1 = Int32.ofNat cc) (hL : n0 + L ≤ cc) (hc5 : cc ≤ 512) (hG : ∀ j, j < 11 → ms_A S0 56 j = G j) (hl : ms_I S0 54 2 = land) : ∀ (l2 : List (Nat × Int32)) (p n m : Nat) (st : List Int32) (S : ms_S) (fu : Nat), p + l2.length = L → (∀ j, j < l2.length → ms_A S0 (a + 1) (n0 + p + j) = enc (l2.getD j (0, 0))) → okN l2 → okL l2 n = some m → n ≤ 64 → stR (ms_A S 55) n st → (∀ b, b ≠ 55 → Eqc S0 S b) → l2.length < fu → ∃ S1, f32_L6 N a K fu x2 (Int32.ofNat (n0 + L)) (Int32.ofNat n) (Int32.ofNat (n0 + p)) S = K x2 (Int32.ofNat (n0 + L)) (Int32.ofNat m) (Int32.ofNat (n0 + L)) S1 ∧ stR (ms_A S1 55) m (evS G land (kfC S0) l2 st) ∧ ∀ b, b ≠ 55 → Eqc S0 S1 b := by
  have ha : a ≠ 55 ∧ a + 1 ≠ 55 := by rcases oa with rfl | rfl | rfl | rfl | rfl <;> decide
  intro l2
  induction l2 with
  | nil =>
    intro p n m st S fu hp hc hN hok hn hst hE hfu
    obtain ⟨fu, rfl⟩ : ∃ q, fu = q + 1 := ⟨fu - 1, by omega⟩
    have hp : p = L := by simpa using hp
    subst hp
    cases hok
    refine ⟨S, ?_, hst, hE⟩
    rw [f32_L6, if_pos ((ofN_le (by omega) (by omega)).2 (by omega))]
  | cons q l2 ih =>
    intro p n m st S fu hp hc hN hok hn hst hE hfu
    obtain ⟨fu, rfl⟩ : ∃ q, fu = q + 1 := ⟨fu - 1, by omega⟩
    have hp : p + (l2.length + 1) = L := by simpa using hp
    have hfu : l2.length + 1 < fu + 1 := by simpa using hfu
    obtain ⟨t, x⟩ := q
    have hx := hN (t, x) (by simp)
    have hN2 : okN l2 := fun q hq => hN q (by simp [hq])
    have hcode : ms_A S (a + 1) (n0 + p) = enc (t, x) := by rw [(hE (a + 1) ha.2).2.2.2.1]; exact hc 0 (by simp)
    have hc2 : ∀ j, j < l2.length → ms_A S0 (a + 1) (n0 + (p + 1) + j) = enc (l2.getD j (0, 0)) := fun j hj => by
      have := hc (j + 1) (by simp; omega)
      rw [show n0 + (p + 1) + j = n0 + p + (j + 1) by omega, this]
      rfl
    have g0 : ¬ Int32.ofNat (n0 + p) ≥ Int32.ofNat (n0 + L) := fun q => by have := (ofN_le (i := n0 + L) (j := n0 + p) (by omega) (by omega)).1 q; omega
    have g1 : ¬ Int32.ofNat (n0 + p) ≥ Int32.ofNat cc := fun q => by have := (ofN_le (i := cc) (j := n0 + p) (by omega) (by omega)).1 q; omega
    have h1 : inR (Int32.ofNat (n0 + p)) 512 := ofN_inR (by omega) (by omega)
    have h2 := ofN_cl (i := n0 + p) (by omega)
    have hcS : ms_I S a 1 = Int32.ofNat cc := by rw [(hE a ha.1).1]; exact hcc
    have kfe : kfC S = kfC S0 := by unfold kfC; rw [(hE 54 (by decide)).1]
    have hGS : ∀ j, j < 11 → ms_A S 56 j = G j := fun j hj => by rw [(hE 56 (by decide)).2.2.2.1]; exact hG j hj
    have hlS : ms_I S 54 2 = land := by rw [(hE 54 (by decide)).1]; exact hl
    unfold okL at hok
    rw [f32_L6]
    rw [if_neg g0]
    simp only [mE, hcS, if_neg g1, h1, h2, hcode]
    by_cases hleaf : isLeaf t = true
    · simp only [hleaf, if_true] at hok
      have ht := t256 (Or.inl hleaf)
      by_cases hn64 : n < 64
      · rw [if_pos hn64] at hok
        have et := enc_t ht hx.1 hx.2
        have en := enc_n ht hx.1 hx.2
        rw [et]
        have c64 : ¬ Int32.ofNat n ≥ 64 := fun q => by have := (ofN_le (i := 64) (j := n) (by omega) (by omega)).1 q; omega
        have h3 : inR (Int32.ofNat n) 64 := ofN_inR hn64 (by omega)
        have h4 := ofN_cl (i := n) (by omega)
        have e33 : ∀ {β : Type} {f : Int32 → mM β}, mb (f33 N (Int32.ofNat t) x) f S = f (leafV G land (kfC S0) (t, x)) S := by intro β f; rw [← kfe]; simp only [mb, q33 hleaf hGS hlS]
        obtain ⟨S1, e1, r1, k1⟩ := ih (p + 1) (n + 1) m (leafV G land (kfC S0) (t, x) :: st) (ms_setA S 55 n (leafV G land (kfC S0) (t, x))) fu (by omega) hc2 hN2 hok (by omega) ⟨by omega, by simp [mG], by
          refine stR_up st n (fun j hj => ?_) hst
          have : j ≠ n := by omega
          simp [mG, this]⟩ (fun b hb => (hE b hb).tr (Eqc_A hb)) (by omega)
        refine ⟨S1, ?_, ?_, k1⟩
        · have key : (if Int32.ofNat n ≥ 64 then f32_L6 N a K fu x2 (Int32.ofNat (n0 + L)) (Int32.ofNat n) (Int32.ofNat (n0 + p) + 1) S else (mb (f33 N (Int32.ofNat t) (enc (t, x) >>> (8 &&& 31))) fun v5 => mb (sA 55 64 (Int32.ofNat n) v5) fun _ => f32_L6 N a K fu x2 (Int32.ofNat (n0 + L)) (Int32.ofNat n + 1) (Int32.ofNat (n0 + p) + 1)) S) = K x2 (Int32.ofNat (n0 + L)) (Int32.ofNat m) (Int32.ofNat (n0 + L)) S1 := by
            rw [if_neg c64]
            simp only [mE, h1, h2, hcode, en, e33, h3, h4, ofN_s]
            exact e1
          by_cases t3 : Int32.ofNat t = 3
          · rw [if_pos t3]; exact key
          · have tn : t ≠ 3 := fun q => t3 (by rw [q]; rfl)
            simp only [isLeaf, Bool.or_eq_true, beq_iff_eq, Bool.and_eq_true, decide_eq_true_eq] at hleaf
            have c1 : ¬ Int32.ofNat t < 100 := fun q => by have := (ofN_lt (i := t) (j := 100) (by omega) (by omega)).1 q; omega
            have c2 : ¬ Int32.ofNat t > 112 := fun q => by have := (ofN_lt (i := 112) (j := t) (by omega) (by omega)).1 q; omega
            rw [if_neg t3, if_neg c1, if_neg c2]; exact key
        · have : evS G land (kfC S0) ((t, x) :: l2) st = evS G land (kfC S0) l2 (leafV G land (kfC S0) (t, x) :: st) := by
            show evS G land (kfC S0) l2 (stepV G land (kfC S0) st (t, x)) = _
            unfold stepV
            rw [if_pos hleaf]
          rw [this]; exact r1
      · rw [if_neg hn64] at hok; cases hok
    · simp only [hleaf, Bool.false_eq_true, if_false] at hok
      have hnl : t ≠ 3 ∧ (t < 100 ∨ t > 112) := by
        simp only [isLeaf, Bool.or_eq_true, beq_iff_eq, Bool.and_eq_true, decide_eq_true_eq] at hleaf
        omega
      have ht : t < 256 := by
        by_cases h113 : t = 113
        · omega
        · simp only [h113, if_false] at hok
          by_cases hop : isOp t = true
          · exact t256 (Or.inr (Or.inr hop))
          · simp only [hop, Bool.false_eq_true, if_false] at hok; cases hok
      have et := enc_t ht hx.1 hx.2
      rw [et]
      have c3 : ¬ Int32.ofNat t = 3 := fun q => by have := (ofN_eq (i := t) (j := 3) (by omega) (by omega)).1 q; omega
      rw [if_neg c3]
      by_cases h113 : t = 113
      · simp only [h113, if_true] at hok
        by_cases hn0 : 0 < n
        · rw [if_pos hn0] at hok
          cases st with
          | nil => have := stR_len _ _ hst; simp at this; omega
          | cons y r =>
            obtain ⟨r1, r2, r3⟩ := hst
            have e1 : Int32.ofNat n - 1 = Int32.ofNat (n - 1) := ofN_sub (j := 1) (by omega)
            have h3 : inR (Int32.ofNat (n - 1)) 64 := ofN_inR (by omega) (by omega)
            have h4 := ofN_cl (i := n - 1) (by omega)
            have c0 : ¬ Int32.ofNat n ≤ 0 := fun q => by have := (ofN_le (i := n) (j := 0) (by omega) (by omega)).1 q; omega
            have c113 : ¬ (Int32.ofNat t ≠ 113) := fun q => q (by rw [h113]; rfl)
            obtain ⟨S1, e1', r1', k1⟩ := ih (p + 1) n m ((if y = 0 then 1 else 0) :: r) (ms_setA S 55 (n - 1) (if y = 0 then 1 else 0)) fu (by omega) hc2 hN2 hok hn ⟨r1, by simp [mG], by
              refine stR_up r (n - 1) (fun j hj => ?_) r3
              have : j ≠ n - 1 := by omega
              simp [mG, this]⟩ (fun b hb => (hE b hb).tr (Eqc_A hb)) (by omega)
            refine ⟨S1, ?_, ?_, k1⟩
            · have cgt : Int32.ofNat t > 112 := by rw [h113]; decide
              have clt : ¬ Int32.ofNat t < 100 := by rw [h113]; decide
              rw [if_neg clt, if_pos cgt, if_neg c113, if_neg c0]
              simp only [mE, e1, h3, h4, r2]
              by_cases hy : y = 0
              · simp only [hy, ne_eq, not_true_eq_false, if_false, if_true, ofN_s] at e1' ⊢
                exact e1'
              · simp only [hy, ne_eq, not_false_eq_true, if_false, if_true, ofN_s] at e1' ⊢
                exact e1'
            · have : evS G land (kfC S0) ((t, x) :: l2) (y :: r) = evS G land (kfC S0) l2 ((if y = 0 then 1 else 0) :: r) := by
                show evS G land (kfC S0) l2 (stepV G land (kfC S0) (y :: r) (t, x)) = _
                unfold stepV
                rw [if_neg hleaf, if_pos h113]
              rw [this]; exact r1'
        · rw [if_neg hn0] at hok; cases hok
      · simp only [h113, if_false] at hok
        by_cases hop : isOp t = true
        · simp only [hop, if_true] at hok
          by_cases hn1 : 1 < n
          · rw [if_pos hn1] at hok
            cases st with
            | nil => have := stR_len _ _ hst; simp at this; omega
            | cons y r =>
              cases r with
              | nil => have := stR_len _ _ hst; simp at this; omega
              | cons z r =>
                obtain ⟨r1, r2, r3, r4, r5⟩ := hst
                have e1 : Int32.ofNat n + (-1) = Int32.ofNat (n - 1) := by
                  have : Int32.ofNat n - 1 = Int32.ofNat (n - 1) := ofN_sub (j := 1) (by omega)
                  rw [← this]; clear ih hc hc2 hE hok; grind
                have e2 : Int32.ofNat (n - 1) - 1 = Int32.ofNat (n - 1 - 1) := ofN_sub (j := 1) (by omega)
                have h3 : inR (Int32.ofNat (n - 1)) 64 := ofN_inR (by omega) (by omega)
                have h4 := ofN_cl (i := n - 1) (by omega)
                have h5 : inR (Int32.ofNat (n - 1 - 1)) 64 := ofN_inR (by omega) (by omega)
                have h6 := ofN_cl (i := n - 1 - 1) (by omega)
                have c1 : ¬ Int32.ofNat n ≤ 1 := fun q => by have := (ofN_le (i := n) (j := 1) (by omega) (by omega)).1 q; omega
                have c113 : Int32.ofNat t ≠ 113 := fun q => by have := (ofN_eq (i := t) (j := 113) (by omega) (by omega)).1 q; omega
                have e34 : ∀ {β : Type} {f : Int32 → mM β}, mb (f34 N (Int32.ofNat t) z y) f S = f (joinV t z y) S := by intro β f; simp only [mb, q34 hop]
                obtain ⟨S1, e1', r1', k1⟩ := ih (p + 1) (n - 1) m (joinV t z y :: r) (ms_setA S 55 (n - 1 - 1) (joinV t z y)) fu (by omega) hc2 hN2 hok (by omega) ⟨by omega, by simp [mG], by
                  refine stR_up r (n - 1 - 1) (fun j hj => ?_) r5
                  have : j ≠ n - 1 - 1 := by omega
                  simp [mG, this]⟩ (fun b hb => (hE b hb).tr (Eqc_A hb)) (by omega)
                refine ⟨S1, ?_, ?_, k1⟩
                · have body : (if Int32.ofNat t ≠ 113 then (if Int32.ofNat n ≤ 1 then f32_L6 N a K fu x2 (Int32.ofNat (n0 + L)) (Int32.ofNat n) (Int32.ofNat (n0 + p) + 1) S else (mb (lA 55 64 ((Int32.ofNat n + (-1)) - 1)) fun v10 => mb (lA 55 64 (Int32.ofNat n + (-1))) fun v12 => mb (f34 N (Int32.ofNat t) v10 v12) fun v14 => mb (sA 55 64 ((Int32.ofNat n + (-1)) - 1) v14) fun _ => f32_L6 N a K fu x2 (Int32.ofNat (n0 + L)) (Int32.ofNat n + (-1)) (Int32.ofNat (n0 + p) + 1)) S) else (if Int32.ofNat n ≤ 0 then f32_L6 N a K fu x2 (Int32.ofNat (n0 + L)) (Int32.ofNat n) (Int32.ofNat (n0 + p) + 1) S else (mb (lA 55 64 (Int32.ofNat n - 1)) fun v18 => if v18 ≠ 0 then (mb (sA 55 64 (Int32.ofNat n - 1) 0) fun _ => f32_L6 N a K fu x2 (Int32.ofNat (n0 + L)) (Int32.ofNat n) (Int32.ofNat (n0 + p) + 1)) else (mb (sA 55 64 (Int32.ofNat n - 1) 1) fun _ => f32_L6 N a K fu x2 (Int32.ofNat (n0 + L)) (Int32.ofNat n) (Int32.ofNat (n0 + p) + 1))) S)) = K x2 (Int32.ofNat (n0 + L)) (Int32.ofNat m) (Int32.ofNat (n0 + L)) S1 := by
                    rw [if_pos c113, if_neg c1]
                    simp only [mE, e1, e2, h3, h4, h5, h6, r2, r4, e34, ofN_s]
                    exact e1'
                  by_cases c100 : Int32.ofNat t < 100
                  · rw [if_pos c100]; exact body
                  · rw [if_neg c100]
                    have c112 : Int32.ofNat t > 112 := by
                      have : ¬ t < 100 := fun q => c100 ((ofN_lt (j := 100) (by omega) (by omega)).2 q)
                      exact (ofN_lt (i := 112) (by omega) (by omega)).2 (by omega)
                    rw [if_pos c112]; exact body
                · have : evS G land (kfC S0) ((t, x) :: l2) (y :: z :: r) = evS G land (kfC S0) l2 (joinV t z y :: r) := by
                    show evS G land (kfC S0) l2 (stepV G land (kfC S0) (y :: z :: r) (t, x)) = _
                    unfold stepV
                    rw [if_neg hleaf, if_neg h113]
                  rw [this]; exact r1'
          · rw [if_neg hn1] at hok; cases hok
        · simp only [hop, Bool.false_eq_true, if_false] at hok; cases hok
/-- an e of the class -/
theorem q32 {f t : Int32} {l : List (Nat × Int32)} (hN : 600 ≤ N) (oa : o_cv a) (hs : cSeg S a f t l) (hn : okN l) (hok : okL l 0 = some 1 ∨ l = []) (hG : ∀ j, j < 11 → ms_A S 56 j = G j) (hl : ms_I S 54 2 = land) : ∃ S1, f32 N a f t S = some (valE G land (kfC S) l, S1) ∧ ∀ b, b ≠ 55 → Eqc S S1 b := by
  obtain ⟨n0, rfl, rfl, hle, ⟨cc, hcc, hL, hc5⟩, hcode⟩ := hs
  unfold f32
  rcases hok with hok | rfl
  · obtain ⟨S1, e1, r1, k1⟩ := valL_C (N := N) (K := fun (x2 : Int32) (x3 : Int32) (x4 : Int32) (x5 : Int32) => (mlet (fun (x2 : Int32) (x3 : Int32) (x4 : Int32) (x5 : Int32) (y0 : Int32) => (mret y0)) fun J191 => if x4 ≤ 0 then (J191 x2 x3 x4 x5 0) else (mb (lA 55 64 0) fun v20 => J191 x2 x3 x4 x5 v20))) (x2 := Int32.ofNat n0) oa hcc hL hc5 hG hl l 0 0 1 [] S N (by omega) hcode hn hok (by omega) rfl (fun _ _ => Eqc.rf) (by omega)
    refine ⟨S1, ?_, k1⟩
    refine Eq.trans e1 ?_
    have h1 : inR (Int32.ofNat 0) 64 := ofN_inR (by omega) (by omega)
    have h2 : (0 : Int32).toNatClampNeg = 0 := by decide
    have h3 : inR 0 64 := h1
    simp only [mE, show ¬ (Int32.ofNat 1 ≤ 0) by decide, if_false, h3, h2]
    unfold valE
    cases hv : evS G land (kfC S) l [] with
    | nil => rw [hv] at r1; cases r1
    | cons y r => rw [hv] at r1; simp only [List.headD_cons]; rw [← r1.2.1]
  · have hle2 : n0 ≤ 512 := by simpa using hle
    have hge : Int32.ofNat n0 ≥ Int32.ofNat (n0 + ([] : List (Nat × Int32)).length) := (ofN_le (by simp; omega) (by omega)).2 (by simp)
    refine ⟨S, ?_, fun _ _ => Eqc.rf⟩
    obtain ⟨M, rfl⟩ : ∃ q, N = q + 1 := ⟨N - 1, by omega⟩
    simp only [mlet]
    rw [f32_L6, if_pos hge]
    rfl
end EVC
