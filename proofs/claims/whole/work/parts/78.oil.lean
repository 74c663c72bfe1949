/-! oil -/
def absF (v : Int32) : Int32 := if 0 ≤ v then v else 0 - v
def updI (f : Nat → Int32) (k : Nat) (v : Int32) : Nat → Int32 := fun j => if j = k then v else f j
def gvF (C O : Nat → Int32) (i : Nat) : Int32 := O (i + 1) * absF (C i) / 10
/-- one step: what the first i cells gave is gone on -/
def drF (C O : Nat → Int32) : Nat → Nat → Int32
  | 0 => O
  | i + 1 => updI (updI (drF C O i) (i + 1) (drF C O i (i + 1) - gvF C O i)) (if C i < 0 then i else i + 2) (updI (drF C O i) (i + 1) (drF C O i (i + 1) - gvF C O i) (if C i < 0 then i else i + 2) + gvF C O i)
def drN (C : Nat → Int32) (n : Nat) : Nat → (Nat → Int32) → Nat → Int32
  | 0, O => O
  | s + 1, O => drN C n s (drF C O n)
def spF (sp : Nat) (t : Int32) : Nat → Int32 := fun j => if j = sp + 1 then t else 0
def okOil (A : Ab) (sp t st c : Int32) : Bool := decide ((0 ≤ sp ∧ sp < Int32.ofNat (aN A 1)) ∧ (0 ≤ t ∧ t ≤ 99999) ∧ (0 ≤ st ∧ st ≤ 1000) ∧ ((0 ≤ c ∧ c < Int32.ofNat (aN A 1)) ∨ c = -1 ∨ c = 20))
def ansOil (A : Ab) (sp t st c : Int32) : Int32 := if okOil A sp t st c = true then drN (aX A 3) (aN A 1) st.toNatClampNeg (spF sp.toNatClampNeg t) (if c = 20 then aN A 1 + 1 else if c = -1 then 0 else c.toNatClampNeg + 1) else -1
section OIL
variable {N : Nat} {A : Ab}
theorem spillL {a sp : Nat} {t : Int32} (hsp : sp < 20) : ∀ m i n (S : ms_S), m + i = 22 → m < n → ∃ S1, f83_L2 N a (fun _ _ _ => mret ()) n (Int32.ofNat sp) t (Int32.ofNat i) S = some ((), S1) ∧ (∀ j, i ≤ j → j < 22 → ms_A S1 (a + 7) j = spF sp t j) ∧ (∀ j, j < i → ms_A S1 (a + 7) j = ms_A S (a + 7) j) ∧ ∀ b, b ≠ a + 7 → Eqc S S1 b := by
  intro m
  induction m with
  | zero =>
    intro i n S hi hn
    obtain ⟨n, rfl⟩ : ∃ q, n = q + 1 := ⟨n - 1, by omega⟩
    have e : i = 22 := by omega
    subst e
    refine ⟨S, ?_, fun j h1 h2 => absurd h1 (by omega), fun _ _ => rfl, fun _ _ => Eqc.rf⟩
    rw [f83_L2, if_pos (by decide)]; rfl
  | succ m ih =>
    intro i n S hi hn
    obtain ⟨n, rfl⟩ : ∃ q, n = q + 1 := ⟨n - 1, by omega⟩
    have hge : ¬ Int32.ofNat i ≥ Int32.ofNat 22 := fun q => by have := (ofN_le (i := 22) (j := i) (by omega) (by omega)).1 q; omega
    have h1 : inR (Int32.ofNat i) 22 := ofN_inR (by omega) (by omega)
    have h2 := ofN_cl (i := i) (by omega)
    have hc : (Int32.ofNat i ≠ Int32.ofNat sp + 1) ↔ i ≠ sp + 1 := by rw [ofN_s]; exact not_congr (ofN_eq (by omega) (by omega))
    obtain ⟨S1, e1, r1, r2, k1⟩ := ih (i + 1) n (ms_setA S (a + 7) i (spF sp t i)) (by omega) (by omega)
    refine ⟨S1, ?_, fun j hj1 hj2 => ?_, fun j hj => ?_, fun b hb => (Eqc_A hb).tr (k1 b hb)⟩
    · rw [f83_L2, if_neg hge]
      simp only [mE]
      unfold spF at e1
      by_cases hx : i = sp + 1
      · rw [if_neg (fun q => (hc.1 q) hx)]
        rw [if_pos hx] at e1
        simp only [mE, h1, h2, ofN_s]; exact e1
      · rw [if_pos (hc.2 hx)]
        rw [if_neg hx] at e1
        simp only [mE, h1, h2, ofN_s]; exact e1
    · by_cases hji : j = i
      · rw [hji, r2 i (by omega)]; simp [mG]
      · exact r1 j (by omega) hj2
    · rw [r2 j (by omega)]
      have : j ≠ i := by omega
      simp [mG, this]
theorem q83 {a sp : Nat} {t : Int32} {S : ms_S} (hN : 30 ≤ N) (hsp : sp < 20) : ∃ S1, f83 N a (Int32.ofNat sp) t S = some ((), S1) ∧ (∀ j, j < 22 → ms_A S1 (a + 7) j = spF sp t j) ∧ ∀ b, b ≠ a + 7 → Eqc S S1 b := by
  obtain ⟨S1, e1, r1, _, k1⟩ := spillL (N := N) (a := a) (t := t) hsp 22 0 N S (by omega) (by omega)
  exact ⟨S1, e1, fun j hj => r1 j (by omega) hj, k1⟩
theorem n10 : ¬ ((10 : Int32) = 0) := by decide
theorem Ediv {x : Int32} {β : Type} {f : Int32 → mM β} {S : ms_S} : mb (mdiv x 10) f S = f (x / 10) S := by simp only [mb, mdiv, if_neg n10]
theorem givenL {a n0 : Nat} {C O : Nat → Int32} {K : Int32 → mM Unit} (hn0 : n0 ≤ 20) : ∀ m i n (S : ms_S), m + i = n0 → m < n → ms_I S a 4 = Int32.ofNat n0 → (∀ j, j < n0 → ms_A S (a + 3) j = C j) → (∀ j, j < 22 → ms_A S (a + 7) j = O j) → (∀ j, j < i → ms_A S (a + 8) j = gvF C O j) → ∃ S1, f84_L2 N a K n (Int32.ofNat i) S = K (Int32.ofNat n0) S1 ∧ (∀ j, j < n0 → ms_A S1 (a + 8) j = gvF C O j) ∧ ∀ b, b ≠ a + 8 → Eqc S S1 b := by
  intro m
  induction m with
  | zero =>
    intro i n S hi hn h4 hC hO hg
    obtain ⟨n, rfl⟩ : ∃ q, n = q + 1 := ⟨n - 1, by omega⟩
    have e : i = n0 := by omega
    subst e
    refine ⟨S, ?_, hg, fun _ _ => Eqc.rf⟩
    rw [f84_L2]
    simp only [mE, h4]
    rw [if_pos ((ofN_le (by omega) (by omega)).2 (Nat.le_refl _))]
  | succ m ih =>
    intro i n S hi hn h4 hC hO hg
    obtain ⟨n, rfl⟩ : ∃ q, n = q + 1 := ⟨n - 1, by omega⟩
    have hge : ¬ Int32.ofNat i ≥ Int32.ofNat n0 := fun q => by have := (ofN_le (i := n0) (j := i) (by omega) (by omega)).1 q; omega
    have h1 : inR (Int32.ofNat i) 20 := ofN_inR (by omega) (by omega)
    have h2 := ofN_cl (i := i) (by omega)
    have h3 : inR (Int32.ofNat (i + 1)) 22 := ofN_inR (by omega) (by omega)
    have h5 := ofN_cl (i := i + 1) (by omega)
    obtain ⟨S1, e1, r1, k1⟩ := ih (i + 1) n (ms_setA S (a + 8) i (gvF C O i)) (by omega) (by omega) (by simp only [mGo]; exact h4) (fun j hj => by simp only [mG]; rw [if_neg (by omega)]; exact hC j hj) (fun j hj => by simp only [mG]; rw [if_neg (by omega)]; exact hO j hj) (fun j hj => by
      by_cases hji : j = i
      · simp [mG, hji]
      · simp only [mG, hji, and_false, if_false]; exact hg j (by omega))
    refine ⟨S1, ?_, r1, fun b hb => (Eqc_A hb).tr (k1 b hb)⟩
    rw [f84_L2]
    simp only [mE, h4, if_neg hge, ofN_s, h1, h2, h3, h5, hO (i + 1) (by omega), hC i (by omega), Ediv]
    exact e1
theorem moveL {a n0 : Nat} {C O : Nat → Int32} (hn0 : n0 ≤ 20) : ∀ m i n (S : ms_S), m + i = n0 → m < n → ms_I S a 4 = Int32.ofNat n0 → (∀ j, j < n0 → ms_A S (a + 3) j = C j) → (∀ j, j < n0 → ms_A S (a + 8) j = gvF C O j) → (∀ j, j < 22 → ms_A S (a + 7) j = drF C O i j) → ∃ S1, f84_L45 N a (fun _ => mret ()) n (Int32.ofNat i) S = some ((), S1) ∧ (∀ j, j < 22 → ms_A S1 (a + 7) j = drF C O n0 j) ∧ ∀ b, b ≠ a + 7 → Eqc S S1 b := by
  intro m
  induction m with
  | zero =>
    intro i n S hi hn h4 hC hg hO
    obtain ⟨n, rfl⟩ : ∃ q, n = q + 1 := ⟨n - 1, by omega⟩
    have e : i = n0 := by omega
    subst e
    refine ⟨S, ?_, hO, fun _ _ => Eqc.rf⟩
    rw [f84_L45]
    simp only [mE, h4]
    rw [if_pos ((ofN_le (by omega) (by omega)).2 (Nat.le_refl _))]
  | succ m ih =>
    intro i n S hi hn h4 hC hg hO
    obtain ⟨n, rfl⟩ : ∃ q, n = q + 1 := ⟨n - 1, by omega⟩
    have hge : ¬ Int32.ofNat i ≥ Int32.ofNat n0 := fun q => by have := (ofN_le (i := n0) (j := i) (by omega) (by omega)).1 q; omega
    have h1 : inR (Int32.ofNat i) 20 := ofN_inR (by omega) (by omega)
    have h2 := ofN_cl (i := i) (by omega)
    have h3 : inR (Int32.ofNat (i + 1)) 22 := ofN_inR (by omega) (by omega)
    have h5 := ofN_cl (i := i + 1) (by omega)
    have e2 : Int32.ofNat i + 2 = Int32.ofNat (i + 2) := ofN_add (j := 2)
    have key : ∀ k : Nat, k = (if C i < 0 then i else i + 2) → (mb (lA (a + 7) 22 (Int32.ofNat k)) fun v12 => mb (lA (a + 8) 20 (Int32.ofNat i)) fun v14 => mb (sA (a + 7) 22 (Int32.ofNat k) (v12 + v14)) fun _ => f84_L45 N a (fun _ => mret ()) n (Int32.ofNat (i + 1))) (ms_setA S (a + 7) (i + 1) (drF C O i (i + 1) - gvF C O i)) = f84_L45 N a (fun _ => mret ()) n (Int32.ofNat (i + 1)) (ms_setA (ms_setA S (a + 7) (i + 1) (drF C O i (i + 1) - gvF C O i)) (a + 7) k (updI (drF C O i) (i + 1) (drF C O i (i + 1) - gvF C O i) k + gvF C O i)) := by
      intro k hk
      have hk22 : k < 22 := by rw [hk]; split <;> omega
      have g1 : inR (Int32.ofNat k) 22 := ofN_inR hk22 (by omega)
      have g2 := ofN_cl (i := k) (by omega)
      have r : ms_A (ms_setA S (a + 7) (i + 1) (drF C O i (i + 1) - gvF C O i)) (a + 7) k = updI (drF C O i) (i + 1) (drF C O i (i + 1) - gvF C O i) k := by
        unfold updI
        by_cases hki : k = i + 1
        · simp [mG, hki]
        · simp only [mG, hki, and_false, if_false]; exact hO k hk22
      have r8 : ms_A (ms_setA S (a + 7) (i + 1) (drF C O i (i + 1) - gvF C O i)) (a + 8) i = gvF C O i := by
        simp only [mG]; rw [if_neg (by omega)]; exact hg i (by omega)
      simp only [mE, g1, g2, r, h1, h2, r8, ofN_s]
    obtain ⟨S1, e1, r1, k1⟩ := ih (i + 1) n (ms_setA (ms_setA S (a + 7) (i + 1) (drF C O i (i + 1) - gvF C O i)) (a + 7) (if C i < 0 then i else i + 2) (updI (drF C O i) (i + 1) (drF C O i (i + 1) - gvF C O i) (if C i < 0 then i else i + 2) + gvF C O i)) (by omega) (by omega) (by simp only [mGo]; exact h4) (fun j hj => by simp only [mG]; rw [if_neg (by omega), if_neg (by omega)]; exact hC j hj) (fun j hj => by simp only [mG]; rw [if_neg (by omega), if_neg (by omega)]; exact hg j hj) (fun j hj => by
      rw [drF]
      simp only [mG, updI]
      by_cases hj1 : j = if C i < 0 then i else i + 2
      · simp [hj1]
      · simp only [hj1, and_false, if_false]
        by_cases hj2 : j = i + 1
        · simp [hj2]
        · simp only [hj2, and_false, if_false]; exact hO j hj)
    refine ⟨S1, ?_, r1, fun b hb => ((Eqc_A hb).tr (Eqc_A hb)).tr (k1 b hb)⟩
    rw [f84_L45]
    simp only [mE, h4, if_neg hge, ofN_s, h1, h2, h3, h5, hO (i + 1) (by omega), hg i (by omega)]
    have r3 : ms_A (ms_setA S (a + 7) (i + 1) (drF C O i (i + 1) - gvF C O i)) (a + 3) i = C i := by
      simp only [mG]; rw [if_neg (by omega)]; exact hC i (by omega)
    rw [r3]
    by_cases hc : C i < 0
    · rw [if_neg (Int32.not_le.mpr hc)]
      refine (key i (by rw [if_pos hc])).trans ?_
      rw [if_pos hc] at e1; exact e1
    · rw [if_pos (Int32.not_lt.mp hc), e2]
      refine (key (i + 2) (by rw [if_neg hc])).trans ?_
      rw [if_neg hc] at e1; exact e1
theorem q84 {a n0 : Nat} {C O : Nat → Int32} {S : ms_S} (hN : 30 ≤ N) (hn0 : n0 ≤ 20) (h4 : ms_I S a 4 = Int32.ofNat n0) (hC : ∀ j, j < n0 → ms_A S (a + 3) j = C j) (hO : ∀ j, j < 22 → ms_A S (a + 7) j = O j) : ∃ S1, f84 N a S = some ((), S1) ∧ (∀ j, j < 22 → ms_A S1 (a + 7) j = drF C O n0 j) ∧ ∀ b, b ≠ a + 7 → b ≠ a + 8 → Eqc S S1 b := by
  obtain ⟨S1, e1, r1, k1⟩ := givenL (N := N) (a := a) (C := C) (O := O) (K := fun (x1 : Int32) => (f84_L45 N a (fun (x1 : Int32) => (mret ())) N 0)) hn0 n0 0 N S (by omega) (by omega) h4 hC hO (fun j hj => absurd hj (by omega))
  obtain ⟨S2, e2, r2, k2⟩ := moveL (N := N) (a := a) (C := C) (O := O) hn0 n0 0 N S1 (by omega) (by omega) (by rw [(k1 a (by omega)).1]; exact h4) (fun j hj => by rw [(k1 (a + 3) (by omega)).2.2.2.1]; exact hC j hj) r1 (fun j hj => by rw [(k1 (a + 7) (by omega)).2.2.2.1]; exact hO j hj)
  exact ⟨S2, Eq.trans e1 e2, r2, fun b h1 h2 => (k1 b h2).tr (k2 b h1)⟩
theorem driftL_C {a n0 st : Nat} {C : Nat → Int32} {x1 x2 x4 x5 : Int32} {K : Int32 → Int32 → Int32 → Int32 → Int32 → Int32 → mM Int32} (hN : 30 ≤ N) (oa : o_st a) (hn0 : n0 ≤ 20) (hst : st ≤ 1000) : ∀ m i n (O : Nat → Int32) (S : ms_S), m + i = st → m < n → ms_R S 4 3 = some a → ms_I S a 4 = Int32.ofNat n0 → (∀ j, j < n0 → ms_A S (a + 3) j = C j) → (∀ j, j < 22 → ms_A S (a + 7) j = O j) → ∃ S1, f138_L78 N K n x1 x2 (Int32.ofNat st) x4 x5 (Int32.ofNat i) S = K x1 x2 (Int32.ofNat st) x4 x5 (Int32.ofNat st) S1 ∧ (∀ j, j < 22 → ms_A S1 (a + 7) j = drN C n0 m O j) ∧ ∀ b, b ≠ a + 7 → b ≠ a + 8 → Eqc S S1 b := by
  have ha : 4 ≠ a + 7 ∧ 4 ≠ a + 8 := by rcases oa with rfl | rfl <;> decide
  intro m
  induction m with
  | zero =>
    intro i n O S hi hn hR h4 hC hO
    obtain ⟨n, rfl⟩ : ∃ q, n = q + 1 := ⟨n - 1, by omega⟩
    have e : i = st := by omega
    subst e
    refine ⟨S, ?_, hO, fun _ _ _ => Eqc.rf⟩
    rw [f138_L78, if_pos ((ofN_le (by omega) (by omega)).2 (Nat.le_refl _))]
  | succ m ih =>
    intro i n O S hi hn hR h4 hC hO
    obtain ⟨n, rfl⟩ : ∃ q, n = q + 1 := ⟨n - 1, by omega⟩
    have hge : ¬ Int32.ofNat i ≥ Int32.ofNat st := fun q => by have := (ofN_le (i := st) (j := i) (by omega) (by omega)).1 q; omega
    obtain ⟨S1, e1, r1, k1⟩ := q84 (N := N) hN hn0 h4 hC hO
    obtain ⟨S2, e2, r2, k2⟩ := ih (i + 1) n (drF C O n0) S1 (by omega) (by omega) (by rw [(k1 4 ha.1 ha.2).2.2.1]; exact hR) (by rw [(k1 a (by omega) (by omega)).1]; exact h4) (fun j hj => by rw [(k1 (a + 3) (by omega) (by omega)).2.2.2.1]; exact hC j hj) r1
    refine ⟨S2, ?_, r2, fun b h1 h2 => (k1 b h1 h2).tr (k2 b h1 h2)⟩
    rw [f138_L78, if_neg hge, EgRo hR (isSt_o oa)]
    have : ∀ {β : Type} {f : Unit → mM β}, mb (f84 N a) f S = f () S1 := by intro β f; simp only [mb, e1]
    rw [this, ofN_s]
    exact e2
theorem q85 {a n0 : Nat} {O : Nat → Int32} {c : Int32} {S : ms_S} (hn0 : n0 ≤ 20) (h4 : ms_I S a 4 = Int32.ofNat n0) (hO : ∀ j, j < 22 → ms_A S (a + 7) j = O j) (hc : (0 ≤ c ∧ c < Int32.ofNat n0) ∨ c = -1 ∨ c = 20) : f85 N a c S = some (O (if c = 20 then n0 + 1 else if c = -1 then 0 else c.toNatClampNeg + 1), S) := by
  have key : ∀ k : Nat, k < 22 → (if Int32.ofNat k < 0 then mret (-1) else (if Int32.ofNat k ≥ (Int32.ofNat 22) then mret (-1) else (mb (lA (a + 7) 22 (Int32.ofNat k)) fun v1 => mret v1)) : mM Int32) S = some (O k, S) := by
    intro k hk
    have h1 : inR (Int32.ofNat k) 22 := ofN_inR hk (by omega)
    rw [if_neg (ofN_nl (i := k) (by omega)), if_neg (fun q => by have := (ofN_le (i := 22) (j := k) (by omega) (by omega)).1 q; omega)]
    simp only [mE, h1, ofN_cl (i := k) (by omega), hO k hk]
  unfold f85
  simp only [mE]
  by_cases h20 : c = 20
  · rw [if_neg (fun q => q h20), h4, if_pos h20, ofN_s]
    have := key (n0 + 1) (by omega)
    simp only [mE] at this
    exact this
  · rw [if_pos h20, if_neg h20]
    by_cases hm : c = -1
    · rw [if_pos hm, hm]
      have := key 0 (by omega)
      simp only [mE] at this
      exact this
    · rw [if_neg hm]
      have hin : 0 ≤ c ∧ c < Int32.ofNat n0 := by rcases hc with h | h | h; exact h; exact absurd h hm; exact absurd h h20
      obtain ⟨k, hk, rfl⟩ := i32_nat hin.1 (by omega) hin.2
      rw [ofN_s, ofN_cl (by omega)]
      have := key (k + 1) (by omega)
      simp only [mE] at this
      exact this
theorem C_oil {S : ms_S} {sp t st c : Int32} (hN : 1100 ≤ N) (h : cBase S A) (hw : WF0 A) : CP (f138 N sp t st c) S A (ansOil A sp t st c) A := by
  have hb := h
  obtain ⟨_, _, ⟨a, a2, e3, _, ho, ⟨h4, _, _, hc, _⟩, _⟩, _⟩ := h
  have oa : o_st a := by rcases ho with h | h; exact Or.inl h.1; exact Or.inr h.1
  have hn : aN A 1 ≤ 20 := hw.1.2.1
  have ha : 4 ≠ a + 7 ∧ 4 ≠ a + 8 := by rcases oa with rfl | rfl <;> decide
  unfold ansOil
  have e145 : ∀ {x : Int32} {β : Type} {f : Int32 → mM β}, mb (f145 N x) f S = f (if 0 ≤ x ∧ x < Int32.ofNat (aN A 1) then 1 else 0) S := by intro x β f; simp only [mb, q145 e3 oa, h4]
  by_cases hk : okOil A sp t st c = true
  · rw [if_pos hk]
    obtain ⟨k1, k2, k3, k4⟩ := of_decide_eq_true hk
    obtain ⟨p, hp, rfl⟩ := i32_nat k1.1 (by omega) k1.2
    obtain ⟨q, hq, rfl⟩ := i32_nat (n := 1001) k3.1 (by omega) (by have := k3.2; clear hw hb hc hk; grind)
    rw [ofN_cl (by omega), ofN_cl (by omega)]
    obtain ⟨S1, e1, r1, g1⟩ := q83 (N := N) (a := a) (t := t) (S := S) (by omega) (show p < 20 by omega)
    obtain ⟨S2, e2, r2, g2⟩ := driftL_C (N := N) (a := a) (n0 := aN A 1) (C := aX A 3) (x1 := Int32.ofNat p) (x2 := t) (x4 := c) (x5 := 1) (K := fun (x1 : Int32) (x2 : Int32) (x3 : Int32) (x4 : Int32) (x5 : Int32) (x6 : Int32) => (mb (gRo isSt 4 3) fun r13 => mb (f85 N r13 x4) fun v15 => mret v15)) (by omega) oa hn (show q ≤ 1000 by omega) q 0 N (spF p t) S1 (by omega) (by omega) (by rw [(g1 4 ha.1).2.2.1]; exact e3) (by rw [(g1 a (by omega)).1]; exact h4) (fun j hj => by rw [(g1 (a + 3) (by omega)).2.2.2.1]; exact (hc j hj).2.2.1) r1
    have hE : ∀ b, b ≠ a + 7 → b ≠ a + 8 → Eqc S S2 b := fun b h1 h2 => (g1 b h1).tr (g2 b h1 h2)
    have q85' := q85 (N := N) (c := c) (S := S2) hn (by rw [(hE a (by omega) (by omega)).1]; exact h4) r2 k4
    have tail : f138 N (Int32.ofNat p) t (Int32.ofNat q) c S = some (drN (aX A 3) (aN A 1) q (spF p t) (if c = 20 then aN A 1 + 1 else if c = -1 then 0 else c.toNatClampNeg + 1), S2) := by
      have step : ∀ x : Int32, x ≠ 0 → (mb (f145 N (Int32.ofNat p)) fun v1 => if v1 = 0 then mret (-1) else (mb (f141 N t 0 99999) fun v3 => if v3 = 0 then mret (-1) else (mb (f141 N (Int32.ofNat q) 0 1000) fun v5 => if v5 = 0 then mret (-1) else (if x ≠ 0 then (mb (gRo isSt 4 3) fun r7 => mb (f83 N r7 (Int32.ofNat p) t) fun _ => f138_L78 N (fun (x1 : Int32) (x2 : Int32) (x3 : Int32) (x4 : Int32) (x5 : Int32) (x6 : Int32) => (mb (gRo isSt 4 3) fun r13 => mb (f85 N r13 x4) fun v15 => mret v15)) N (Int32.ofNat p) t (Int32.ofNat q) c 1 0) else mret (-1))))) S = some (drN (aX A 3) (aN A 1) q (spF p t) (if c = 20 then aN A 1 + 1 else if c = -1 then 0 else c.toNatClampNeg + 1), S2) := by
        intro x hx
        rw [e145, if_pos k1, if_neg (by decide), E141, if_pos k2, if_neg (by decide), E141, if_pos k3, if_neg (by decide), if_pos hx, EgRo e3 (isSt_o oa)]
        have : ∀ {β : Type} {f : Unit → mM β}, mb (f83 N a (Int32.ofNat p) t) f S = f () S1 := by intro β f; simp only [mb, e1]
        rw [this]
        refine Eq.trans e2 ?_
        rw [EgRo (r := a) (by rw [(hE 4 ha.1 ha.2).2.2.1]; exact e3) (isSt_o oa)]
        simp only [mb, q85', mret]
      unfold f138
      simp only [mlet]
      rw [e145]
      by_cases hcc : 0 ≤ c ∧ c < Int32.ofNat (aN A 1)
      · rw [if_pos hcc, if_pos (by decide)]
        exact step 1 (by decide)
      · rw [if_neg hcc, if_neg (by decide)]
        by_cases hm : c = -1
        · rw [if_pos hm]; exact step 1 (by decide)
        · rw [if_neg hm]
          have h20 : c = 20 := by rcases k4 with h | h | h; exact absurd h hcc; exact absurd h hm; exact h
          rw [if_neg (fun q => q h20)]; exact step 1 (by decide)
    refine ⟨S2, tail, ?_, fun b hb1 hb2 => hE b (by rcases oa with rfl | rfl <;> omega) (by rcases oa with rfl | rfl <;> omega), Or.inl ⟨by rw [(hE 4 ha.1 ha.2).1], rfl⟩⟩
    refine cBase_fr hb hw.1.2.2.2.1 (fun k _ => by rw [(hE 4 ha.1 ha.2).1]) (by rw [(hE 4 ha.1 ha.2).2.2.1]) ⟨by rw [(hE 6 (by rcases oa with rfl | rfl <;> decide) (by rcases oa with rfl | rfl <;> decide)).1], by rw [(hE 6 (by rcases oa with rfl | rfl <;> decide) (by rcases oa with rfl | rfl <;> decide)).1]⟩ (fun b _ _ _ _ h18 h27 _ _ => hE b (by rcases oa with rfl | rfl <;> omega) (by rcases oa with rfl | rfl <;> omega))
  · rw [if_neg hk]
    refine CP_same hb ?_
    have hk2 := fun q => hk (decide_eq_true q)
    have step : ∀ x : Int32, (x ≠ 0 → (0 ≤ c ∧ c < Int32.ofNat (aN A 1)) ∨ c = -1 ∨ c = 20) → (mb (f145 N sp) fun v1 => if v1 = 0 then mret (-1) else (mb (f141 N t 0 99999) fun v3 => if v3 = 0 then mret (-1) else (mb (f141 N st 0 1000) fun v5 => if v5 = 0 then mret (-1) else (if x ≠ 0 then (mb (gRo isSt 4 3) fun r7 => mb (f83 N r7 sp t) fun _ => f138_L78 N (fun (x1 : Int32) (x2 : Int32) (x3 : Int32) (x4 : Int32) (x5 : Int32) (x6 : Int32) => (mb (gRo isSt 4 3) fun r13 => mb (f85 N r13 x4) fun v15 => mret v15)) N sp t st c x 0) else mret (-1))))) S = some (-1, S) := by
      intro x hx
      by_cases k1 : 0 ≤ sp ∧ sp < Int32.ofNat (aN A 1)
      · by_cases k2 : 0 ≤ t ∧ t ≤ 99999
        · by_cases k3 : 0 ≤ st ∧ st ≤ 1000
          · have hx0 : ¬ x ≠ 0 := fun q => hk2 ⟨k1, k2, k3, hx q⟩
            rw [e145, if_pos k1, if_neg (by decide), E141, if_pos k2, if_neg (by decide), E141, if_pos k3, if_neg (by decide), if_neg hx0]; rfl
          · rw [e145, if_pos k1, if_neg (by decide), E141, if_pos k2, if_neg (by decide), E141, if_neg k3, if_pos rfl]; rfl
        · rw [e145, if_pos k1, if_neg (by decide), E141, if_neg k2, if_pos rfl]; rfl
      · rw [e145, if_neg k1, if_pos rfl]; rfl
    unfold f138
    simp only [mlet]
    rw [e145]
    by_cases hcc : 0 ≤ c ∧ c < Int32.ofNat (aN A 1)
    · rw [if_pos hcc, if_pos (by decide)]
      exact step 1 (fun _ => Or.inl hcc)
    · rw [if_neg hcc, if_neg (by decide)]
      by_cases hm : c = -1
      · rw [if_pos hm]; exact step 1 (fun _ => Or.inr (Or.inl hm))
      · rw [if_neg hm]
        by_cases h20 : c = 20
        · rw [if_neg (fun q => q h20)]; exact step 1 (fun _ => Or.inr (Or.inr h20))
        · rw [if_pos h20]; exact step 0 (fun q => absurd rfl q)
end OIL
