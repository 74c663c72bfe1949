/-! oil in the reference -/
section OIM
variable {N : Nat} {A : Ab}
theorem zeroL {K : Int32 → Int32 → Int32 → Int32 → Int32 → mM Int32} {x1 x2 x3 x4 : Int32} : ∀ m i n (S : ms_S), m + i = 22 → m < n → ∃ S1, f249_L57 N K n x1 x2 x3 x4 (Int32.ofNat i) S = K x1 x2 x3 x4 (Int32.ofNat 22) S1 ∧ (∀ j, i ≤ j → j < 22 → ms_A S1 199 j = 0) ∧ (∀ j, j < i → ms_A S1 199 j = ms_A S 199 j) ∧ ∀ b, b ≠ 199 → Eqc S S1 b := by
  intro m
  induction m with
  | zero =>
    intro i n S hi hn
    obtain ⟨n, rfl⟩ : ∃ q, n = q + 1 := ⟨n - 1, by omega⟩
    have e : i = 22 := by omega
    subst e
    refine ⟨S, ?_, fun j h1 h2 => absurd h1 (by omega), fun _ _ => rfl, fun _ _ => Eqc.rf⟩
    rw [f249_L57, if_pos (by decide)]
  | succ m ih =>
    intro i n S hi hn
    obtain ⟨n, rfl⟩ : ∃ q, n = q + 1 := ⟨n - 1, by omega⟩
    have hge : ¬ Int32.ofNat i ≥ 22 := fun q => by have := (ofN_le (i := 22) (j := i) (by omega) (by omega)).1 q; omega
    have h1 : inR (Int32.ofNat i) 22 := ofN_inR (by omega) (by omega)
    have h2 := ofN_cl (i := i) (by omega)
    obtain ⟨S1, e1, r1, r2, k1⟩ := ih (i + 1) n (ms_setA S 199 i 0) (by omega) (by omega)
    refine ⟨S1, ?_, fun j hj1 hj2 => ?_, fun j hj => ?_, fun b hb => (Eqc_A hb).tr (k1 b hb)⟩
    · rw [f249_L57, if_neg hge]
      simp only [mE, h1, h2, ofN_s]; exact e1
    · by_cases hji : j = i
      · rw [hji, r2 i (by omega)]; simp [mG]
      · exact r1 j (by omega) hj2
    · rw [r2 j (by omega)]
      have : j ≠ i := by omega
      simp [mG, this]
theorem copyA {K : Int32 → Int32 → mM Unit} {l : Nat} {O : Nat → Int32} (hl : l ≤ 22) : ∀ m i n (S : ms_S), m + i = l → m < n → (∀ j, j < l → ms_A S 199 j = O j) → (∀ j, j < i → ms_A S 200 j = O j) → ∃ S1, f248_L9 N K n (Int32.ofNat l) (Int32.ofNat i) S = K (Int32.ofNat l) (Int32.ofNat l) S1 ∧ (∀ j, j < l → ms_A S1 200 j = O j) ∧ ∀ b, b ≠ 200 → Eqc S S1 b := by
  intro m
  induction m with
  | zero =>
    intro i n S hi hn hO hg
    obtain ⟨n, rfl⟩ : ∃ q, n = q + 1 := ⟨n - 1, by omega⟩
    have e : i = l := by omega
    subst e
    refine ⟨S, ?_, hg, fun _ _ => Eqc.rf⟩
    rw [f248_L9, if_pos ((ofN_le (by omega) (by omega)).2 (Nat.le_refl _))]
  | succ m ih =>
    intro i n S hi hn hO hg
    obtain ⟨n, rfl⟩ : ∃ q, n = q + 1 := ⟨n - 1, by omega⟩
    have hge : ¬ Int32.ofNat i ≥ Int32.ofNat l := fun q => by have := (ofN_le (i := l) (j := i) (by omega) (by omega)).1 q; omega
    have h1 : inR (Int32.ofNat i) 22 := ofN_inR (by omega) (by omega)
    have h2 := ofN_cl (i := i) (by omega)
    obtain ⟨S1, e1, r1, k1⟩ := ih (i + 1) n (ms_setA S 200 i (O i)) (by omega) (by omega) (fun j hj => by simp only [mG]; rw [if_neg (by omega)]; exact hO j hj) (fun j hj => by
      by_cases hji : j = i
      · simp [mG, hji]
      · simp only [mG, hji, and_false, if_false]; exact hg j (by omega))
    refine ⟨S1, ?_, r1, fun b hb => (Eqc_A hb).tr (k1 b hb)⟩
    rw [f248_L9, if_neg hge]
    simp only [mE, h1, h2, hO i (by omega), ofN_s]; exact e1
theorem copyB {l : Nat} {O : Nat → Int32} (hl : l ≤ 22) : ∀ m i n (S : ms_S), m + i = l → m < n → (∀ j, j < l → ms_A S 200 j = O j) → (∀ j, j < i → ms_A S 199 j = O j) → ∃ S1, f248_L114 N (fun _ _ => mret ()) n (Int32.ofNat l) (Int32.ofNat i) S = some ((), S1) ∧ (∀ j, j < l → ms_A S1 199 j = O j) ∧ ∀ b, b ≠ 199 → Eqc S S1 b := by
  intro m
  induction m with
  | zero =>
    intro i n S hi hn hO hg
    obtain ⟨n, rfl⟩ : ∃ q, n = q + 1 := ⟨n - 1, by omega⟩
    have e : i = l := by omega
    subst e
    refine ⟨S, ?_, hg, fun _ _ => Eqc.rf⟩
    rw [f248_L114, if_pos ((ofN_le (by omega) (by omega)).2 (Nat.le_refl _))]; rfl
  | succ m ih =>
    intro i n S hi hn hO hg
    obtain ⟨n, rfl⟩ : ∃ q, n = q + 1 := ⟨n - 1, by omega⟩
    have hge : ¬ Int32.ofNat i ≥ Int32.ofNat l := fun q => by have := (ofN_le (i := l) (j := i) (by omega) (by omega)).1 q; omega
    have h1 : inR (Int32.ofNat i) 22 := ofN_inR (by omega) (by omega)
    have h2 := ofN_cl (i := i) (by omega)
    obtain ⟨S1, e1, r1, k1⟩ := ih (i + 1) n (ms_setA S 199 i (O i)) (by omega) (by omega) (fun j hj => by simp only [mG]; rw [if_neg (by omega)]; exact hO j hj) (fun j hj => by
      by_cases hji : j = i
      · simp [mG, hji]
      · simp only [mG, hji, and_false, if_false]; exact hg j (by omega))
    refine ⟨S1, ?_, r1, fun b hb => (Eqc_A hb).tr (k1 b hb)⟩
    rw [f248_L114, if_neg hge]
    simp only [mE, h1, h2, hO i (by omega), ofN_s]; exact e1
theorem absM (v : Int32) : (if v ≥ 0 then v else -v) = absF v := by
  unfold absF
  split
  · rfl
  · grind
theorem moveM {b n0 : Nat} {C O : Nat → Int32} {K : Int32 → Int32 → mM Unit} {x1 : Int32} (hb : b < 2) (hn0 : n0 ≤ 20) : ∀ m i n (S : ms_S), m + i = n0 → m < n → ms_I S 131 20 = Int32.ofNat b → ms_A S 135 b = Int32.ofNat n0 → (∀ j, j < n0 → ms_A S 139 (20 * b + j) = C j) → (∀ j, j < n0 + 2 → ms_A S 199 j = O j) → (∀ j, j < n0 + 2 → ms_A S 200 j = drF C O i j) → ∃ S1, f248_L34 N K n x1 (Int32.ofNat i) S = K x1 (Int32.ofNat n0) S1 ∧ (∀ j, j < n0 + 2 → ms_A S1 200 j = drF C O n0 j) ∧ ∀ c, c ≠ 200 → Eqc S S1 c := by
  intro m
  induction m with
  | zero =>
    intro i n S hi hn hB h4 hC hO hD
    obtain ⟨n, rfl⟩ : ∃ q, n = q + 1 := ⟨n - 1, by omega⟩
    have e : i = n0 := by omega
    subst e
    refine ⟨S, ?_, hD, fun _ _ => Eqc.rf⟩
    rw [f248_L34]
    have : ∀ {β : Type} {f : Int32 → mM β}, mb (f170 N) f S = f (Int32.ofNat i) S := by intro β f; simp only [mb, q170 hb hB, h4]
    rw [this, if_pos ((ofN_le (by omega) (by omega)).2 (Nat.le_refl _))]
  | succ m ih =>
    intro i n S hi hn hB h4 hC hO hD
    obtain ⟨n, rfl⟩ : ∃ q, n = q + 1 := ⟨n - 1, by omega⟩
    have hge : ¬ Int32.ofNat i ≥ Int32.ofNat n0 := fun q => by have := (ofN_le (i := n0) (j := i) (by omega) (by omega)).1 q; omega
    have e170 : ∀ {β : Type} {f : Int32 → mM β}, mb (f170 N) f S = f (Int32.ofNat n0) S := by intro β f; simp only [mb, q170 hb hB, h4]
    have e171 : ∀ {β : Type} {f : Int32 → mM β}, mb (f171 N (Int32.ofNat i)) f S = f (C i) S := by intro β f; simp only [mb, q171 hb hB (show i < 20 by omega), hC i (by omega)]
    have h3 : inR (Int32.ofNat (i + 1)) 22 := ofN_inR (by omega) (by omega)
    have h5 := ofN_cl (i := i + 1) (by omega)
    have e2 : Int32.ofNat i + 2 = Int32.ofNat (i + 2) := ofN_add (j := 2)
    obtain ⟨S1, e1, r1, k1⟩ := ih (i + 1) n (ms_setA (ms_setA S 200 (i + 1) (drF C O i (i + 1) - gvF C O i)) 200 (if C i < 0 then i else i + 2) (updI (drF C O i) (i + 1) (drF C O i (i + 1) - gvF C O i) (if C i < 0 then i else i + 2) + gvF C O i)) (by omega) (by omega) (by simp only [mGo]; exact hB) (by simp only [mG]; rw [if_neg (by omega), if_neg (by omega)]; exact h4) (fun j hj => by simp only [mG]; rw [if_neg (by omega), if_neg (by omega)]; exact hC j hj) (fun j hj => by simp only [mG]; rw [if_neg (by omega), if_neg (by omega)]; exact hO j hj) (fun j hj => by
      rw [drF]
      simp only [mG, updI]
      by_cases hj1 : j = if C i < 0 then i else i + 2
      · simp [hj1]
      · simp only [hj1, and_false, if_false]
        by_cases hj2 : j = i + 1
        · simp [hj2]
        · simp only [hj2, and_false, if_false]; exact hD j hj)
    refine ⟨S1, ?_, r1, fun b hb => ((Eqc_A hb).tr (Eqc_A hb)).tr (k1 b hb)⟩
    rw [f248_L34, e170, if_neg hge]
    simp only [mE, e171, ofN_s, h3, h5, hO (i + 1) (by omega), Ediv, hD (i + 1) (by omega)]
    have key : ∀ k : Nat, k = (if C i < 0 then i else i + 2) → (mb (lA 200 22 (Int32.ofNat k)) fun v8 => mb (sA 200 22 (Int32.ofNat k) (v8 + gvF C O i)) fun _ => f248_L34 N K n x1 (Int32.ofNat (i + 1))) (ms_setA S 200 (i + 1) (drF C O i (i + 1) - gvF C O i)) = K x1 (Int32.ofNat n0) S1 := by
      intro k hk
      have hk22 : k < n0 + 2 := by rw [hk]; split <;> omega
      have g1 : inR (Int32.ofNat k) 22 := ofN_inR (by omega) (by omega)
      have g2 := ofN_cl (i := k) (by omega)
      have r : ms_A (ms_setA S 200 (i + 1) (drF C O i (i + 1) - gvF C O i)) 200 k = updI (drF C O i) (i + 1) (drF C O i (i + 1) - gvF C O i) k := by
        unfold updI
        by_cases hki : k = i + 1
        · simp [mG, hki]
        · simp only [mG, hki, and_false, if_false]; exact hD k hk22
      simp only [mE, g1, g2, r]
      rw [← hk] at e1
      exact e1
    have hg : ∀ y, y = absF (C i) → O (i + 1) * y / 10 = gvF C O i := fun y hy => by rw [hy]; rfl
    by_cases hc : C i < 0
    · have hc2 : ¬ C i ≥ 0 := Int32.not_le.mpr hc
      rw [if_neg hc2, if_neg hc2, hg (-C i) (by rw [← absM, if_neg hc2])]
      exact key i (by rw [if_pos hc])
    · have hc2 : C i ≥ 0 := Int32.not_lt.mp hc
      rw [if_pos hc2, if_pos hc2, hg (C i) (by rw [← absM, if_pos hc2]), e2]
      exact key (i + 2) (by rw [if_neg hc])
theorem q248 {b n0 : Nat} {C O : Nat → Int32} {S : ms_S} (hN : 30 ≤ N) (hb : b < 2) (hn0 : n0 ≤ 20) (hB : ms_I S 131 20 = Int32.ofNat b) (h4 : ms_A S 135 b = Int32.ofNat n0) (hC : ∀ j, j < n0 → ms_A S 139 (20 * b + j) = C j) (hO : ∀ j, j < n0 + 2 → ms_A S 199 j = O j) : ∃ S1, f248 N S = some ((), S1) ∧ (∀ j, j < n0 + 2 → ms_A S1 199 j = drF C O n0 j) ∧ ∀ c, c ≠ 199 → c ≠ 200 → Eqc S S1 c := by
  obtain ⟨S1, e1, r1, k1⟩ := copyA (N := N) (l := n0 + 2) (O := O) (K := fun (x1 : Int32) (x2 : Int32) => (f248_L34 N (fun (x1 : Int32) (x2 : Int32) => (f248_L114 N (fun (x1 : Int32) (x2 : Int32) => (mret ())) N x1 0)) N x1 0)) (by omega) (n0 + 2) 0 N S (by omega) (by omega) hO (fun j hj => absurd hj (by omega))
  obtain ⟨S2, e2, r2, k2⟩ := moveM (N := N) (b := b) (n0 := n0) (C := C) (O := O) (x1 := Int32.ofNat (n0 + 2)) (K := fun (x1 : Int32) (x2 : Int32) => (f248_L114 N (fun (x1 : Int32) (x2 : Int32) => (mret ())) N x1 0)) hb hn0 n0 0 N S1 (by omega) (by omega) (by rw [(k1 131 (by decide)).1]; exact hB) (by rw [(k1 135 (by decide)).2.2.2.1]; exact h4) (fun j hj => by rw [(k1 139 (by decide)).2.2.2.1]; exact hC j hj) (fun j hj => by rw [(k1 199 (by decide)).2.2.2.1]; exact hO j hj) r1
  obtain ⟨S3, e3, r3, k3⟩ := copyB (N := N) (l := n0 + 2) (O := drF C O n0) (by omega) (n0 + 2) 0 N S2 (by omega) (by omega) r2 (fun j hj => absurd hj (by omega))
  refine ⟨S3, ?_, r3, fun c h1 h2 => ((k1 c h2).tr (k2 c h2)).tr (k3 c h1)⟩
  unfold f248
  have e170 : ∀ {β : Type} {f : Int32 → mM β}, mb (f170 N) f S = f (Int32.ofNat n0) S := by intro β f; simp only [mb, q170 hb hB, h4]
  have e5 : Int32.ofNat n0 + 2 = Int32.ofNat (n0 + 2) := ofN_add (j := 2)
  rw [e170, e5]
  exact Eq.trans e1 (Eq.trans e2 e3)
theorem driftL_M {b n0 st : Nat} {C : Nat → Int32} {x1 x2 x4 : Int32} {K : Int32 → Int32 → Int32 → Int32 → Int32 → mM Int32} (hN : 30 ≤ N) (hb : b < 2) (hn0 : n0 ≤ 20) (hst : st ≤ 1000) : ∀ m i n (O : Nat → Int32) (S : ms_S), m + i = st → m < n → ms_I S 131 20 = Int32.ofNat b → ms_A S 135 b = Int32.ofNat n0 → (∀ j, j < n0 → ms_A S 139 (20 * b + j) = C j) → (∀ j, j < n0 + 2 → ms_A S 199 j = O j) → ∃ S1, f249_L90 N K n x1 x2 (Int32.ofNat st) x4 (Int32.ofNat i) S = K x1 x2 (Int32.ofNat st) x4 (Int32.ofNat st) S1 ∧ (∀ j, j < n0 + 2 → ms_A S1 199 j = drN C n0 m O j) ∧ ∀ c, c ≠ 199 → c ≠ 200 → Eqc S S1 c := by
  intro m
  induction m with
  | zero =>
    intro i n O S hi hn hB h4 hC hO
    obtain ⟨n, rfl⟩ : ∃ q, n = q + 1 := ⟨n - 1, by omega⟩
    have e : i = st := by omega
    subst e
    refine ⟨S, ?_, hO, fun _ _ _ => Eqc.rf⟩
    rw [f249_L90, if_pos ((ofN_le (by omega) (by omega)).2 (Nat.le_refl _))]
  | succ m ih =>
    intro i n O S hi hn hB h4 hC hO
    obtain ⟨n, rfl⟩ : ∃ q, n = q + 1 := ⟨n - 1, by omega⟩
    have hge : ¬ Int32.ofNat i ≥ Int32.ofNat st := fun q => by have := (ofN_le (i := st) (j := i) (by omega) (by omega)).1 q; omega
    obtain ⟨S1, e1, r1, k1⟩ := q248 (N := N) hN hb hn0 hB h4 hC hO
    obtain ⟨S2, e2, r2, k2⟩ := ih (i + 1) n (drF C O n0) S1 (by omega) (by omega) (by rw [(k1 131 (by decide) (by decide)).1]; exact hB) (by rw [(k1 135 (by decide) (by decide)).2.2.2.1]; exact h4) (fun j hj => by rw [(k1 139 (by decide) (by decide)).2.2.2.1]; exact hC j hj) r1
    refine ⟨S2, ?_, r2, fun c h1 h2 => (k1 c h1 h2).tr (k2 c h1 h2)⟩
    rw [f249_L90, if_neg hge]
    have : ∀ {β : Type} {f : Unit → mM β}, mb (f248 N) f S = f () S1 := by intro β f; simp only [mb, e1]
    rw [this, ofN_s]
    exact e2
theorem M_oil {S : ms_S} {sp t st c : Int32} (hN : 1100 ≤ N) (h : mBase S A) (hw : WF0 A) : MP (f249 N sp t st c) S (ansOil A sp t st c) A := by
  have hbb := h
  obtain ⟨_, _, ⟨b, hb, hB, ⟨h4, _, _, hc, _⟩⟩, _⟩ := h
  have hn : aN A 1 ≤ 20 := hw.1.2.1
  unfold ansOil
  have e172 : ∀ {x : Int32} {β : Type} {f : Int32 → mM β}, mb (f172 N x) f S = f (if 0 ≤ x ∧ x < Int32.ofNat (aN A 1) then 1 else 0) S := by intro x β f; simp only [mb, q172 hb hB, h4]
  by_cases hk : okOil A sp t st c = true
  · rw [if_pos hk]
    obtain ⟨k1, k2, k3, k4⟩ := of_decide_eq_true hk
    obtain ⟨p, hp, rfl⟩ := i32_nat k1.1 (by omega) k1.2
    obtain ⟨q, hq, rfl⟩ := i32_nat (n := 1001) k3.1 (by omega) (by have := k3.2; clear hw hbb hc hk; grind)
    rw [ofN_cl (by omega), ofN_cl (by omega)]
    obtain ⟨S1, e1, r1, _, g1⟩ := zeroL (N := N) (x1 := Int32.ofNat p) (x2 := t) (x3 := Int32.ofNat q) (x4 := c) (K := fun (x1 : Int32) (x2 : Int32) (x3 : Int32) (x4 : Int32) (x5 : Int32) => (mb (sA 199 22 (x1 + 1) x2) fun _ => f249_L90 N (fun (x1 : Int32) (x2 : Int32) (x3 : Int32) (x4 : Int32) (x5 : Int32) => (mlet (fun (x1 : Int32) (x2 : Int32) (x3 : Int32) (x4 : Int32) (x5 : Int32) (y0 : Int32) => (mret y0)) fun J136 => if x4 ≠ 20 then (mb (lA 199 22 (x4 + 1)) fun v10 => J136 x1 x2 x3 x4 x5 v10) else (mb (f170 N) fun v12 => mb (lA 199 22 (v12 + 1)) fun v14 => J136 x1 x2 x3 x4 x5 v14))) N x1 x2 x3 x4 0)) 22 0 N S (by omega) (by omega)
    have hE1 : ∀ b, b ≠ 199 → Eqc S (ms_setA S1 199 (p + 1) t) b := fun b hb => (g1 b hb).tr (Eqc_A hb)
    obtain ⟨S2, e2, r2, g2⟩ := driftL_M (N := N) (b := b) (n0 := aN A 1) (C := aX A 3) (x1 := Int32.ofNat p) (x2 := t) (x4 := c) (K := fun (x1 : Int32) (x2 : Int32) (x3 : Int32) (x4 : Int32) (x5 : Int32) => (mlet (fun (x1 : Int32) (x2 : Int32) (x3 : Int32) (x4 : Int32) (x5 : Int32) (y0 : Int32) => (mret y0)) fun J136 => if x4 ≠ 20 then (mb (lA 199 22 (x4 + 1)) fun v10 => J136 x1 x2 x3 x4 x5 v10) else (mb (f170 N) fun v12 => mb (lA 199 22 (v12 + 1)) fun v14 => J136 x1 x2 x3 x4 x5 v14))) (by omega) hb hn (show q ≤ 1000 by omega) q 0 N (spF p t) (ms_setA S1 199 (p + 1) t) (by omega) (by omega) (by rw [(hE1 131 (by decide)).1]; exact hB) (by rw [(hE1 135 (by decide)).2.2.2.1]; exact h4) (fun j hj => by rw [(hE1 139 (by decide)).2.2.2.1]; exact (hc j hj).2.2.1) (fun j hj => by
      unfold spF
      by_cases hji : j = p + 1
      · simp [mG, hji]
      · simp only [mG, hji, and_false, if_false]; exact r1 j (by omega) (by omega))
    have hE : ∀ b, b ≠ 199 → b ≠ 200 → Eqc S S2 b := fun b h1 h2 => (hE1 b h1).tr (g2 b h1 h2)
    have tail : (f249_L57 N (fun (x1 : Int32) (x2 : Int32) (x3 : Int32) (x4 : Int32) (x5 : Int32) => (mb (sA 199 22 (x1 + 1) x2) fun _ => f249_L90 N (fun (x1 : Int32) (x2 : Int32) (x3 : Int32) (x4 : Int32) (x5 : Int32) => (mlet (fun (x1 : Int32) (x2 : Int32) (x3 : Int32) (x4 : Int32) (x5 : Int32) (y0 : Int32) => (mret y0)) fun J136 => if x4 ≠ 20 then (mb (lA 199 22 (x4 + 1)) fun v10 => J136 x1 x2 x3 x4 x5 v10) else (mb (f170 N) fun v12 => mb (lA 199 22 (v12 + 1)) fun v14 => J136 x1 x2 x3 x4 x5 v14))) N x1 x2 x3 x4 0)) N (Int32.ofNat p) t (Int32.ofNat q) c 0) S = some (drN (aX A 3) (aN A 1) q (spF p t) (if c = 20 then aN A 1 + 1 else if c = -1 then 0 else c.toNatClampNeg + 1), S2) := by
      refine Eq.trans e1 ?_
      have h1 : inR (Int32.ofNat (p + 1)) 22 := ofN_inR (by omega) (by omega)
      simp only [mE, ofN_s, h1, ofN_cl (i := p + 1) (by omega)]
      refine Eq.trans e2 ?_
      simp only [mE]
      by_cases h20 : c = 20
      · have e170 : ∀ {β : Type} {f : Int32 → mM β}, mb (f170 N) f S2 = f (Int32.ofNat (aN A 1)) S2 := by
          intro β f
          simp only [mb, q170 hb (show ms_I S2 131 20 = Int32.ofNat b by rw [(hE 131 (by decide) (by decide)).1]; exact hB)]
          rw [(hE 135 (by decide) (by decide)).2.2.2.1, h4]
        have h3 : inR (Int32.ofNat (aN A 1 + 1)) 22 := ofN_inR (by omega) (by omega)
        rw [if_neg (fun q => q h20), e170, if_pos h20, ofN_s]
        simp only [mE, h3, ofN_cl (i := aN A 1 + 1) (by omega), r2 (aN A 1 + 1) (by omega)]
      · rw [if_pos h20, if_neg h20]
        by_cases hm : c = -1
        · have h3 : inR (Int32.ofNat 0) 22 := ofN_inR (by omega) (by omega)
          rw [if_pos hm, hm, show (-1 : Int32) + 1 = Int32.ofNat 0 from rfl]
          simp only [mE, h3, ofN_cl (i := 0) (by omega), r2 0 (by omega)]
        · rw [if_neg hm]
          have hin : 0 ≤ c ∧ c < Int32.ofNat (aN A 1) := by rcases k4 with h | h | h; exact h; exact absurd h hm; exact absurd h h20
          obtain ⟨k, hk, rfl⟩ := i32_nat hin.1 (by omega) hin.2
          have h3 : inR (Int32.ofNat (k + 1)) 22 := ofN_inR (by omega) (by omega)
          rw [ofN_cl (by omega), ofN_s]
          simp only [mE, h3, ofN_cl (i := k + 1) (by omega), r2 (k + 1) (by omega)]
    refine ⟨S2, ?_, mBase_fr hbb (fun k _ => by rw [(hE 131 (by decide) (by decide)).1]) (fun b h1 h2 => hE b (by unfold scrM at h2; omega) (by unfold scrM at h2; omega)), fun b hb => hE b (by omega) (by omega)⟩
    unfold f249
    simp only [mlet]
    rw [e172, if_pos k1, if_neg (by decide), E195, if_pos k2, if_neg (by decide), E195, if_pos k3, if_neg (by decide)]
    by_cases hm : c = -1
    · rw [if_pos hm]; exact tail
    · rw [if_neg hm]
      by_cases h20 : c = 20
      · rw [if_pos h20]; exact tail
      · rw [if_neg h20, e172]
        have hin : 0 ≤ c ∧ c < Int32.ofNat (aN A 1) := by rcases k4 with h | h | h; exact h; exact absurd h hm; exact absurd h h20
        rw [if_pos hin, if_pos (by decide)]; exact tail
  · rw [if_neg hk]
    refine MP_same hbb ?_
    have hk2 := fun q => hk (decide_eq_true q)
    unfold f249
    simp only [mlet]
    by_cases k1 : 0 ≤ sp ∧ sp < Int32.ofNat (aN A 1)
    · by_cases k2 : 0 ≤ t ∧ t ≤ 99999
      · by_cases k3 : 0 ≤ st ∧ st ≤ 1000
        · have k4 : ¬ ((0 ≤ c ∧ c < Int32.ofNat (aN A 1)) ∨ c = -1 ∨ c = 20) := fun q => hk2 ⟨k1, k2, k3, q⟩
          rw [e172, if_pos k1, if_neg (by decide), E195, if_pos k2, if_neg (by decide), E195, if_pos k3, if_neg (by decide), if_neg (fun q => k4 (Or.inr (Or.inl q))), if_neg (fun q => k4 (Or.inr (Or.inr q))), e172, if_neg (fun q => k4 (Or.inl q)), if_neg (by decide)]; rfl
        · rw [e172, if_pos k1, if_neg (by decide), E195, if_pos k2, if_neg (by decide), E195, if_neg k3, if_pos rfl]; rfl
      · rw [e172, if_pos k1, if_neg (by decide), E195, if_neg k2, if_pos rfl]; rfl
    · rw [e172, if_neg k1, if_pos rfl]; rfl
end OIM
