/-! part: the class's loops -/
def askB (A : Ab) (a b k : Nat) : Bool := decide ((((askAll (aE A a) (aN A (10 + a)) ||| askAll (aE A b) (aN A (10 + b))) >>> (Int32.ofNat k &&& 31)) &&& 1) ≠ 0)
def cW (A : Ab) (a b : Nat) : Nat := if askB A a b 6 = true then 1 else 0
def cD (A : Ab) (a b : Nat) : Nat := if askB A a b 4 = true then 5 else 0
def cG (A : Ab) (a b : Nat) : Nat := if askB A a b 3 = true then 20 else 0
def cT (A : Ab) (a b : Nat) : Nat := if askB A a b 0 = true then 99 else 0
def partC (A : Ab) (a b : Nat) : Option T4 := srch (fT A a b (cG A a b + 1) (cD A a b + 1) (cW A a b + 1)) (cT A a b + 1) 0
section PAL
variable {N : Nat} {A : Ab} {pa pb a b : Nat}
theorem q55 {k mx : Nat} {w : Int32} {S : ms_S} (oa : o_cv pa) (ob : o_cv pb) (hw : w = Int32.ofNat (100 + k)) (hk : k < 11) (hP : PE S A pa pb a b) : f55 N w (Int32.ofNat mx) S = some (Int32.ofNat (if askB A a b k = true then mx else 0), S) := by
  subst hw
  obtain ⟨e1, e2, e3, e4, _, e9, e10⟩ := hP
  have e : Int32.ofNat (100 + k) - 100 = Int32.ofNat k := by
    have : Int32.ofNat (100 + k) - 100 = Int32.ofNat (100 + k - 100) := ofN_sub (j := 100) (by omega)
    rw [this, Nat.add_sub_cancel_left]
  have ka : ms_I S pa 6 = askAll (aE A a) (aN A (10 + a)) := e9.2.2.2.2.2.2.2.1
  have kb : ms_I S pb 6 = askAll (aE A b) (aN A (10 + b)) := e10.2.2.2.2.2.2.2.1
  unfold f55
  simp only [mE]
  rw [EgRo e2 (isCv_o oa)]
  simp only [mE]
  rw [EgRo e3 (isCv_o ob)]
  simp only [mE, ka, kb, e]
  unfold askB
  by_cases h : (((askAll (aE A a) (aN A (10 + a)) ||| askAll (aE A b) (aN A (10 + b))) >>> (Int32.ofNat k &&& 31)) &&& 1) = 0
  · rw [if_pos h, if_neg (by rw [decide_eq_true_eq]; exact fun q => q h)]; rfl
  · rw [if_neg h, if_pos (decide_eq_true h)]
theorem xle {X i : Nat} (hX : X < 1000) (h : i ≤ X) : ¬ Int32.ofNat i > Int32.ofNat X := fun q => by have := (ofN_lt (i := X) (j := i) (by omega) (by omega)).1 q; omega
theorem xgt {X : Nat} (hX : X < 1000) : Int32.ofNat (X + 1) > Int32.ofNat X := (ofN_lt (by omega) (by omega)).2 (by omega)
theorem warL {t g d X : Nat} (hX : X < 100) (hN : 1300 ≤ N) (oa : o_cv pa) (ob : o_cv pb) (ha : a < 4) (hb : b < 4) (hv : WFv A) : ∀ m i n (S : ms_S), m + i = X + 1 → m < n → PE S A pa pb a b → ms_A S 56 0 = Int32.ofNat t → ms_A S 56 3 = Int32.ofNat g → ms_A S 56 4 = Int32.ofNat d → ms_A S 78 0 = Int32.ofNat t → ms_A S 78 1 = Int32.ofNat g → ms_A S 78 2 = Int32.ofNat d → ms_I S 77 0 = 0 → ∃ S1, f58_L10 N (fun _ _ => mret ()) n (Int32.ofNat X) (Int32.ofNat i) S = some ((), S1) ∧ PE S1 A pa pb a b ∧ (∀ j, j < 6 → ms_A S1 56 j = ms_A S 56 j) ∧ (∀ j, j < 3 → ms_A S1 78 j = ms_A S 78 j) ∧ ResP S1 A a b (srch (fW A a b t g d) m i) ∧ offP S S1 := by
  intro m
  induction m with
  | zero =>
    intro i n S hi hn hP h0 h3 h4 g0 g1 g2 hf
    obtain ⟨n, rfl⟩ : ∃ q, n = q + 1 := ⟨n - 1, by omega⟩
    have e : i = X + 1 := by omega
    subst e
    refine ⟨S, ?_, hP, fun _ _ => rfl, fun _ _ => rfl, hf, offP.rf⟩
    rw [f58_L10, if_pos (xgt (by omega))]; rfl
  | succ m ih =>
    intro i n S hi hn hP h0 h3 h4 g0 g1 g2 hf
    obtain ⟨n, rfl⟩ : ∃ q, n = q + 1 := ⟨n - 1, by omega⟩
    obtain ⟨S1, e1, P1, u1, u2, v3, v4, v5, f1, o1⟩ := tryW (N := N) (K := fun _ _ => mret ()) (n := n) (x1 := Int32.ofNat X) (t := t) (g := g) (d := d) (w := i) (S := S) hN oa ob ha hb hv hP h0 h3 h4 (xle (by omega) (by omega)) hf
    rw [e1]
    by_cases hk : kdP A a t g d i = kdP A b t g d i
    · rw [if_pos hk] at f1
      obtain ⟨S2, e2, P2, w1, w2, r2, o2⟩ := ih (i + 1) n S1 (by omega) (by omega) P1 (by rw [u1 0 (by omega)]; exact h0) (by rw [u1 3 (by omega)]; exact h3) (by rw [u1 4 (by omega)]; exact h4) (by rw [u2 0 (by omega)]; exact g0) (by rw [u2 1 (by omega)]; exact g1) (by rw [u2 2 (by omega)]; exact g2) f1
      refine ⟨S2, e2, P2, fun j hj => by rw [w1 j hj, u1 j hj], fun j hj => by rw [w2 j hj, u2 j hj], ?_, o1.tr o2⟩
      have : srch (fW A a b t g d) (m + 1) i = srch (fW A a b t g d) m (i + 1) := by rw [srch]; unfold fW; rw [if_pos hk]
      rw [this]; exact r2
    · rw [if_neg hk] at f1
      obtain ⟨n, rfl⟩ : ∃ q, n = q + 1 := ⟨n - 1, by omega⟩
      refine ⟨S1, ?_, P1, u1, u2, ?_, o1⟩
      · rw [f58_L10]
        by_cases hx : Int32.ofNat (i + 1) > Int32.ofNat X
        · rw [if_pos hx]; rfl
        · rw [if_neg hx]; simp only [mE, f1]; rw [if_pos (by decide)]
      · have : srch (fW A a b t g d) (m + 1) i = some (t, g, d, i) := by rw [srch]; unfold fW; rw [if_neg hk]
        rw [this]
        exact ⟨f1, by rw [u2 0 (by omega)]; exact g0, by rw [u2 1 (by omega)]; exact g1, by rw [u2 2 (by omega)]; exact g2, v3, v4, v5⟩
theorem q58 {t g d : Nat} {S : ms_S} (hN : 1300 ≤ N) (oa : o_cv pa) (ob : o_cv pb) (ha : a < 4) (hb : b < 4) (hv : WFv A) (hP : PE S A pa pb a b) (h0 : ms_A S 56 0 = Int32.ofNat t) (h3 : ms_A S 56 3 = Int32.ofNat g) (h4 : ms_A S 56 4 = Int32.ofNat d) (g0 : ms_A S 78 0 = Int32.ofNat t) (g1 : ms_A S 78 1 = Int32.ofNat g) (g2 : ms_A S 78 2 = Int32.ofNat d) (hf : ms_I S 77 0 = 0) : ∃ S1, f58 N S = some ((), S1) ∧ PE S1 A pa pb a b ∧ (∀ j, j < 6 → ms_A S1 56 j = ms_A S 56 j) ∧ (∀ j, j < 3 → ms_A S1 78 j = ms_A S 78 j) ∧ ResP S1 A a b (srch (fW A a b t g d) (cW A a b + 1) 0) ∧ offP S S1 := by
  have hX : cW A a b < 100 := by unfold cW; split <;> omega
  obtain ⟨S1, e1, r⟩ := warL (N := N) (t := t) (g := g) (d := d) hX hN oa ob ha hb hv (cW A a b + 1) 0 N S (by omega) (by omega) hP h0 h3 h4 g0 g1 g2 hf
  refine ⟨S1, ?_, r⟩
  unfold f58
  have q := q55 (N := N) (A := A) (a := a) (b := b) (k := 6) (mx := 1) (w := 106) oa ob rfl (by omega) hP
  have : ∀ {β : Type} {f : Int32 → mM β}, mb (f55 N 106 1) f S = f (Int32.ofNat (cW A a b)) S := by
    intro β f
    have q : f55 N 106 1 S = some (Int32.ofNat (cW A a b), S) := q
    simp only [mb, q]
  rw [this]
  exact e1
theorem decL {t g X : Nat} (hX : X < 100) (hN : 1300 ≤ N) (oa : o_cv pa) (ob : o_cv pb) (ha : a < 4) (hb : b < 4) (hv : WFv A) : ∀ m i n (S : ms_S), m + i = X + 1 → m < n → PE S A pa pb a b → ms_A S 56 0 = Int32.ofNat t → ms_A S 56 3 = Int32.ofNat g → ms_A S 78 0 = Int32.ofNat t → ms_A S 78 1 = Int32.ofNat g → ms_I S 77 0 = 0 → ∃ S1, f57_L10 N (fun _ _ => mret ()) n (Int32.ofNat X) (Int32.ofNat i) S = some ((), S1) ∧ PE S1 A pa pb a b ∧ (∀ j, j < 4 → ms_A S1 56 j = ms_A S 56 j) ∧ (∀ j, j < 2 → ms_A S1 78 j = ms_A S 78 j) ∧ ResP S1 A a b (srch (fD A a b (cW A a b + 1) t g) m i) ∧ offP S S1 := by
  intro m
  induction m with
  | zero =>
    intro i n S hi hn hP h0 h3 g0 g1 hf
    obtain ⟨n, rfl⟩ : ∃ q, n = q + 1 := ⟨n - 1, by omega⟩
    have e : i = X + 1 := by omega
    subst e
    refine ⟨S, ?_, hP, fun _ _ => rfl, fun _ _ => rfl, hf, offP.rf⟩
    rw [f57_L10, if_pos (xgt (by omega))]; rfl
  | succ m ih =>
    intro i n S hi hn hP h0 h3 g0 g1 hf
    obtain ⟨n, rfl⟩ : ∃ q, n = q + 1 := ⟨n - 1, by omega⟩
    have o0 : offP S (ms_setA (ms_setA S 56 4 (Int32.ofNat i)) 78 2 (Int32.ofNat i)) := ⟨fun c h1 h2 => (Eqc_A (by omega)).tr (Eqc_A (by omega)), fun k _ => by simp only [mGo]⟩
    have P0 : PE (ms_setA (ms_setA S 56 4 (Int32.ofNat i)) 78 2 (Int32.ofNat i)) A pa pb a b := PE_fr oa ob hP (by simp only [mGo]) (by simp only [mGo]) (fun j hj => by simp only [mG]; rw [if_neg (by omega), if_neg (by omega)]) o0
    obtain ⟨S1, e1, P1, u1, u2, r1, o1⟩ := q58 (N := N) (S := ms_setA (ms_setA S 56 4 (Int32.ofNat i)) 78 2 (Int32.ofNat i)) (t := t) (g := g) (d := i) hN oa ob ha hb hv P0 (by simpa [mG] using h0) (by simpa [mG] using h3) (by simp [mG]) (by simpa [mG] using g0) (by simpa [mG] using g1) (by simp [mG]) (by simpa [mGo] using hf)
    have i3 : inR 2 6 := ofN_inR (i := 2) (by omega) (by omega)
    have c3 : (2 : Int32).toNatClampNeg = 2 := by decide
    have step : f57_L10 N (fun _ _ => mret ()) (n + 1) (Int32.ofNat X) (Int32.ofNat i) S = f57_L10 N (fun _ _ => mret ()) n (Int32.ofNat X) (Int32.ofNat (i + 1)) S1 := by
      rw [f57_L10, if_neg (xle (by omega) (by omega))]
      simp only [mE, hf]
      rw [if_neg (by simp), EgRo hP.1 rfl, E25 (j := 4) (w := 104) (by omega) rfl]
      simp only [mE, i3, c3]
      have : ∀ {β : Type} {f : Unit → mM β}, mb (f58 N) f (ms_setA (ms_setA S 56 4 (Int32.ofNat i)) 78 2 (Int32.ofNat i)) = f () S1 := by intro β f; simp only [mb, e1]
      rw [this, ofN_s]
    rw [step]
    have w1 : ∀ j, j < 4 → ms_A S1 56 j = ms_A S 56 j := fun j hj => by rw [u1 j (by omega)]; simp only [mG]; rw [if_neg (by omega), if_neg (by omega)]
    have w2 : ∀ j, j < 2 → ms_A S1 78 j = ms_A S 78 j := fun j hj => by rw [u2 j (by omega)]; simp only [mG]; rw [if_neg (by omega), if_neg (by omega)]
    have off1 : offP S S1 := o0.tr o1
    cases hr : srch (fW A a b t g i) (cW A a b + 1) 0 with
    | none =>
      rw [hr] at r1
      obtain ⟨S2, e2, P2, z1, z2, r2, o2⟩ := ih (i + 1) n S1 (by omega) (by omega) P1 (by rw [w1 0 (by omega)]; exact h0) (by rw [w1 3 (by omega)]; exact h3) (by rw [w2 0 (by omega)]; exact g0) (by rw [w2 1 (by omega)]; exact g1) r1
      refine ⟨S2, e2, P2, fun j hj => by rw [z1 j hj, w1 j (by omega)], fun j hj => by rw [z2 j hj, w2 j (by omega)], ?_, off1.tr o2⟩
      have hr' : fD A a b (cW A a b + 1) t g i = none := hr
      have : srch (fD A a b (cW A a b + 1) t g) (m + 1) i = srch (fD A a b (cW A a b + 1) t g) m (i + 1) := by rw [srch, hr']
      rw [this]; exact r2
    | some q =>
      rw [hr] at r1
      obtain ⟨n, rfl⟩ : ∃ q, n = q + 1 := ⟨n - 1, by omega⟩
      refine ⟨S1, ?_, P1, fun j hj => w1 j (by omega), fun j hj => w2 j (by omega), ?_, off1⟩
      · rw [f57_L10]
        by_cases hx : Int32.ofNat (i + 1) > Int32.ofNat X
        · rw [if_pos hx]; rfl
        · rw [if_neg hx]; simp only [mE, r1.1]; rw [if_pos (by decide)]
      · have hr' : fD A a b (cW A a b + 1) t g i = some q := hr
        have : srch (fD A a b (cW A a b + 1) t g) (m + 1) i = some q := by rw [srch, hr']
        rw [this]; exact r1
theorem q57 {t g : Nat} {S : ms_S} (hN : 1300 ≤ N) (oa : o_cv pa) (ob : o_cv pb) (ha : a < 4) (hb : b < 4) (hv : WFv A) (hP : PE S A pa pb a b) (h0 : ms_A S 56 0 = Int32.ofNat t) (h3 : ms_A S 56 3 = Int32.ofNat g) (g0 : ms_A S 78 0 = Int32.ofNat t) (g1 : ms_A S 78 1 = Int32.ofNat g) (hf : ms_I S 77 0 = 0) : ∃ S1, f57 N S = some ((), S1) ∧ PE S1 A pa pb a b ∧ (∀ j, j < 4 → ms_A S1 56 j = ms_A S 56 j) ∧ (∀ j, j < 2 → ms_A S1 78 j = ms_A S 78 j) ∧ ResP S1 A a b (srch (fD A a b (cW A a b + 1) t g) (cD A a b + 1) 0) ∧ offP S S1 := by
  have hX : cD A a b < 100 := by unfold cD; split <;> omega
  obtain ⟨S1, e1, r⟩ := decL (N := N) (t := t) (g := g) hX hN oa ob ha hb hv (cD A a b + 1) 0 N S (by omega) (by omega) hP h0 h3 g0 g1 hf
  refine ⟨S1, ?_, r⟩
  unfold f57
  have q := q55 (N := N) (A := A) (a := a) (b := b) (k := 4) (mx := 5) (w := 104) oa ob rfl (by omega) hP
  have : ∀ {β : Type} {f : Int32 → mM β}, mb (f55 N 104 5) f S = f (Int32.ofNat (cD A a b)) S := by
    intro β f
    have q : f55 N 104 5 S = some (Int32.ofNat (cD A a b), S) := q
    simp only [mb, q]
  rw [this]
  exact e1
theorem gunL {t X : Nat} (hX : X < 100) (hN : 1300 ≤ N) (oa : o_cv pa) (ob : o_cv pb) (ha : a < 4) (hb : b < 4) (hv : WFv A) : ∀ m i n (S : ms_S), m + i = X + 1 → m < n → PE S A pa pb a b → ms_A S 56 0 = Int32.ofNat t → ms_A S 78 0 = Int32.ofNat t → ms_I S 77 0 = 0 → ∃ S1, f56_L11 N (fun _ _ => mret ()) n (Int32.ofNat X) (Int32.ofNat i) S = some ((), S1) ∧ PE S1 A pa pb a b ∧ (∀ j, j < 3 → ms_A S1 56 j = ms_A S 56 j) ∧ (∀ j, j < 1 → ms_A S1 78 j = ms_A S 78 j) ∧ ResP S1 A a b (srch (fG A a b (cD A a b + 1) (cW A a b + 1) t) m i) ∧ offP S S1 := by
  intro m
  induction m with
  | zero =>
    intro i n S hi hn hP h0 g0 hf
    obtain ⟨n, rfl⟩ : ∃ q, n = q + 1 := ⟨n - 1, by omega⟩
    have e : i = X + 1 := by omega
    subst e
    refine ⟨S, ?_, hP, fun _ _ => rfl, fun _ _ => rfl, hf, offP.rf⟩
    rw [f56_L11, if_pos (xgt (by omega))]; rfl
  | succ m ih =>
    intro i n S hi hn hP h0 g0 hf
    obtain ⟨n, rfl⟩ : ∃ q, n = q + 1 := ⟨n - 1, by omega⟩
    have o0 : offP S (ms_setA (ms_setA S 56 3 (Int32.ofNat i)) 78 1 (Int32.ofNat i)) := ⟨fun c h1 h2 => (Eqc_A (by omega)).tr (Eqc_A (by omega)), fun k _ => by simp only [mGo]⟩
    have P0 : PE (ms_setA (ms_setA S 56 3 (Int32.ofNat i)) 78 1 (Int32.ofNat i)) A pa pb a b := PE_fr oa ob hP (by simp only [mGo]) (by simp only [mGo]) (fun j hj => by simp only [mG]; rw [if_neg (by omega), if_neg (by omega)]) o0
    obtain ⟨S1, e1, P1, u1, u2, r1, o1⟩ := q57 (N := N) (S := ms_setA (ms_setA S 56 3 (Int32.ofNat i)) 78 1 (Int32.ofNat i)) (t := t) (g := i) hN oa ob ha hb hv P0 (by simpa [mG] using h0) (by simp [mG]) (by simpa [mG] using g0) (by simp [mG]) (by simpa [mGo] using hf)
    have i3 : inR 1 6 := ofN_inR (i := 1) (by omega) (by omega)
    have c3 : (1 : Int32).toNatClampNeg = 1 := by decide
    have step : f56_L11 N (fun _ _ => mret ()) (n + 1) (Int32.ofNat X) (Int32.ofNat i) S = f56_L11 N (fun _ _ => mret ()) n (Int32.ofNat X) (Int32.ofNat (i + 1)) S1 := by
      rw [f56_L11, if_neg (xle (by omega) (by omega))]
      simp only [mE, hf]
      rw [if_neg (by simp), EgRo hP.1 rfl, E25 (j := 3) (w := 103) (by omega) rfl]
      simp only [mE, i3, c3]
      have : ∀ {β : Type} {f : Unit → mM β}, mb (f57 N) f (ms_setA (ms_setA S 56 3 (Int32.ofNat i)) 78 1 (Int32.ofNat i)) = f () S1 := by intro β f; simp only [mb, e1]
      rw [this, ofN_s]
    rw [step]
    have w1 : ∀ j, j < 3 → ms_A S1 56 j = ms_A S 56 j := fun j hj => by rw [u1 j (by omega)]; simp only [mG]; rw [if_neg (by omega), if_neg (by omega)]
    have w2 : ∀ j, j < 1 → ms_A S1 78 j = ms_A S 78 j := fun j hj => by rw [u2 j (by omega)]; simp only [mG]; rw [if_neg (by omega), if_neg (by omega)]
    have off1 : offP S S1 := o0.tr o1
    cases hr : srch (fD A a b (cW A a b + 1) t i) (cD A a b + 1) 0 with
    | none =>
      rw [hr] at r1
      obtain ⟨S2, e2, P2, z1, z2, r2, o2⟩ := ih (i + 1) n S1 (by omega) (by omega) P1 (by rw [w1 0 (by omega)]; exact h0) (by rw [w2 0 (by omega)]; exact g0) r1
      refine ⟨S2, e2, P2, fun j hj => by rw [z1 j hj, w1 j (by omega)], fun j hj => by rw [z2 j hj, w2 j (by omega)], ?_, off1.tr o2⟩
      have hr' : fG A a b (cD A a b + 1) (cW A a b + 1) t i = none := hr
      have : srch (fG A a b (cD A a b + 1) (cW A a b + 1) t) (m + 1) i = srch (fG A a b (cD A a b + 1) (cW A a b + 1) t) m (i + 1) := by rw [srch, hr']
      rw [this]; exact r2
    | some q =>
      rw [hr] at r1
      obtain ⟨n, rfl⟩ : ∃ q, n = q + 1 := ⟨n - 1, by omega⟩
      refine ⟨S1, ?_, P1, fun j hj => w1 j (by omega), fun j hj => w2 j (by omega), ?_, off1⟩
      · rw [f56_L11]
        by_cases hx : Int32.ofNat (i + 1) > Int32.ofNat X
        · rw [if_pos hx]; rfl
        · rw [if_neg hx]; simp only [mE, r1.1]; rw [if_pos (by decide)]
      · have hr' : fG A a b (cD A a b + 1) (cW A a b + 1) t i = some q := hr
        have : srch (fG A a b (cD A a b + 1) (cW A a b + 1) t) (m + 1) i = some q := by rw [srch, hr']
        rw [this]; exact r1
theorem q56 {t : Nat} {S : ms_S} (hN : 1300 ≤ N) (oa : o_cv pa) (ob : o_cv pb) (ha : a < 4) (hb : b < 4) (hv : WFv A) (hP : PE S A pa pb a b) (h0 : ms_A S 56 0 = Int32.ofNat t) (g0 : ms_A S 78 0 = Int32.ofNat t) (hf : ms_I S 77 0 = 0) : ∃ S1, f56 N S = some ((), S1) ∧ PE S1 A pa pb a b ∧ (∀ j, j < 3 → ms_A S1 56 j = ms_A S 56 j) ∧ (∀ j, j < 1 → ms_A S1 78 j = ms_A S 78 j) ∧ ResP S1 A a b (srch (fG A a b (cD A a b + 1) (cW A a b + 1) t) (cG A a b + 1) 0) ∧ offP S S1 := by
  have hX : cG A a b < 100 := by unfold cG; split <;> omega
  obtain ⟨S1, e1, r⟩ := gunL (N := N) (t := t) hX hN oa ob ha hb hv (cG A a b + 1) 0 N S (by omega) (by omega) hP h0 g0 hf
  refine ⟨S1, ?_, r⟩
  unfold f56
  have q := q55 (N := N) (A := A) (a := a) (b := b) (k := 3) (mx := 20) (w := 103) oa ob rfl (by omega) hP
  have : ∀ {β : Type} {f : Int32 → mM β}, mb (f55 N 103 20) f S = f (Int32.ofNat (cG A a b)) S := by
    intro β f
    have q : f55 N 103 20 S = some (Int32.ofNat (cG A a b), S) := q
    simp only [mb, q]
  rw [this]
  exact e1
theorem tonL {a0 a1 a3 X : Nat} {x5 : Int32} (hX : X < 100) (hN : 1300 ≤ N) (oa : o_cv pa) (ob : o_cv pb) (ha : a < 4) (hb : b < 4) (hv : WFv A) : ∀ m i n (S : ms_S), m + i = X + 1 → m < n → PE S A pa pb a b → ms_I S 77 0 = 0 → ∃ S1, f54_L116 N a0 a1 a3 (fun _ _ _ => mret ()) n x5 (Int32.ofNat X) (Int32.ofNat i) S = some ((), S1) ∧ PE S1 A pa pb a b ∧ ResP S1 A a b (srch (fT A a b (cG A a b + 1) (cD A a b + 1) (cW A a b + 1)) m i) ∧ offP S S1 := by
  intro m
  induction m with
  | zero =>
    intro i n S hi hn hP hf
    obtain ⟨n, rfl⟩ : ∃ q, n = q + 1 := ⟨n - 1, by omega⟩
    have e : i = X + 1 := by omega
    subst e
    refine ⟨S, ?_, hP, hf, offP.rf⟩
    rw [f54_L116, if_pos (xgt (by omega))]; rfl
  | succ m ih =>
    intro i n S hi hn hP hf
    obtain ⟨n, rfl⟩ : ∃ q, n = q + 1 := ⟨n - 1, by omega⟩
    have o0 : offP S (ms_setA (ms_setA S 56 0 (Int32.ofNat i)) 78 0 (Int32.ofNat i)) := ⟨fun c h1 h2 => (Eqc_A (by omega)).tr (Eqc_A (by omega)), fun k _ => by simp only [mGo]⟩
    have P0 : PE (ms_setA (ms_setA S 56 0 (Int32.ofNat i)) 78 0 (Int32.ofNat i)) A pa pb a b := PE_fr oa ob hP (by simp only [mGo]) (by simp only [mGo]) (fun j hj => by simp only [mG]; rw [if_neg (by omega), if_neg (by omega)]) o0
    obtain ⟨S1, e1, P1, u1, u2, r1, o1⟩ := q56 (N := N) (S := ms_setA (ms_setA S 56 0 (Int32.ofNat i)) 78 0 (Int32.ofNat i)) (t := i) hN oa ob ha hb hv P0 (by simp [mG]) (by simp [mG]) (by simpa [mGo] using hf)
    have i3 : inR 0 6 := ofN_inR (i := 0) (by omega) (by omega)
    have c3 : (0 : Int32).toNatClampNeg = 0 := by decide
    have step : f54_L116 N a0 a1 a3 (fun _ _ _ => mret ()) (n + 1) x5 (Int32.ofNat X) (Int32.ofNat i) S = f54_L116 N a0 a1 a3 (fun _ _ _ => mret ()) n x5 (Int32.ofNat X) (Int32.ofNat (i + 1)) S1 := by
      rw [f54_L116, if_neg (xle (by omega) (by omega))]
      simp only [mE, hf]
      rw [if_neg (by simp), EgRo hP.1 rfl, E25 (j := 0) (w := 100) (by omega) rfl]
      simp only [mE, i3, c3]
      have : ∀ {β : Type} {f : Unit → mM β}, mb (f56 N) f (ms_setA (ms_setA S 56 0 (Int32.ofNat i)) 78 0 (Int32.ofNat i)) = f () S1 := by intro β f; simp only [mb, e1]
      rw [this, ofN_s]
    rw [step]
    have off1 : offP S S1 := o0.tr o1
    cases hr : fT A a b (cG A a b + 1) (cD A a b + 1) (cW A a b + 1) i with
    | none =>
      have r1' : ResP S1 A a b (fT A a b (cG A a b + 1) (cD A a b + 1) (cW A a b + 1) i) := r1
      rw [hr] at r1'
      obtain ⟨S2, e2, P2, r2, o2⟩ := ih (i + 1) n S1 (by omega) (by omega) P1 r1'
      refine ⟨S2, e2, P2, ?_, off1.tr o2⟩
      rw [srch, hr]; exact r2
    | some q =>
      have r1' : ResP S1 A a b (fT A a b (cG A a b + 1) (cD A a b + 1) (cW A a b + 1) i) := r1
      rw [hr] at r1'
      obtain ⟨n, rfl⟩ : ∃ q, n = q + 1 := ⟨n - 1, by omega⟩
      refine ⟨S1, ?_, P1, ?_, off1⟩
      · rw [f54_L116]
        by_cases hx : Int32.ofNat (i + 1) > Int32.ofNat X
        · rw [if_pos hx]; rfl
        · rw [if_neg hx]; simp only [mE, r1'.1]; rw [if_pos (by decide)]
      · rw [srch, hr]; exact r1'
/-- the whole search -/
theorem q54 {st : Nat} {S : ms_S} (hN : 1300 ≤ N) (ost : o_st st) (oa : o_cv pa) (ob : o_cv pb) (ha : a < 4) (hb : b < 4) (hv : WFv A) (h7 : ms_I S st 7 = Int32.ofNat (aN A 2)) (hn2 : aN A 2 ≤ 8) (hsh : ∀ i, i < aN A 2 → ms_A S (st + 6) i = aX A 5 i) (w5 : ∀ i, i < aN A 2 → aX A 5 i = 0 ∨ aX A 5 i = 1) (c1 : cCvAt S A pa a) (c2 : cCvAt S A pb b) : ∃ S1, f54 N pa pb st S = some ((), S1) ∧ ResP S1 A a b (partC A a b) ∧ offP S S1 := by
  have hne : st ≠ 77 ∧ st + 6 ≠ 78 ∧ st ≠ 54 ∧ st + 6 ≠ 56 := by rcases ost with rfl | rfl <;> decide
  have off0 : offP S (ms_setI (ms_setA (ms_setA (ms_setA (ms_setA (ms_setI (ms_setR (ms_setR (ms_setR S 77 6 (some pa)) 77 7 (some pb)) 77 5 (some 54)) 54 2 (landP A)) 56 7 (shP A)) 56 1 100) 56 2 5) 56 5 0) 77 0 0) := ⟨fun c h1 h2 => ((((((((Eqc_R (by omega)).tr (Eqc_R (by omega))).tr (Eqc_R (by omega))).tr (Eqc_I (by omega))).tr (Eqc_A (by omega))).tr (Eqc_A (by omega))).tr (Eqc_A (by omega))).tr (Eqc_A (by omega))).tr (Eqc_I (by omega)), fun k hk => by simp [mG, mGo, hk]⟩
  have P0 : PE (ms_setI (ms_setA (ms_setA (ms_setA (ms_setA (ms_setI (ms_setR (ms_setR (ms_setR S 77 6 (some pa)) 77 7 (some pb)) 77 5 (some 54)) 54 2 (landP A)) 56 7 (shP A)) 56 1 100) 56 2 5) 56 5 0) 77 0 0) A pa pb a b := by
    refine ⟨by simp [mG, mGo], by simp [mG, mGo], by simp [mG, mGo], by simp [mG, mGo], ⟨by simp [mG, mGo], by simp [mG, mGo], by simp [mG, mGo], by simp [mG, mGo]⟩, cCvAt_fr c1 (cvOff oa off0.1), cCvAt_fr c2 (cvOff ob off0.1)⟩
  have hX : cT A a b < 100 := by unfold cT; split <;> omega
  obtain ⟨S1, e1, P1, r1, o1⟩ := tonL (N := N) (a0 := pa) (a1 := pb) (a3 := st) (x5 := if aN A 2 = 0 then 0 else 1) hX hN oa ob ha hb hv (cT A a b + 1) 0 N _ (by omega) (by omega) P0 (by simp [mG])
  refine ⟨S1, ?_, r1, off0.tr o1⟩
  have hR : ∀ X : ms_S, ms_R X 77 = ms_R (ms_setR (ms_setR (ms_setR S 77 6 (some pa)) 77 7 (some pb)) 77 5 (some 54)) 77 → ms_R X 77 5 = some 54 := fun X h => by rw [h]; simp [mG]
  have key : ∀ (y x5 l : Int32) (v : Int32), x5 = (if aN A 2 = 0 then 0 else 1) → l = landP A → v = shP A → (mb (f26 N l v) fun _ => mb (gRo (isA 54) 77 5) fun _ => mb (f25 N 101 100) fun _ => mb (gRo (isA 54) 77 5) fun _ => mb (f25 N 102 5) fun _ => mb (gRo (isA 54) 77 5) fun _ => mb (f25 N 105 0) fun _ => mb (pZ 77 0 0) fun _ => mb (f55 N 100 99) fun v12 => (mlet (fun (x5 : Int32) (x6 : Int32) (x7 : Int32) => (mret ())) fun J159 => f54_L116 N pa pb st J159 N x5 v12 0)) (ms_setR (ms_setR (ms_setR S 77 6 (some pa)) 77 7 (some pb)) 77 5 (some 54)) = some ((), S1) := by
    intro y x5 l v hx hl hv1
    subst hx hl hv1
    have hs : shP A = 0 ∨ shP A = 1 := by
      unfold shP
      split
      · exact Or.inl rfl
      · exact w5 0 (by omega)
    have e26 : f26 N (landP A) (shP A) (ms_setR (ms_setR (ms_setR S 77 6 (some pa)) 77 7 (some pb)) 77 5 (some 54)) = some ((), ms_setA (ms_setI (ms_setR (ms_setR (ms_setR S 77 6 (some pa)) 77 7 (some pb)) 77 5 (some 54)) 54 2 (landP A)) 56 7 (shP A)) := by
      unfold f26
      simp only [mE]
      rcases hs with h | h
      · rw [if_pos h, E25 (j := 7) (w := 107) (by omega) rfl, h]; rfl
      · rw [if_neg (by rw [h]; decide), E25 (j := 7) (w := 107) (by omega) rfl, h]; rfl
    have m26 : ∀ {β : Type} {f : Unit → mM β}, mb (f26 N (landP A) (shP A)) f (ms_setR (ms_setR (ms_setR S 77 6 (some pa)) 77 7 (some pb)) 77 5 (some 54)) = f () (ms_setA (ms_setI (ms_setR (ms_setR (ms_setR S 77 6 (some pa)) 77 7 (some pb)) 77 5 (some 54)) 54 2 (landP A)) 56 7 (shP A)) := by intro β f; simp only [mb, e26]
    rw [m26, EgRo (hR _ (by simp only [mGo])) rfl, E25 (j := 1) (w := 101) (by omega) rfl, EgRo (hR _ (by simp only [mGo])) rfl, E25 (j := 2) (w := 102) (by omega) rfl, EgRo (hR _ (by simp only [mGo])) rfl, E25 (j := 5) (w := 105) (by omega) rfl]
    simp only [mE, true_or]
    have q := q55 (N := N) (A := A) (a := a) (b := b) (k := 0) (mx := 99) (w := 100) oa ob rfl (by omega) P0
    have m55 : ∀ {β : Type} {f : Int32 → mM β}, mb (f55 N 100 99) f (ms_setI (ms_setA (ms_setA (ms_setA (ms_setA (ms_setI (ms_setR (ms_setR (ms_setR S 77 6 (some pa)) 77 7 (some pb)) 77 5 (some 54)) 54 2 (landP A)) 56 7 (shP A)) 56 1 100) 56 2 5) 56 5 0) 77 0 0) = f (Int32.ofNat (cT A a b)) (ms_setI (ms_setA (ms_setA (ms_setA (ms_setA (ms_setI (ms_setR (ms_setR (ms_setR S 77 6 (some pa)) 77 7 (some pb)) 77 5 (some 54)) 54 2 (landP A)) 56 7 (shP A)) 56 1 100) 56 2 5) 56 5 0) 77 0 0) := by
      intro β f
      have q : f55 N 100 99 _ = some (Int32.ofNat (cT A a b), _) := q
      simp only [mb, q]
    rw [m55]
    exact e1
  unfold f54
  simp only [mlet]
  have epR : ∀ {β : Type} {k r : Nat} {f : Unit → mM β} {X : ms_S}, mb (pR 77 k r) f X = f () (ms_setR X 77 k (some r)) := fun {_ _ _ _ _} => rfl
  rw [epR, epR, epR]
  have h7' : ms_I (ms_setR (ms_setR (ms_setR S 77 6 (some pa)) 77 7 (some pb)) 77 5 (some 54)) st 7 = Int32.ofNat (aN A 2) := by simp only [mGo]; exact h7
  simp only [mE, h7']
  by_cases hz : aN A 2 = 0
  · have hle : Int32.ofNat (aN A 2) ≤ 0 := by rw [hz]; decide
    rw [if_pos hle, EgRo (hR _ rfl) rfl]
    simp only [mE, if_true]
    exact key 0 0 (-1) 0 (by rw [if_pos hz]) (by unfold landP; rw [if_pos hz]) (by unfold shP; rw [if_pos hz])
  · have hle : ¬ Int32.ofNat (aN A 2) ≤ 0 := fun q => by have := (ofN_le (i := aN A 2) (j := 0) (by omega) (by omega)).1 q; omega
    rw [if_neg hle, EgRo (hR _ rfl) rfl]
    have i3 : inR 0 8 := ofN_inR (i := 0) (by omega) (by omega)
    have c3 : (0 : Int32).toNatClampNeg = 0 := by decide
    have hs0 : ms_A (ms_setR (ms_setR (ms_setR S 77 6 (some pa)) 77 7 (some pb)) 77 5 (some 54)) (st + 6) 0 = aX A 5 0 := by simp only [mGo]; exact hsh 0 (by omega)
    simp only [mE, i10, if_false, i3, c3, hs0]
    rcases w5 0 (by omega) with h | h
    · rw [if_pos h]
      exact key 0 1 0 0 (by rw [if_neg hz]) (by unfold landP; rw [if_neg hz]) (by unfold shP; rw [if_neg hz, h])
    · rw [if_neg (by rw [h]; decide)]
      exact key 0 1 0 1 (by rw [if_neg hz]) (by unfold landP; rw [if_neg hz]) (by unfold shP; rw [if_neg hz, h])
end PAL
