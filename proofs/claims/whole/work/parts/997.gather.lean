/-! the reference gathers a day's passages -/
def kdA (A : Ab) (s f : Nat) : Int32 := kindL (aE A s) (shipG A (shO A f)) (aX A 10 (shO A f)) (aN A (10 + s)) 0
def RwM (S : ms_S) (A : Ab) (s : Nat) (L : List Nat) : Prop := ms_I S 131 90 = Int32.ofNat L.length ∧ ∀ p, p < L.length → ms_A S 180 p = Int32.ofNat (L.getD p 0) ∧ ms_A S 188 p = aX A 22 (L.getD p 0) ∧ ms_A S 181 p = Int32.ofNat (rdA A (L.getD p 0)) ∧ ms_A S 182 p = Int32.ofNat (thA A (L.getD p 0)) ∧ ms_A S 187 p = kdA A s (L.getD p 0)
section GAT
variable {N : Nat} {A : Ab}
theorem gorgeL (hw : WF0 A) : ∀ m i n (S : ms_S), m + i = aN A 1 → m < n → mBase S A → ms_I S 131 92 = goF (aX A 4) i → ms_I S 131 93 = goT (aX A 4) i → ∃ S1, f233_L12 N (fun _ => mret ()) n (Int32.ofNat i) S = some ((), S1) ∧ ms_I S1 131 92 = gF A ∧ ms_I S1 131 93 = gT A ∧ (∀ j, j ≠ 92 → j ≠ 93 → ms_I S1 131 j = ms_I S 131 j) ∧ ∀ b, b ≠ 131 → Eqc S S1 b := by
  have hn1 : aN A 1 ≤ 20 := hw.1.2.1
  intro m
  induction m with
  | zero =>
    intro i n S hi hn h h92 h93
    obtain ⟨n, rfl⟩ : ∃ q, n = q + 1 := ⟨n - 1, by omega⟩
    have e : i = aN A 1 := by omega
    subst e
    obtain ⟨_, _, ⟨b, hb, hB, hst⟩, _⟩ := h
    refine ⟨S, ?_, h92, h93, fun _ _ _ => rfl, fun _ _ => Eqc.rf⟩
    have m170 : ∀ {β : Type} {f' : Int32 → mM β}, mb (f170 N) f' S = f' (Int32.ofNat (aN A 1)) S := by intro β f'; simp only [mb, q170 hb hB, hst.1]
    rw [f233_L12, m170]
    rw [if_pos ((ofN_le (by omega) (by omega)).2 (Nat.le_refl _))]
    rfl
  | succ m ih =>
    intro i n S hi hn h h92 h93
    obtain ⟨n, rfl⟩ : ∃ q, n = q + 1 := ⟨n - 1, by omega⟩
    have hil : i < aN A 1 := by omega
    have hmb := h
    obtain ⟨_, _, ⟨b, hb, hB, hst⟩, _⟩ := h
    have m170 : ∀ {β : Type} {f' : Int32 → mM β}, mb (f170 N) f' S = f' (Int32.ofNat (aN A 1)) S := by intro β f'; simp only [mb, q170 hb hB, hst.1]
    have hge : ¬ Int32.ofNat i ≥ Int32.ofNat (aN A 1) := fun q => by have := (ofN_le (i := aN A 1) (j := i) (by omega) (by omega)).1 q; omega
    have e20 : 20 * Int32.ofNat b + Int32.ofNat i = Int32.ofNat (20 * b + i) := by rw [show (20 : Int32) = Int32.ofNat 20 from rfl, ofN_mul, ofN_add]
    have i1 : inR (Int32.ofNat (20 * b + i)) 40 := ofN_inR (by omega) (by omega)
    have i2 := ofN_cl (i := 20 * b + i) (by omega)
    have a140 : ms_A S 140 (20 * b + i) = aX A 4 i := (hst.2.2.2.1 i hil).2.2.2
    rw [f233_L12, m170, if_neg hge]
    simp only [mE, hB, e20, i1, i2, a140]
    by_cases hx : aX A 4 i = 0
    · rw [if_neg (fun q => q hx), ofN_s]
      refine ih (i + 1) n S (by omega) (by omega) hmb ?_ ?_
      · rw [show goF (aX A 4) (i + 1) = goF (aX A 4) i from if_neg (fun q => q.2 hx)]; exact h92
      · rw [show goT (aX A 4) (i + 1) = goT (aX A 4) i from if_neg (fun q => q hx)]; exact h93
    · rw [if_pos hx]
      simp only [h92]
      have go : ∀ v, v = goF (aX A 4) (i + 1) → ∃ S1, f233_L12 N (fun _ => mret ()) n (Int32.ofNat (i + 1)) (ms_setI (ms_setI S 131 92 v) 131 93 (Int32.ofNat i)) = some ((), S1) ∧ ms_I S1 131 92 = gF A ∧ ms_I S1 131 93 = gT A ∧ (∀ j, j ≠ 92 → j ≠ 93 → ms_I S1 131 j = ms_I S 131 j) ∧ ∀ b, b ≠ 131 → Eqc S S1 b := by
        intro v hv
        have yI : ∀ j, j ≠ 92 → j ≠ 93 → ms_I (ms_setI (ms_setI S 131 92 v) 131 93 (Int32.ofNat i)) 131 j = ms_I S 131 j := fun j h1 h2 => by simp only [mG, h1, h2, and_false, if_false]
        have oY : ∀ b, b ≠ 131 → Eqc S (ms_setI (ms_setI S 131 92 v) 131 93 (Int32.ofNat i)) b := fun b hb => (Eqc_I hb).tr (Eqc_I hb)
        obtain ⟨S1, e1, r1, r2, k1, o1⟩ := ih (i + 1) n (ms_setI (ms_setI S 131 92 v) 131 93 (Int32.ofNat i)) (by omega) (by omega) (mBase_fr hmb (fun j hj => yI j (by unfold tellM at hj; omega) (by unfold tellM at hj; omega)) (fun b h1 _ => oY b (by omega))) (by simp [mG]; exact hv) (by rw [show goT (aX A 4) (i + 1) = Int32.ofNat i from if_pos hx]; simp [mG])
        exact ⟨S1, e1, r1, r2, fun j h1 h2 => (k1 j h1 h2).trans (yI j h1 h2), fun b hb => (oY b hb).tr (o1 b hb)⟩
      rcases goF_T (X := aX A 4) i (by omega) with ⟨q1, _⟩ | ⟨f, t, q1, _, _, _⟩
      · rw [if_neg (by rw [q1]; decide), ofN_s]
        exact go _ (by rw [show goF (aX A 4) (i + 1) = Int32.ofNat i from if_pos ⟨q1, hx⟩])
      · have hne : ¬ Int32.ofNat f = -1 := by
          have := i32_of f (by omega)
          clear q1
          grind
        rw [if_pos (by rw [q1]; exact ofN_nn (by omega)), ofN_s]
        exact go _ (by rw [show goF (aX A 4) (i + 1) = goF (aX A 4) i from if_neg (fun q => hne (q1.symm.trans q.1))])
theorem q233 {S : ms_S} (hN : 100 ≤ N) (hw : WF0 A) (h : mBase S A) : ∃ S1, f233 N S = some ((), S1) ∧ ms_I S1 131 92 = gF A ∧ ms_I S1 131 93 = gT A ∧ (∀ j, j ≠ 92 → j ≠ 93 → ms_I S1 131 j = ms_I S 131 j) ∧ ∀ b, b ≠ 131 → Eqc S S1 b := by
  have hn1 : aN A 1 ≤ 20 := hw.1.2.1
  have yI : ∀ j, j ≠ 92 → j ≠ 93 → ms_I (ms_setI (ms_setI S 131 92 (-1)) 131 93 (-1)) 131 j = ms_I S 131 j := fun j h1 h2 => by simp only [mG, h1, h2, and_false, if_false]
  have oY : ∀ b, b ≠ 131 → Eqc S (ms_setI (ms_setI S 131 92 (-1)) 131 93 (-1)) b := fun b hb => (Eqc_I hb).tr (Eqc_I hb)
  obtain ⟨S1, e1, r1, r2, k1, o1⟩ := gorgeL (N := N) hw (aN A 1) 0 N (ms_setI (ms_setI S 131 92 (-1)) 131 93 (-1)) (by omega) (by omega) (mBase_fr h (fun j hj => yI j (by unfold tellM at hj; omega) (by unfold tellM at hj; omega)) (fun b h1 _ => oY b (by omega))) (by simp [mG, goF]) (by simp [mG, goT])
  exact ⟨S1, e1, r1, r2, fun j h1 h2 => (k1 j h1 h2).trans (yI j h1 h2), fun b hb => (oY b hb).tr (o1 b hb)⟩
theorem comesL {p f : Nat} (hw : WF0 A) (hp : p < 8) (hf : f < aN A 4) (hps : isPs A f = true) (hg : gF A ≠ -1) : ∀ m i n (S : ms_S), m + i = aN A 1 → m < n → mBase S A → ms_I S 131 92 = gF A → ms_I S 131 93 = gT A → ms_A S 181 p = Int32.ofNat (sumB (mN A (shO A f) (aX A 22 f)) (bRd A (aX A 22 f)) i) → ms_A S 182 p = Int32.ofNat (sumB (mN A (shO A f) (aX A 22 f)) (bTh A) i) → ∃ S1, f234_L36 N (fun _ _ _ _ => mret ()) n (Int32.ofNat p) (Int32.ofNat (shO A f)) (aX A 22 f) (Int32.ofNat i) S = some ((), S1) ∧ ms_A S1 181 p = Int32.ofNat (rdA A f) ∧ ms_A S1 182 p = Int32.ofNat (thA A f) ∧ (∀ q, q ≠ p → ms_A S1 181 q = ms_A S 181 q ∧ ms_A S1 182 q = ms_A S 182 q) ∧ ∀ b, b ≠ 181 → b ≠ 182 → Eqc S S1 b := by
  have hn1 : aN A 1 ≤ 20 := hw.1.2.1
  have hn3 : aN A 3 ≤ 20 := hw.1.2.2.2.1
  obtain ⟨hs, _⟩ := shO_lt hw hf hps
  have wn := (hw.2.2.2.2.2.2.1 f hf).2.2.1
  obtain ⟨fr0, to0, g1, g2, gle, glt⟩ := gF_ne hw hg
  have p1 : inR (Int32.ofNat p) 8 := ofN_inR (by omega) (by omega)
  have p2 := ofN_cl (i := p) (by omega)
  intro m
  induction m with
  | zero =>
    intro i n S hi hn h h92 h93 h181 h182
    obtain ⟨n, rfl⟩ : ∃ q, n = q + 1 := ⟨n - 1, by omega⟩
    have e : i = aN A 1 := by omega
    subst e
    obtain ⟨_, _, ⟨b, hb, hB, hst⟩, _⟩ := h
    have m170 : ∀ {β : Type} {f' : Int32 → mM β}, mb (f170 N) f' S = f' (Int32.ofNat (aN A 1)) S := by intro β f'; simp only [mb, q170 hb hB, hst.1]
    refine ⟨S, ?_, ?_, ?_, fun _ _ => ⟨rfl, rfl⟩, fun _ _ _ => Eqc.rf⟩
    · rw [f234_L36, m170, if_pos ((ofN_le (by omega) (by omega)).2 (Nat.le_refl _))]
      rfl
    · unfold rdA; rw [if_neg hg]; exact h181
    · unfold thA; rw [if_neg hg]; exact h182
  | succ m ih =>
    intro i n S hi hn h h92 h93 h181 h182
    obtain ⟨n, rfl⟩ : ∃ q, n = q + 1 := ⟨n - 1, by omega⟩
    have hil : i < aN A 1 := by omega
    have hmb := h
    obtain ⟨_, _, ⟨b, hb, hB, hst⟩, ⟨s1, s2⟩, _⟩ := h
    have m170 : ∀ {β : Type} {f' : Int32 → mM β}, mb (f170 N) f' S = f' (Int32.ofNat (aN A 1)) S := by intro β f'; simp only [mb, q170 hb hB, hst.1]
    have hge : ¬ Int32.ofNat i ≥ Int32.ofNat (aN A 1) := fun q => by have := (ofN_le (i := aN A 1) (j := i) (by omega) (by omega)).1 q; omega
    have m202 : ∀ {β : Type} {f' : Int32 → mM β}, mb (f202 N (Int32.ofNat (shO A f)) (Int32.ofNat i) (aX A 22 f)) f' S = f' (Int32.ofNat (mN A (shO A f) (aX A 22 f) i)) S := by
      intro β f'
      have e1 : ms_A S 160 (shO A f) = aX A 12 (shO A f) := s2 _ hs 2 (by omega)
      have e2 : ms_A S 139 (20 * b + i) = aX A 3 i := (hst.2.2.2.1 i hil).2.2.1
      simp only [mb, q202 (N := N) (S := S) hb hB (i := i) (s := shO A f) (n := aX A 22 f) (by omega) (by omega), e1, e2, (mN_eq hw (no := aX A 22 f) hs hil).1]
    have u1 : sumB (mN A (shO A f) (aX A 22 f)) (bRd A (aX A 22 f)) (i + 1) = sumB (mN A (shO A f) (aX A 22 f)) (bRd A (aX A 22 f)) i + (if bRd A (aX A 22 f) i = true then mN A (shO A f) (aX A 22 f) i else 0) := rfl
    have u2 : sumB (mN A (shO A f) (aX A 22 f)) (bTh A) (i + 1) = sumB (mN A (shO A f) (aX A 22 f)) (bTh A) i + (if bTh A i = true then mN A (shO A f) (aX A 22 f) i else 0) := rfl
    have go : ∀ Y, (∀ q, q ≠ p → ms_A Y 181 q = ms_A S 181 q ∧ ms_A Y 182 q = ms_A S 182 q) → (∀ b, b ≠ 181 → b ≠ 182 → Eqc S Y b) → ms_A Y 181 p = Int32.ofNat (sumB (mN A (shO A f) (aX A 22 f)) (bRd A (aX A 22 f)) (i + 1)) → ms_A Y 182 p = Int32.ofNat (sumB (mN A (shO A f) (aX A 22 f)) (bTh A) (i + 1)) → ∃ S1, f234_L36 N (fun _ _ _ _ => mret ()) n (Int32.ofNat p) (Int32.ofNat (shO A f)) (aX A 22 f) (Int32.ofNat (i + 1)) Y = some ((), S1) ∧ ms_A S1 181 p = Int32.ofNat (rdA A f) ∧ ms_A S1 182 p = Int32.ofNat (thA A f) ∧ (∀ q, q ≠ p → ms_A S1 181 q = ms_A S 181 q ∧ ms_A S1 182 q = ms_A S 182 q) ∧ ∀ b, b ≠ 181 → b ≠ 182 → Eqc S S1 b := by
      intro Y yq yE y1 y2
      obtain ⟨S1, e1, r1, r2, k1, o1⟩ := ih (i + 1) n Y (by omega) (by omega) (mBase_fr hmb (fun j _ => by rw [(yE 131 (by decide) (by decide)).1]) (fun b h1 h2 => yE b (by unfold scrM at h2; omega) (by unfold scrM at h2; omega))) (by rw [(yE 131 (by decide) (by decide)).1]; exact h92) (by rw [(yE 131 (by decide) (by decide)).1]; exact h93) y1 y2
      exact ⟨S1, e1, r1, r2, fun q hq => ⟨((k1 q hq).1).trans (yq q hq).1, ((k1 q hq).2).trans (yq q hq).2⟩, fun b h1 h2 => (yE b h1 h2).tr (o1 b h1 h2)⟩
    rw [f234_L36, m170, if_neg hge]
    simp only [mE, h92]
    rw [if_neg (by rw [g1]; exact ofN_nl (by omega)), m202]
    simp only [mE, h92]
    have addT : bTh A i = true → bRd A (aX A 22 f) i = false → ∃ S1, f234_L36 N (fun _ _ _ _ => mret ()) n (Int32.ofNat p) (Int32.ofNat (shO A f)) (aX A 22 f) (Int32.ofNat (i + 1)) (ms_setA S 182 p (Int32.ofNat (sumB (mN A (shO A f) (aX A 22 f)) (bTh A) i) + Int32.ofNat (mN A (shO A f) (aX A 22 f) i))) = some ((), S1) ∧ ms_A S1 181 p = Int32.ofNat (rdA A f) ∧ ms_A S1 182 p = Int32.ofNat (thA A f) ∧ (∀ q, q ≠ p → ms_A S1 181 q = ms_A S 181 q ∧ ms_A S1 182 q = ms_A S 182 q) ∧ ∀ b, b ≠ 181 → b ≠ 182 → Eqc S S1 b := by
      intro hT hR
      refine go _ (fun q hq => ?_) (fun b h1 h2 => Eqc_A h2) ?_ ?_
      · simp [mG, hq]
      · rw [u1, hR]; simp [mG]; exact h181
      · rw [u2, if_pos hT, ofN_add]; simp [mG]
    have addR : bTh A i = false → bRd A (aX A 22 f) i = true → ∃ S1, f234_L36 N (fun _ _ _ _ => mret ()) n (Int32.ofNat p) (Int32.ofNat (shO A f)) (aX A 22 f) (Int32.ofNat (i + 1)) (ms_setA S 181 p (Int32.ofNat (sumB (mN A (shO A f) (aX A 22 f)) (bRd A (aX A 22 f)) i) + Int32.ofNat (mN A (shO A f) (aX A 22 f) i))) = some ((), S1) ∧ ms_A S1 181 p = Int32.ofNat (rdA A f) ∧ ms_A S1 182 p = Int32.ofNat (thA A f) ∧ (∀ q, q ≠ p → ms_A S1 181 q = ms_A S 181 q ∧ ms_A S1 182 q = ms_A S 182 q) ∧ ∀ b, b ≠ 181 → b ≠ 182 → Eqc S S1 b := by
      intro hT hR
      refine go _ (fun q hq => ?_) (fun b h1 h2 => Eqc_A h1) ?_ ?_
      · simp [mG, hq]
      · rw [u1, if_pos hR, ofN_add]; simp [mG]
      · rw [u2, hT]; simp [mG]; exact h182
    have addN : bTh A i = false → bRd A (aX A 22 f) i = false → ∃ S1, f234_L36 N (fun _ _ _ _ => mret ()) n (Int32.ofNat p) (Int32.ofNat (shO A f)) (aX A 22 f) (Int32.ofNat (i + 1)) S = some ((), S1) ∧ ms_A S1 181 p = Int32.ofNat (rdA A f) ∧ ms_A S1 182 p = Int32.ofNat (thA A f) ∧ (∀ q, q ≠ p → ms_A S1 181 q = ms_A S 181 q ∧ ms_A S1 182 q = ms_A S 182 q) ∧ ∀ b, b ≠ 181 → b ≠ 182 → Eqc S S1 b := by
      intro hT hR
      refine go S (fun _ _ => ⟨rfl, rfl⟩) (fun _ _ _ => Eqc.rf) ?_ ?_
      · rw [u1, hR]; exact h181
      · rw [u2, hT]; exact h182
    have lt1 : Int32.ofNat i < gF A ↔ i < fr0 := by rw [g1]; exact ofN_lt (by omega) (by omega)
    have lt2 : gT A < Int32.ofNat i ↔ to0 < i := by rw [g2]; exact ofN_lt (by omega) (by omega)
    have th1 : bTh A i = decide (fr0 ≤ i ∧ i ≤ to0) := by
      unfold bTh
      rw [g1, g2]
      by_cases hh : fr0 ≤ i ∧ i ≤ to0
      · rw [decide_eq_true hh, decide_eq_true ⟨(ofN_le (by omega) (by omega)).2 hh.1, (ofN_le (by omega) (by omega)).2 hh.2⟩]
      · rw [decide_eq_false hh, decide_eq_false (fun q => hh ⟨(ofN_le (by omega) (by omega)).1 q.1, (ofN_le (by omega) (by omega)).1 q.2⟩)]
    -- behind the first test: not within the gorge
    have out : bTh A i = false → ∃ S1, (if aX A 22 f = 0 then (mb (gI 131 93) fun v16 => if Int32.ofNat i ≤ v16 then f234_L36 N (fun _ _ _ _ => mret ()) n (Int32.ofNat p) (Int32.ofNat (shO A f)) (aX A 22 f) (Int32.ofNat i + 1) else (mb (lA 181 8 (Int32.ofNat p)) fun v13 => mb (sA 181 8 (Int32.ofNat p) (v13 + Int32.ofNat (mN A (shO A f) (aX A 22 f) i))) fun _ => f234_L36 N (fun _ _ _ _ => mret ()) n (Int32.ofNat p) (Int32.ofNat (shO A f)) (aX A 22 f) (Int32.ofNat i + 1))) else (mb (gI 131 92) fun v18 => if Int32.ofNat i ≥ v18 then f234_L36 N (fun _ _ _ _ => mret ()) n (Int32.ofNat p) (Int32.ofNat (shO A f)) (aX A 22 f) (Int32.ofNat i + 1) else (mb (lA 181 8 (Int32.ofNat p)) fun v13 => mb (sA 181 8 (Int32.ofNat p) (v13 + Int32.ofNat (mN A (shO A f) (aX A 22 f) i))) fun _ => f234_L36 N (fun _ _ _ _ => mret ()) n (Int32.ofNat p) (Int32.ofNat (shO A f)) (aX A 22 f) (Int32.ofNat i + 1)))) S = some ((), S1) ∧ ms_A S1 181 p = Int32.ofNat (rdA A f) ∧ ms_A S1 182 p = Int32.ofNat (thA A f) ∧ (∀ q, q ≠ p → ms_A S1 181 q = ms_A S 181 q ∧ ms_A S1 182 q = ms_A S 182 q) ∧ ∀ b, b ≠ 181 → b ≠ 182 → Eqc S S1 b := by
      intro hT
      rcases wn with w | w
      · have hb : bRd A (aX A 22 f) i = decide (gT A < Int32.ofNat i) := if_pos w
        rw [if_pos w]
        simp only [mE, h93]
        by_cases hh : to0 < i
        · rw [if_neg (Int32.not_le.mpr (lt2.2 hh))]
          simp only [mE, p1, p2, h181, ofN_s]
          exact addR hT (by rw [hb]; exact decide_eq_true (lt2.2 hh))
        · rw [if_pos (Int32.not_lt.mp (fun q => hh (lt2.1 q))), ofN_s]
          exact addN hT (by rw [hb]; exact decide_eq_false (fun q => hh (lt2.1 q)))
      · have hb : bRd A (aX A 22 f) i = decide (Int32.ofNat i < gF A) := if_neg (by rw [w]; decide)
        rw [if_neg (by rw [w]; decide)]
        simp only [mE, h92]
        by_cases hh : i < fr0
        · rw [if_neg (Int32.not_le.mpr (lt1.2 hh))]
          simp only [mE, p1, p2, h181, ofN_s]
          exact addR hT (by rw [hb]; exact decide_eq_true (lt1.2 hh))
        · rw [if_pos (Int32.not_lt.mp (fun q => hh (lt1.1 q))), ofN_s]
          exact addN hT (by rw [hb]; exact decide_eq_false (fun q => hh (lt1.1 q)))
    by_cases h1 : i < fr0
    · rw [if_pos (lt1.2 h1)]
      have := out (by rw [th1]; exact decide_eq_false (fun q => by omega))
      simp only [mE, h92, h93] at this ⊢
      exact this
    · rw [if_neg (fun q => h1 (lt1.1 q))]
      simp only [mE, h93]
      by_cases h2 : to0 < i
      · rw [if_pos (lt2.2 h2)]
        have := out (by rw [th1]; exact decide_eq_false (fun q => by omega))
        simp only [mE, h92, h93] at this ⊢
        exact this
      · rw [if_neg (fun q => h2 (lt2.1 q))]
        simp only [mE, p1, p2, h182, ofN_s]
        have hbT : bTh A i = true := by rw [th1]; exact decide_eq_true ⟨by omega, by omega⟩
        refine addT hbT ?_
        unfold bRd
        split
        · exact decide_eq_false (fun q => h2 (lt2.1 q))
        · exact decide_eq_false (fun q => h1 (lt1.1 q))
end GAT
