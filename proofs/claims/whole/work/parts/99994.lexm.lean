/-! the reference's tokens -/
def TxM (S : ms_S) (X : Nat → Int32) (L : Nat) : Prop := ms_I S 131 3 = Int32.ofNat L ∧ ∀ i, i < L → ms_A S 133 i &&& 255 = X i
def clsT (ty : Nat) : Int32 := if ty = 0 then 0 else if ty = 1 then 1 else if ty = 2 then 2 else if ty = 3 then 4 else if 100 ≤ ty then 3 else 5
/-- the token that stands in the reference -/
def TkM (S : ms_S) (t : Tk) : Prop := ms_I S 131 6 = Int32.ofNat (tAt t) ∧ ms_I S 131 7 = Int32.ofNat (tEn t) ∧ ms_I S 131 8 = clsT (tTy t) ∧ (tTy t = 3 → ms_I S 131 9 = tNu t) ∧ (tTy t = 2 ∨ 100 ≤ tTy t → ms_J S 131 10 = pk8 (tNm t))
/-- only field k of the reference -/
def frK (k : Nat) (S S1 : ms_S) : Prop := (∀ j, j ≠ k → ms_I S1 131 j = ms_I S 131 j) ∧ ms_J S1 = ms_J S ∧ ∀ b, b ≠ 131 → Eqc S S1 b
theorem frK.rf {k : Nat} {S : ms_S} : frK k S S := ⟨fun _ _ => rfl, rfl, fun _ _ => Eqc.rf⟩
theorem frK.st {k : Nat} {S : ms_S} {v : Int32} : frK k S (ms_setI S 131 k v) := ⟨fun j hj => by simp only [mG, true_and, if_neg hj], rfl, fun b hb => Eqc_I hb⟩
theorem frK.tr {k : Nat} {S S1 S2 : ms_S} (h : frK k S S1) (q : frK k S1 S2) : frK k S S2 := ⟨fun j hj => (q.1 j hj).trans (h.1 j hj), q.2.1.trans h.2.1, fun b hb => (h.2.2 b hb).tr (q.2.2 b hb)⟩
theorem TxM_fr {k : Nat} {S S1 : ms_S} {X : Nat → Int32} {L : Nat} (h : TxM S X L) (hk : k ≠ 3) (o : frK k S S1) : TxM S1 X L := by
  unfold TxM at *
  rw [o.1 3 (fun q => hk q.symm), (o.2.2 133 (by decide)).2.2.2.1]
  exact h
/-- what next leaves -/
def offN (S S1 : ms_S) : Prop := (∀ j, ¬ (6 ≤ j ∧ j ≤ 9) → ms_I S1 131 j = ms_I S 131 j) ∧ ∀ b, b ≠ 131 → Eqc S S1 b
theorem offN.rf {S : ms_S} : offN S S := ⟨fun _ _ => rfl, fun _ _ => Eqc.rf⟩
theorem offN.tr {S S1 S2 : ms_S} (h : offN S S1) (q : offN S1 S2) : offN S S2 := ⟨fun j hj => (q.1 j hj).trans (h.1 j hj), fun b hb => (h.2 b hb).tr (q.2 b hb)⟩
theorem frK.of {k : Nat} (hk : 6 ≤ k ∧ k ≤ 9) {S S1 : ms_S} (h : frK k S S1) : offN S S1 := ⟨fun j hj => h.1 j (by omega), h.2.2⟩
theorem offN_J {S : ms_S} {v : Int64} : offN S (ms_setJ S 131 10 v) := ⟨fun _ _ => rfl, fun b hb => Eqc_J hb⟩
theorem TxM_off {S S1 : ms_S} {X : Nat → Int32} {L : Nat} (h : TxM S X L) (o : offN S S1) : TxM S1 X L := by
  unfold TxM at *
  rw [o.1 3 (by omega), (o.2 133 (by decide)).2.2.2.1]
  exact h
section LXM
variable {N : Nat} {X : Nat → Int32} {L : Nat}
def chA (X : Nat → Int32) (L k : Nat) : Int32 := if k < L then X k else 0
theorem q151 {S : ms_S} {k : Nat} (hb : TxB X L) (h : TxM S X L) (hk : k < 2147483648) : f151 N (Int32.ofNat k) S = some (chA X L k, S) := by
  have hL := hb.1
  unfold f151 chA
  simp only [mE, h.1]
  by_cases hlt : k < L
  · have i1 : inR (Int32.ofNat k) 1200 := ofN_inR (by omega) (by omega)
    have i2 := ofN_cl (i := k) (by omega)
    rw [if_neg (fun q => by have := (ofN_le (i := L) (j := k) (by omega) (by omega)).1 q; omega), if_pos hlt]
    simp only [mE, i1, i2, h.2 k hlt]
  · rw [if_pos ((ofN_le (by omega) (by omega)).2 (by omega)), if_neg hlt]
theorem E151 {S : ms_S} {k : Nat} (hb : TxB X L) (h : TxM S X L) (hk : k < 2147483648) {β : Type} {f : Int32 → mM β} : mb (f151 N (Int32.ofNat k)) f S = f (chA X L k) S := by simp only [mb, q151 (N := N) hb h hk]
theorem q152 {S : ms_S} {c : Int32} : f152 N c S = some (if isLt c = true then 1 else 0, S) := q96 (N := N)
theorem q153 {S : ms_S} {c : Int32} : f153 N c S = some (if isDg c = true then 1 else 0, S) := q97 (N := N)
theorem E152 {S : ms_S} {c : Int32} {β : Type} {f : Int32 → mM β} : mb (f152 N c) f S = f (if isLt c = true then 1 else 0) S := by simp only [mb, q152]
theorem E153 {S : ms_S} {c : Int32} {β : Type} {f : Int32 → mM β} : mb (f153 N c) f S = f (if isDg c = true then 1 else 0) S := by simp only [mb, q153]
theorem ch_no {P : Int32 → Bool} (hz : P 0 = false) {a : Nat} (ha : a ≤ L) : P (chA X L (rnE P X L a)) = false := by
  unfold chA
  by_cases h : rnE P X L a < L
  · rw [if_pos h]; exact rnE_st h
  · rw [if_neg h]; exact hz
theorem skipL {K : mM Unit} (hb : TxB X L) : ∀ m p n (S : ms_S), m + p = rnE isSp X L p → m < n → p ≤ L → TxM S X L → ms_I S 131 6 = Int32.ofNat p → ∃ S1, f158_L8 N K n S = K S1 ∧ ms_I S1 131 6 = Int32.ofNat (rnE isSp X L p) ∧ frK 6 S S1 := by
  have hL := hb.1
  intro m
  induction m with
  | zero =>
    intro p n S hp hn hpl h h6
    obtain ⟨n, rfl⟩ : ∃ q, n = q + 1 := ⟨n - 1, by omega⟩
    have e : rnE isSp X L p = p := by omega
    refine ⟨S, ?_, by rw [e]; exact h6, frK.rf⟩
    rw [f158_L8]
    simp only [mE, h6, h.1]
    by_cases hlt : p < L
    · rw [if_neg (fun q => by have := (ofN_le (i := L) (j := p) (by omega) (by omega)).1 q; omega)]
      have hs := rnE_st (P := isSp) (X := X) (L := L) (i := p) (by omega)
      rw [e] at hs
      have hs := of_decide_eq_false hs
      have ec : chA X L p = X p := if_pos hlt
      rw [E151 hb h (by omega), ec]
      simp only [mE, h6]
      rw [if_neg (fun q => hs (Or.inl q)), E151 hb h (by omega), ec, if_pos (fun q => hs (Or.inr q))]
    · rw [if_pos ((ofN_le (by omega) (by omega)).2 (by omega))]
  | succ m ih =>
    intro p n S hp hn hpl h h6
    obtain ⟨n, rfl⟩ : ∃ q, n = q + 1 := ⟨n - 1, by omega⟩
    have hc : p < L ∧ isSp (X p) = true := by
      by_cases hc : p < L ∧ isSp (X p) = true
      · exact hc
      · have := rnE_n hc; omega
    have e := rnE_y hc.1 hc.2
    rw [e] at hp ⊢
    have ec : chA X L p = X p := if_pos hc.1
    obtain ⟨S1, e1, r1, o1⟩ := ih (p + 1) n (ms_setI S 131 6 (Int32.ofNat (p + 1))) (by omega) (by omega) (by omega) (TxM_fr h (by decide) frK.st) (by simp [mG])
    refine ⟨S1, ?_, r1, frK.st.tr o1⟩
    rw [f158_L8]
    simp only [mE, h6, h.1]
    rw [if_neg (fun q => by have := (ofN_le (i := L) (j := p) (by omega) (by omega)).1 q; omega), E151 hb h (by omega), ec]
    simp only [mE, h6, ofN_s]
    rcases of_decide_eq_true hc.2 with q | q
    · rw [if_pos q]; exact e1
    · by_cases h32 : X p = 32
      · rw [if_pos h32]; exact e1
      · rw [if_neg h32, E151 hb h (by omega), ec, if_neg (fun z => z q)]
        simp only [mE, h6, ofN_s]
        exact e1
theorem letL {K : Int32 → mM Unit} {x1 : Int32} (hb : TxB X L) : ∀ m p n (S : ms_S), m + p = rnE isLt X L p → m < n → p ≤ L → TxM S X L → ms_I S 131 7 = Int32.ofNat p → ∃ S1, f158_L119 N K n x1 S = K x1 S1 ∧ ms_I S1 131 7 = Int32.ofNat (rnE isLt X L p) ∧ frK 7 S S1 := by
  have hL := hb.1
  intro m
  induction m with
  | zero =>
    intro p n S hp hn hpl h h7
    obtain ⟨n, rfl⟩ : ∃ q, n = q + 1 := ⟨n - 1, by omega⟩
    have e : rnE isLt X L p = p := by omega
    refine ⟨S, ?_, by rw [e]; exact h7, frK.rf⟩
    have hs := ch_no (P := isLt) (X := X) (L := L) (by decide) hpl
    rw [e] at hs
    rw [f158_L119]
    simp only [mE, h7]
    rw [E151 hb h (by omega), E152, hs]
    rfl
  | succ m ih =>
    intro p n S hp hn hpl h h7
    obtain ⟨n, rfl⟩ : ∃ q, n = q + 1 := ⟨n - 1, by omega⟩
    have hc : p < L ∧ isLt (X p) = true := by
      by_cases hc : p < L ∧ isLt (X p) = true
      · exact hc
      · have := rnE_n hc; omega
    have e := rnE_y hc.1 hc.2
    rw [e] at hp ⊢
    have ec : chA X L p = X p := if_pos hc.1
    obtain ⟨S1, e1, r1, o1⟩ := ih (p + 1) n (ms_setI S 131 7 (Int32.ofNat (p + 1))) (by omega) (by omega) (by omega) (TxM_fr h (by decide) frK.st) (by simp [mG])
    refine ⟨S1, ?_, r1, frK.st.tr o1⟩
    rw [f158_L119]
    simp only [mE, h7]
    rw [E151 hb h (by omega), E152, ec, if_pos hc.2, if_neg (by decide)]
    simp only [mE, h7, ofN_s]
    exact e1
theorem nameL {K : Int32 → Int32 → mM Unit} {x1 : Int32} {a e : Nat} (hb : TxB X L) (hae : a ≤ e) (hel : e ≤ L) : ∀ m p n (S : ms_S), m + p = e → p ≤ a + 8 → a ≤ p → m < n → TxM S X L → ms_I S 131 6 = Int32.ofNat a → ms_I S 131 7 = Int32.ofNat e → ms_J S 131 10 = pk8 (subL X a (p - a)) → ∃ S1 x2, f158_L156 N K n x1 (Int32.ofNat p) S = K x1 x2 S1 ∧ ms_J S1 131 10 = pk8 (subL X a (min (e - a) 8)) ∧ ms_I S1 = ms_I S ∧ ∀ b, b ≠ 131 → Eqc S S1 b := by
  have hL := hb.1
  intro m
  induction m with
  | zero =>
    intro p n S hp hp8 hap hn h h6 h7 hJ
    obtain ⟨n, rfl⟩ : ∃ q, n = q + 1 := ⟨n - 1, by omega⟩
    have e0 : p = e := by omega
    subst e0
    refine ⟨S, Int32.ofNat p, ?_, by rw [hJ, Nat.min_eq_left (by omega)], rfl, fun _ _ => Eqc.rf⟩
    rw [f158_L156]
    simp only [mE, h7]
    rw [if_pos ((ofN_le (by omega) (by omega)).2 (Nat.le_refl _))]
  | succ m ih =>
    intro p n S hp hp8 hap hn h h6 h7 hJ
    obtain ⟨n, rfl⟩ : ∃ q, n = q + 1 := ⟨n - 1, by omega⟩
    have e8 : Int32.ofNat a + 8 = Int32.ofNat (a + 8) := ofN_add
    rw [f158_L156]
    simp only [mE, h7, h6]
    rw [if_neg (fun q => by have := (ofN_le (i := e) (j := p) (by omega) (by omega)).1 q; omega), e8]
    by_cases hfull : p = a + 8
    · subst hfull
      refine ⟨S, Int32.ofNat (a + 8), ?_, by rw [hJ, Nat.min_eq_right (by omega), show a + 8 - a = 8 by omega], rfl, fun _ _ => Eqc.rf⟩
      rw [if_pos ((ofN_le (by omega) (by omega)).2 (Nat.le_refl _))]
    · rw [if_neg (fun q => by have := (ofN_le (i := a + 8) (j := p) (by omega) (by omega)).1 q; omega)]
      have ec : chA X L p = X p := if_pos (by omega)
      simp only [mF, hJ]
      rw [E151 hb h (by omega), ec]
      simp only [mF, ofN_s]
      obtain ⟨S1, x2, e1, r1, r2, o1⟩ := ih (p + 1) n (ms_setJ S 131 10 (pk8 (subL X a (p - a)) <<< (Int32.toInt64 8 &&& 63) ||| Int32.toInt64 (X p))) (by omega) (by omega) (by omega) (by omega) (by simp only [TxM, mGo]; exact h) h6 h7 (by
        rw [show p + 1 - a = (p - a) + 1 by omega, subL_s, pk8_s, show a + (p - a) = p by omega]
        simp [mG])
      exact ⟨S1, x2, e1, r1, r2, fun b hb => (Eqc_J hb).tr (o1 b hb)⟩
theorem digL {K : Int32 → mM Unit} {x1 : Int32} {a : Nat} (hb : TxB X L) (hal : a ≤ L) : ∀ m p n (S : ms_S), m + p = rnE isDg X L a → a ≤ p → m < n → TxM S X L → ms_I S 131 6 = Int32.ofNat a → ms_I S 131 7 = Int32.ofNat p → ms_I S 131 9 = numV (subL X a (min (p - a) 4)) → ∃ S1, f158_L259 N K n x1 S = K x1 S1 ∧ ms_I S1 131 7 = Int32.ofNat (rnE isDg X L a) ∧ ms_I S1 131 9 = numV (subL X a (min (rnE isDg X L a - a) 4)) ∧ ms_I S1 131 6 = Int32.ofNat a ∧ offN S S1 := by
  have hL := hb.1
  have hle := rnE_le (P := isDg) (X := X) hal
  intro m
  induction m with
  | zero =>
    intro p n S hp hap hn h h6 h7 h9
    obtain ⟨n, rfl⟩ : ∃ q, n = q + 1 := ⟨n - 1, by omega⟩
    have e : p = rnE isDg X L a := by omega
    rw [e] at h7 h9
    refine ⟨S, ?_, h7, h9, h6, offN.rf⟩
    have hs := ch_no (P := isDg) (X := X) (L := L) (by decide) hal
    rw [f158_L259]
    simp only [mE, h7]
    rw [E151 hb h (by omega), E153, hs]
    rfl
  | succ m ih =>
    intro p n S hp hap hn h h6 h7 h9
    obtain ⟨n, rfl⟩ : ∃ q, n = q + 1 := ⟨n - 1, by omega⟩
    have hin := rnE_in (P := isDg) (X := X) (L := L) (i := a) (j := p) hap (by omega)
    have ec : chA X L p = X p := if_pos (by omega)
    rw [f158_L259]
    simp only [mE, h7]
    rw [E151 hb h (by omega), E153, ec, if_pos hin, if_neg (by decide)]
    simp only [mE, h7, h6, ofN_sub hap]
    have hge : (Int32.ofNat (p - a) ≥ 4) ↔ 4 ≤ p - a := ofN_le (i := 4) (by omega) (by omega)
    by_cases h4 : 4 ≤ p - a
    · rw [if_pos (hge.2 h4), ofN_s]
      obtain ⟨S1, e1, r1, r2, r3, o1⟩ := ih (p + 1) n (ms_setI S 131 7 (Int32.ofNat (p + 1))) (by omega) (by omega) (by omega) (TxM_fr h (by decide) frK.st) (by simp [mG]; exact h6) (by simp [mG]) (by
        simp [mG]
        rw [h9, Nat.min_eq_right h4, Nat.min_eq_right (by omega)])
      exact ⟨S1, e1, r1, r2, r3, (frK.of (by omega) frK.st).tr o1⟩
    · rw [if_neg (fun q => h4 (hge.1 q))]
      simp only [mE, h9, h7]
      rw [E151 hb h (by omega), ec]
      have h7b : ∀ v, ms_I (ms_setI S 131 9 v) 131 7 = Int32.ofNat p := fun v => by simp [mG]; exact h7
      simp only [mE, h7b, ofN_s]
      obtain ⟨S1, e1, r1, r2, r3, o1⟩ := ih (p + 1) n (ms_setI (ms_setI S 131 9 (10 * numV (subL X a (min (p - a) 4)) + X p - 48)) 131 7 (Int32.ofNat (p + 1))) (by omega) (by omega) (by omega) (TxM_fr (TxM_fr h (by decide) frK.st) (by decide) frK.st) (by simp [mG]; exact h6) (by simp [mG]) (by
        simp [mG]
        rw [Nat.min_eq_left (show p - a ≤ 4 by omega), Nat.min_eq_left (show p + 1 - a ≤ 4 by omega), show p + 1 - a = (p - a) + 1 by omega, subL_s, numV_s, show a + (p - a) = p by omega]
        generalize numV (subL X a (p - a)) = y
        generalize X p = z
        clear ih h6 h7 h9 h h7b hge hin ec hb
        grind)
      exact ⟨S1, e1, r1, r2, r3, ((frK.of (by omega) frK.st).tr (frK.of (by omega) frK.st)).tr o1⟩
theorem q157 {S : ms_S} {c : Int32} : f157 N c S = some (if isSg c = true then 1 else 0, S) := by
  unfold f157 isSg
  simp only [mE, true_or, or_true, decide_eq_true_eq, ne_eq]
  by_cases h1 : c = 59
  · simp only [h1, true_or, if_true]
  · by_cases h2 : c = 40
    · simp only [h2, true_or, or_true, if_true, ite_self]
    · by_cases h3 : c = 41
      · simp only [h3, true_or, or_true, if_true, ite_self]
      · by_cases h4 : c = 60
        · simp only [h4, true_or, or_true, if_true, ite_self]
        · by_cases h5 : c = 62
          · simp only [h5, true_or, or_true, if_true, ite_self]
          · by_cases h6 : c = 61
            · simp only [h6, true_or, or_true, if_true, ite_self]
            · by_cases h7 : c = 43
              · simp only [h7, true_or, or_true, if_true, ite_self]
              · by_cases h8 : c = 45
                · simp only [h8, true_or, or_true, if_true, ite_self]
                · by_cases h9 : c = 42
                  · simp only [h9, or_true, if_true, not_true_eq_false, if_false, ite_self]
                  · simp only [h1, h2, h3, h4, h5, h6, h7, h8, h9, if_false, not_false_eq_true, if_true, or_self]
end LXM
