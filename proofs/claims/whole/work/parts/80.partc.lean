/-! part: the least ship on which two shelves part; the class's search -/
/-- the first that f finds, m of them from i on -/
def srch {α : Type} (f : Nat → Option α) : Nat → Nat → Option α
  | 0, _ => none
  | m + 1, i => match f i with
    | some x => some x
    | none => srch f m (i + 1)
def landP (A : Ab) : Int32 := if aN A 2 = 0 then -1 else 0
def shP (A : Ab) : Int32 := if aN A 2 = 0 then 0 else aX A 5 0
def Gp (A : Ab) (t g d w : Nat) (j : Nat) : Int32 := if j = 0 then Int32.ofNat t else if j = 1 then 100 else if j = 2 then 5 else if j = 3 then Int32.ofNat g else if j = 4 then Int32.ofNat d else if j = 5 then 0 else if j = 6 then Int32.ofNat w else shP A
def kdP (A : Ab) (s t g d w : Nat) : Int32 := kindL (aE A s) (Gp A t g d w) (landP A) (aN A (10 + s)) 0
abbrev T4 : Type := Nat × Nat × Nat × Nat
def fW (A : Ab) (a b t g d : Nat) (w : Nat) : Option T4 := if kdP A a t g d w = kdP A b t g d w then none else some (t, g, d, w)
def fD (A : Ab) (a b mw t g : Nat) (d : Nat) : Option T4 := srch (fW A a b t g d) mw 0
def fG (A : Ab) (a b md mw t : Nat) (g : Nat) : Option T4 := srch (fD A a b mw t g) md 0
def fT (A : Ab) (a b mg md mw : Nat) (t : Nat) : Option T4 := srch (fG A a b md mw t) mg 0
def ResP (S : ms_S) (A : Ab) (a b : Nat) (r : Option T4) : Prop := match r with
  | none => ms_I S 77 0 = 0
  | some q => ms_I S 77 0 = 1 ∧ ms_A S 78 0 = Int32.ofNat q.1 ∧ ms_A S 78 1 = Int32.ofNat q.2.1 ∧ ms_A S 78 2 = Int32.ofNat q.2.2.1 ∧ ms_A S 78 3 = Int32.ofNat q.2.2.2 ∧ ms_A S 78 4 = kdP A a q.1 q.2.1 q.2.2.1 q.2.2.2 ∧ ms_A S 78 5 = kdP A b q.1 q.2.1 q.2.2.1 q.2.2.2
/-- what stays through the search -/
def PE (S : ms_S) (A : Ab) (pa pb a b : Nat) : Prop := ms_R S 77 5 = some 54 ∧ ms_R S 77 6 = some pa ∧ ms_R S 77 7 = some pb ∧ ms_I S 54 2 = landP A ∧ (ms_A S 56 1 = 100 ∧ ms_A S 56 2 = 5 ∧ ms_A S 56 5 = 0 ∧ ms_A S 56 7 = shP A) ∧ cCvAt S A pa a ∧ cCvAt S A pb b
def offP (S S1 : ms_S) : Prop := (∀ c, ¬ (54 ≤ c ∧ c ≤ 56) → ¬ (77 ≤ c ∧ c ≤ 78) → Eqc S S1 c) ∧ ∀ k, k ≠ 0 → ms_I S1 77 k = ms_I S 77 k
theorem offP.rf {S : ms_S} : offP S S := ⟨fun _ _ _ => Eqc.rf, fun _ _ => rfl⟩
theorem offP.tr {S S1 S2 : ms_S} (h : offP S S1) (k : offP S1 S2) : offP S S2 := ⟨fun c h1 h2 => (h.1 c h1 h2).tr (k.1 c h1 h2), fun j hj => (k.2 j hj).trans (h.2 j hj)⟩
section PAR
variable {N : Nat} {A : Ab} {pa pb a b : Nat}
theorem cvOff {p : Nat} {S S1 : ms_S} (op : o_cv p) (h : ∀ c, ¬ (54 ≤ c ∧ c ≤ 56) → ¬ (77 ≤ c ∧ c ≤ 78) → Eqc S S1 c) : ∀ c, p ≤ c → c ≤ p + 7 → Eqc S S1 c := by
  intro c h1 h2
  refine h c ?_ ?_
  · rcases op with rfl | rfl | rfl | rfl | rfl <;> omega
  · rcases op with rfl | rfl | rfl | rfl | rfl <;> omega
/-- PE goes on where the cells that it speaks of do -/
theorem PE_fr {S S1 : ms_S} (oa : o_cv pa) (ob : o_cv pb) (h : PE S A pa pb a b) (hR : ms_R S1 77 = ms_R S 77) (h2 : ms_I S1 54 2 = ms_I S 54 2) (h56 : ∀ j, j = 1 ∨ j = 2 ∨ j = 5 ∨ j = 7 → ms_A S1 56 j = ms_A S 56 j) (ho : offP S S1) : PE S1 A pa pb a b := by
  obtain ⟨e1, e2, e3, e4, ⟨e5, e6, e7, e8⟩, e9, e10⟩ := h
  refine ⟨by rw [hR]; exact e1, by rw [hR]; exact e2, by rw [hR]; exact e3, by rw [h2]; exact e4, ⟨by rw [h56 1 (by omega)]; exact e5, by rw [h56 2 (by omega)]; exact e6, by rw [h56 5 (by omega)]; exact e7, by rw [h56 7 (by omega)]; exact e8⟩, cCvAt_fr e9 (cvOff oa ho.1), cCvAt_fr e10 (cvOff ob ho.1)⟩
set_option maxHeartbeats 2000000 in
/-- one ship -/
theorem tryW {K : Int32 → Int32 → mM Unit} {n : Nat} {x1 : Int32} {t g d w : Nat} {S : ms_S} (hN : 1300 ≤ N) (oa : o_cv pa) (ob : o_cv pb) (ha : a < 4) (hb : b < 4) (hv : WFv A) (hP : PE S A pa pb a b) (h0 : ms_A S 56 0 = Int32.ofNat t) (h3 : ms_A S 56 3 = Int32.ofNat g) (h4 : ms_A S 56 4 = Int32.ofNat d) (hx : ¬ Int32.ofNat w > x1) (hf : ms_I S 77 0 = 0) : ∃ S1, f58_L10 N K (n + 1) x1 (Int32.ofNat w) S = f58_L10 N K n x1 (Int32.ofNat (w + 1)) S1 ∧ PE S1 A pa pb a b ∧ (∀ j, j < 6 → ms_A S1 56 j = ms_A S 56 j) ∧ (∀ j, j < 3 → ms_A S1 78 j = ms_A S 78 j) ∧ ms_A S1 78 3 = Int32.ofNat w ∧ ms_A S1 78 4 = kdP A a t g d w ∧ ms_A S1 78 5 = kdP A b t g d w ∧ ms_I S1 77 0 = (if kdP A a t g d w = kdP A b t g d w then 0 else 1) ∧ offP S S1 := by
  obtain ⟨e1, e2, e3, e4, ⟨e5, e6, e7, e8⟩, e9, e10⟩ := hP
  -- give war
  have E1 : ∀ c, c ≠ 56 → Eqc S (ms_setA S 56 6 (Int32.ofNat w)) c := fun c hc => Eqc_A hc
  have E2 : ∀ c, c ≠ 56 → c ≠ 78 → Eqc S (ms_setA (ms_setA S 56 6 (Int32.ofNat w)) 78 3 (Int32.ofNat w)) c := fun c h1 h2 => (E1 c h1).tr (Eqc_A h2)
  have G0 : ∀ j, j < 8 → ms_A (ms_setA (ms_setA S 56 6 (Int32.ofNat w)) 78 3 (Int32.ofNat w)) 56 j = Gp A t g d w j := by
    intro j hj
    simp only [mG]
    unfold Gp
    match j, hj with
    | 0, _ => simpa using h0
    | 1, _ => simpa using e5
    | 2, _ => simpa using e6
    | 3, _ => simpa using h3
    | 4, _ => simpa using h4
    | 5, _ => simpa using e7
    | 6, _ => simp
    | 7, _ => simpa using e8
  obtain ⟨T1, k1, _, l1, o1⟩ := q29 (N := N) (S := ms_setA (ms_setA S 56 6 (Int32.ofNat w)) 78 3 (Int32.ofNat w)) (A := A) (G := ms_A (ms_setA (ms_setA S 56 6 (Int32.ofNat w)) 78 3 (Int32.ofNat w)) 56) (land := landP A) (by omega) oa (cCvAt_fr e9 (fun c h1 h2 => E2 c (by rcases oa with rfl | rfl | rfl | rfl | rfl <;> omega) (by rcases oa with rfl | rfl | rfl | rfl | rfl <;> omega))) hv ha (fun _ _ => rfl) (by simp only [mGo]; exact e4)
  rw [kindG (G' := Gp A t g d w) hv ha G0] at k1
  have O1 : ∀ c, c ≠ 54 → c ≠ 55 → c ≠ 56 → c ≠ 78 → Eqc S (ms_setA T1 78 4 (kdP A a t g d w)) c := fun c h1 h2 h3 h4 => ((E2 c h3 h4).tr (o1 c h1 h2)).tr (Eqc_A h4)
  have A56 : ms_A (ms_setA T1 78 4 (kdP A a t g d w)) 56 = ms_A (ms_setA (ms_setA S 56 6 (Int32.ofNat w)) 78 3 (Int32.ofNat w)) 56 := by
    rw [(Eqc_A (S := T1) (a := 78) (k := 4) (v := kdP A a t g d w) (b := 56) (by decide)).2.2.2.1, (o1 56 (by decide) (by decide)).2.2.2.1]
  obtain ⟨T2, k2, _, l2, o2⟩ := q29 (N := N) (S := ms_setA T1 78 4 (kdP A a t g d w)) (A := A) (G := ms_A (ms_setA T1 78 4 (kdP A a t g d w)) 56) (land := landP A) (by omega) ob (cCvAt_fr e10 (fun c h1 h2 => O1 c (by rcases ob with rfl | rfl | rfl | rfl | rfl <;> omega) (by rcases ob with rfl | rfl | rfl | rfl | rfl <;> omega) (by rcases ob with rfl | rfl | rfl | rfl | rfl <;> omega) (by rcases ob with rfl | rfl | rfl | rfl | rfl <;> omega))) hv hb (fun _ _ => rfl) (by simp only [mGo]; exact l1)
  rw [kindG (G' := Gp A t g d w) hv hb (fun j hj => by rw [A56]; exact G0 j hj)] at k2
  have O2 : ∀ c, c ≠ 54 → c ≠ 55 → c ≠ 56 → c ≠ 78 → Eqc S (ms_setA T2 78 5 (kdP A b t g d w)) c := fun c h1 h2 h3 h4 => ((O1 c h1 h2 h3 h4).tr (o2 c h1 h2)).tr (Eqc_A h4)
  have R77 : ∀ X : ms_S, Eqc S X 77 → ms_R X 77 5 = some 54 ∧ ms_R X 77 6 = some pa ∧ ms_R X 77 7 = some pb := fun X h => by rw [h.2.2.1]; exact ⟨e1, e2, e3⟩
  have v78 : ∀ j, ms_A (ms_setA T2 78 5 (kdP A b t g d w)) 78 j = if j = 5 then kdP A b t g d w else if j = 4 then kdP A a t g d w else if j = 3 then Int32.ofNat w else ms_A S 78 j := by
    intro j
    simp only [mG, true_and]
    rw [(o2 78 (by decide) (by decide)).2.2.2.1]
    simp only [mG, true_and]
    rw [(o1 78 (by decide) (by decide)).2.2.2.1]
    simp only [mG, true_and, show ¬ ((78 : Nat) = 56) by decide, false_and, if_false]
  have v56 : ∀ j, ms_A (ms_setA T2 78 5 (kdP A b t g d w)) 56 j = if j = 6 then Int32.ofNat w else ms_A S 56 j := by
    intro j
    simp only [mG, show ¬ ((56 : Nat) = 78) by decide, false_and, if_false]
    rw [(o2 56 (by decide) (by decide)).2.2.2.1, A56]
    simp only [mG, true_and, show ¬ ((56 : Nat) = 78) by decide, false_and, if_false]
  have off : offP S (ms_setI (ms_setA T2 78 5 (kdP A b t g d w)) 77 0 (if kdP A a t g d w = kdP A b t g d w then 0 else 1)) := ⟨fun c h1 h2 => (O2 c (by omega) (by omega) (by omega) (by omega)).tr (Eqc_I (by omega)), fun k hk => by
    simp only [mG, hk, and_false, if_false]
    rw [(O2 77 (by decide) (by decide) (by decide) (by decide)).1]⟩
  refine ⟨ms_setI (ms_setA T2 78 5 (kdP A b t g d w)) 77 0 (if kdP A a t g d w = kdP A b t g d w then 0 else 1), ?_, ?_, fun j hj => ?_, fun j hj => ?_, ?_, ?_, ?_, by simp [mG], off⟩
  · rw [f58_L10, if_neg hx]
    simp only [mE, hf]
    rw [if_neg (by simp), EgRo e1 rfl, E25 (j := 6) (w := 106) (by omega) rfl]
    have i3 : inR 3 6 := ofN_inR (i := 3) (by omega) (by omega)
    have i4 : inR 4 6 := ofN_inR (i := 4) (by omega) (by omega)
    have i5 : inR 5 6 := ofN_inR (i := 5) (by omega) (by omega)
    have c3 : (3 : Int32).toNatClampNeg = 3 := by decide
    have c4 : (4 : Int32).toNatClampNeg = 4 := by decide
    have c5 : (5 : Int32).toNatClampNeg = 5 := by decide
    simp only [mE, i3, c3]
    rw [EgRo (R77 _ (E2 77 (by decide) (by decide))).1 rfl, EgRo (R77 _ (E2 77 (by decide) (by decide))).2.1 (isCv_o oa)]
    have m1 : ∀ {β : Type} {f : Int32 → mM β}, mb (f29 N pa) f (ms_setA (ms_setA S 56 6 (Int32.ofNat w)) 78 3 (Int32.ofNat w)) = f (kdP A a t g d w) T1 := by intro β f; simp only [mb, k1]; rfl
    rw [m1]
    simp only [mE, i4, c4]
    rw [EgRo (R77 _ (O1 77 (by decide) (by decide) (by decide) (by decide))).1 rfl, EgRo (R77 _ (O1 77 (by decide) (by decide) (by decide) (by decide))).2.2 (isCv_o ob)]
    have m2 : ∀ {β : Type} {f : Int32 → mM β}, mb (f29 N pb) f (ms_setA T1 78 4 (kdP A a t g d w)) = f (kdP A b t g d w) T2 := by intro β f; simp only [mb, k2]; rfl
    rw [m2]
    simp only [mE, i5, c5, i4, c4, v78, ofN_s, show ¬ ((4 : Nat) = 5) by decide, if_false, if_true]
    by_cases hk : kdP A a t g d w = kdP A b t g d w
    · rw [if_pos hk, if_pos hk]
      simp only [mE, true_or]
    · rw [if_neg hk, if_neg hk]
      simp only [mE, or_true]
  · refine PE_fr (S := S) oa ob ⟨e1, e2, e3, e4, ⟨e5, e6, e7, e8⟩, e9, e10⟩ ?_ ?_ ?_ off
    · simp only [mGo]; exact (O2 77 (by decide) (by decide) (by decide) (by decide)).2.2.1
    · simp only [mG, mGo, show ¬ ((54 : Nat) = 77) by decide, false_and, if_false]
      rw [l2, e4]
    · intro j hj
      simp only [mGo]
      rw [v56 j, if_neg (by omega)]
  · simp only [mGo]; rw [v56 j, if_neg (by omega)]
  · simp only [mGo]; rw [v78 j, if_neg (by omega), if_neg (by omega), if_neg (by omega)]
  · simp only [mGo]; rw [v78 3]; rfl
  · simp only [mGo]; rw [v78 4]; rfl
  · simp only [mGo]; rw [v78 5]; rfl
end PAR
