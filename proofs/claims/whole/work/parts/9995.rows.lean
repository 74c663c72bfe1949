/-! sightings of a day and the passages that they may be: the class -/
def fitF (A : Ab) (s : Nat) (k d : Int32) (g p : Nat) : Bool := decide (aX A 32 g = aX A 22 ((dayN8 A s k d).getD p 0) ∧ (aX A 31 g = -1 ∨ aX A 31 g = kdA A s ((dayN8 A s k d).getD p 0)) ∧ aX A 33 g - begF (bst A s k d).2 p ≤ aX A 40 2 ∧ -(aX A 33 g - begF (bst A s k d).2 p) ≤ aX A 40 2)
def rowN (A : Ab) (s : Nat) (k d : Int32) (g : Nat) : Nat := bitsN (fitF A s k d g) (dayN8 A s k d).length
def sgP (A : Ab) (k d : Int32) (i : Nat) : Bool := decide (aX A 30 i = d) && cntA A 30 i k
def sgL (A : Ab) (k d : Int32) : Nat → List Nat
  | 0 => []
  | i + 1 => if sgP A k d i = true then sgL A k d i ++ [i] else sgL A k d i
def sgA (A : Ab) (k d : Int32) : List Nat := sgL A k d (aN A 5)
def rbA (A : Ab) (s : Nat) (k d : Int32) : List Nat := (sgA A k d).map (rowN A s k d)
theorem sgL_len {A : Ab} {k d : Int32} : ∀ n, (sgL A k d n).length ≤ cntF (aX A 30) d n := by
  intro n
  induction n with
  | zero => exact Nat.le_refl _
  | succ n ih =>
    unfold sgL cntF
    by_cases hp : sgP A k d n = true
    · rw [if_pos hp, List.length_append]
      have := of_decide_eq_true ((Bool.and_eq_true _ _).mp hp).1
      rw [if_pos this]
      simp
      exact ih
    · rw [if_neg hp]; omega
theorem sgL_mono {A : Ab} {k d : Int32} {i : Nat} : ∀ n, (sgL A k d i).length ≤ (sgL A k d (i + n)).length := by
  intro n
  induction n with
  | zero => exact Nat.le_refl _
  | succ n ih =>
    rw [show i + (n + 1) = (i + n) + 1 by omega]
    refine Nat.le_trans ih ?_
    show _ ≤ (if sgP A k d (i + n) = true then sgL A k d (i + n) ++ [i + n] else sgL A k d (i + n)).length
    split
    · simp
    · exact Nat.le_refl _
theorem sgA_len {A : Ab} (hg : WFg A) {k d : Int32} : (sgA A k d).length ≤ 8 := Nat.le_trans (sgL_len _) (hg d)
theorem sgL_lt {A : Ab} {k d : Int32} : ∀ n y, y ∈ sgL A k d n → y < n ∧ sgP A k d y = true := by
  intro n
  induction n with
  | zero => intro y h; cases h
  | succ n ih =>
    intro y h
    unfold sgL at h
    split at h
    · rename_i hc
      rcases List.mem_append.mp h with h | h
      · have := ih y h; exact ⟨by omega, this.2⟩
      · have h : y = n := by simpa using h
        subst h; exact ⟨by omega, hc⟩
    · have := ih y h; exact ⟨by omega, this.2⟩
theorem sgL_nodup {A : Ab} {k d : Int32} : ∀ n, (sgL A k d n).Nodup := by
  intro n
  induction n with
  | zero => exact List.nodup_nil
  | succ n ih =>
    unfold sgL
    split
    · refine List.nodup_append.mpr ⟨ih, by simp, fun a ha b hb e => ?_⟩
      have h1 := (sgL_lt n a ha).1
      have h2 : b = n := by simpa using hb
      omega
    · exact ih
theorem sgL_mem {A : Ab} {k d : Int32} : ∀ n y, y < n → sgP A k d y = true → y ∈ sgL A k d n := by
  intro n
  induction n with
  | zero => intro y h; omega
  | succ n ih =>
    intro y hy hp
    unfold sgL
    by_cases e : y = n
    · subst e; rw [if_pos hp]; simp
    · split
      · exact List.mem_append_left _ (ih y (by omega) hp)
      · exact ih y (by omega) hp
/-- what the class's matching holds of the first n sightings -/
def MtC (S : ms_S) (A : Ab) (s : Nat) (k d : Int32) (L : List Nat) : Prop := ms_I S 73 2 = Int32.ofNat L.length ∧ ∀ i, i < L.length → ms_A S 74 i = Int32.ofNat (L.getD i 0) ∧ ms_A S 75 i = Int32.ofNat (rowN A s k d (L.getD i 0))
section ROW
variable {N : Nat} {A : Ab}
theorem q150 {S : ms_S} {f s : Nat} {x : Int32} (hN : 1300 ≤ N) (h : cBase S A) (hw : WF0 A) (hv : WFv A) (hs : s < 4) (hf : f < aN A 4) (hps : isPs A f = true) : ∃ S1, f150 N (Int32.ofNat f) x (Int32.ofNat s) S = some (if x = -1 ∨ x = kdA A s f then 1 else 0, S1) ∧ ∀ b, ¬ (54 ≤ b ∧ b ≤ 56) → Eqc S S1 b := by
  have hn3 : aN A 3 ≤ 20 := hw.1.2.2.2.1
  have hn4 : aN A 4 ≤ 200 := hw.1.2.2.2.2.1
  unfold f150
  simp only [mE]
  by_cases hx : x = -1
  · refine ⟨S, ?_, fun _ _ => Eqc.rf⟩
    rw [if_neg (fun q => q hx), if_pos (Or.inl hx)]
    simp only [mE, or_true]
  · rw [if_pos hx]
    obtain ⟨hsh, esh⟩ := shO_lt hw hf hps
    have f1 : inR (Int32.ofNat f) 200 := ofN_inR (by omega) (by omega)
    have f2 := ofN_cl (i := f) (by omega)
    have a42 : ms_A S 42 f = Int32.ofNat (shO A f) := by rw [← esh]; exact (h.2.2.2.2.1.2 f hf).2.1
    have s1 : inR (Int32.ofNat (shO A f)) 20 := ofN_inR (by omega) (by omega)
    have s2 := ofN_cl (i := shO A f) (by omega)
    have t1 : inR (Int32.ofNat s) 4 := ofN_inR (by omega) (by omega)
    have t2 := ofN_cl (i := s) (by omega)
    obtain ⟨p, p1, p2, p3, p4⟩ := h.2.2.2.2.2.2.1
    obtain ⟨S1, e1, r1, r2, r3, r4, k1⟩ := giveShip (N := N) h hw hsh
    have hcv : cCvAt S1 A (p s) s := cCvAt_fr (p4 s hs).2 (fun b hb1 hb2 => k1 b (by rcases p2 s (by omega) with q | q | q | q | q <;> omega) (by rcases p2 s (by omega) with q | q | q | q | q <;> omega))
    obtain ⟨S2, e2, u1, u2, k2⟩ := q29 (N := N) (G := ms_A S1 56) (by omega) (p2 s (by omega)) hcv hv hs (fun j hj => rfl) r1
    rw [kindG (G' := shipG A (shO A f)) hv hs (fun j hj => r3 j hj)] at e2
    have hQ : ms_Q S1 29 s = some (p s) := by rw [(k1 29 (by decide) (by decide)).2.2.2.2.2]; exact (p4 s hs).1
    have m27 : ∀ {β : Type} {f' : Unit → mM β}, mb (f27 N (111 + shO A f)) f' S = f' () S1 := by intro β f'; simp only [mb, e1]
    have m29 : ∀ {β : Type} {f' : Int32 → mM β}, mb (f29 N (p s)) f' S1 = f' (kdA A s f) S2 := by intro β f'; simp only [mb, e2]; rfl
    refine ⟨S2, ?_, fun b hb => (k1 b (by omega) (by omega)).tr (k2 b (by omega) (by omega))⟩
    simp only [mE, f1, f2, a42]
    rw [ElQo (r := 111 + shO A f) s1 (by rw [s2]; exact h.2.2.2.1.2.1 _ (by omega)) (isSh_o (by omega)), m27, ElQo (r := p s) t1 (by rw [t2]; exact hQ) (isCv_o (p2 s (by omega))), m29]
    simp only [mE]
    by_cases hk : x = kdA A s f
    · rw [if_neg (fun q => q hk.symm), if_pos (Or.inr hk)]
      simp only [mE, or_true]
    · rw [if_pos (fun q => hk q.symm), if_neg (fun q => q.elim hx hk)]
      simp only [mE, true_or]
theorem rowL {s g : Nat} {k d : Int32} (hN : 1300 ≤ N) (hw : WF0 A) (hv : WFv A) (hs : s < 4) (hg : g < aN A 5) : ∀ m i n (S : ms_S), m + i = (dayN8 A s k d).length → m < n → cBase S A → CPk S A s d k → ∃ S1, f149_L5 N (fun (x1 : Int32) (x2 : Int32) (x3 : Int32) (x4 : Int32) => (mret x3)) n (Int32.ofNat g) (Int32.ofNat s) (Int32.ofNat (bitsN (fitF A s k d g) i)) (Int32.ofNat i) S = some (Int32.ofNat (rowN A s k d g), S1) ∧ ∀ b, ¬ (54 ≤ b ∧ b ≤ 56) → Eqc S S1 b := by
  have hn3 : aN A 3 ≤ 20 := hw.1.2.2.2.1
  have hn5 : aN A 5 ≤ 60 := hw.1.2.2.2.2.2
  have h8 : (dayN8 A s k d).length ≤ 8 := dayL_len _
  intro m
  induction m with
  | zero =>
    intro i n S hi hn h hk
    obtain ⟨n, rfl⟩ : ∃ q, n = q + 1 := ⟨n - 1, by omega⟩
    have e : i = (dayN8 A s k d).length := by omega
    subst e
    refine ⟨S, ?_, fun _ _ => Eqc.rf⟩
    rw [f149_L5]
    simp only [mE, hk.2.2.2.2.1]
    rw [if_pos ((ofN_le (by omega) (by omega)).2 (Nat.le_refl _))]
    rfl
  | succ m ih =>
    intro i n S hi hn h hk
    obtain ⟨n, rfl⟩ : ∃ q, n = q + 1 := ⟨n - 1, by omega⟩
    have hil : i < (dayN8 A s k d).length := by omega
    have hk' := hk
    obtain ⟨_, _, _, _, h6, _, hA⟩ := hk
    obtain ⟨a65, a66, a67, a68, a69, a70⟩ := hA i hil
    have hm := dayL_mem _ _ (getD_mem (show i < (dayL A s k d (aN A 4)).length from hil))
    have hps := dayP_ps hw hm.2
    have F0 : ∃ F, F = (dayN8 A s k d).getD i 0 := ⟨_, rfl⟩
    obtain ⟨F, hF⟩ := F0
    have hm : F < aN A 4 := by rw [hF]; exact hm.1
    have hps : isPs A F = true := by rw [hF]; exact hps
    obtain ⟨_, d31, d32, d33, _, _⟩ := h.2.2.2.2.2.1.2 g hg
    have hblur := h.2.1.2.2.1
    have wb : 0 ≤ aX A 40 2 := hw.2.1.2.2.2.2.1
    have g1 : inR (Int32.ofNat g) 60 := ofN_inR (by omega) (by omega)
    have g2 := ofN_cl (i := g) (by omega)
    have i1 : inR (Int32.ofNat i) 8 := ofN_inR (by omega) (by omega)
    have i2 := ofN_cl (i := i) (by omega)
    have hfit : fitF A s k d g i = decide (aX A 32 g = aX A 22 F ∧ (aX A 31 g = -1 ∨ aX A 31 g = kdA A s F) ∧ aX A 33 g - begF (bst A s k d).2 i ≤ aX A 40 2 ∧ -(aX A 33 g - begF (bst A s k d).2 i) ≤ aX A 40 2) := by rw [hF]; rfl
    rw [← hF] at a65 a66
    have step : bitsN (fitF A s k d g) (i + 1) = bitsN (fitF A s k d g) i ||| (if fitF A s k d g i = true then 2 ^ i else 0) := rfl
    have skip : ∀ S' : ms_S, (∀ b, ¬ (54 ≤ b ∧ b ≤ 56) → Eqc S S' b) → fitF A s k d g i = false → ∃ S1, f149_L5 N (fun (x1 : Int32) (x2 : Int32) (x3 : Int32) (x4 : Int32) => (mret x3)) n (Int32.ofNat g) (Int32.ofNat s) (Int32.ofNat (bitsN (fitF A s k d g) i)) (Int32.ofNat i + 1) S' = some (Int32.ofNat (rowN A s k d g), S1) ∧ ∀ b, ¬ (54 ≤ b ∧ b ≤ 56) → Eqc S S1 b := by
      intro S' o h0
      rw [ofN_s]
      obtain ⟨S1, e1, o1⟩ := ih (i + 1) n S' (by omega) (by omega) (cBase_led h hn3 (fun b hb => o b (by omega))) (CPk_fr hk' (fun j _ => by rw [(o 64 (by omega)).1]) (fun b h1 h2 => (o b (by omega)).2.2.2.1))
      rw [step, h0, if_neg (by decide), Nat.or_zero] at e1
      exact ⟨S1, e1, fun b hb => (o b hb).tr (o1 b hb)⟩
    rw [f149_L5]
    simp only [mE, h6]
    rw [if_neg (fun q => by have := (ofN_le (i := (dayN8 A s k d).length) (j := i) (by omega) (by omega)).1 q; omega)]
    simp only [mE, g1, g2, d33, i1, i2, a69, hblur]
    have x0 : ∃ x, x = aX A 33 g - begF (bst A s k d).2 i := ⟨_, rfl⟩
    obtain ⟨x, hx⟩ := x0
    rw [← hx] at hfit ⊢
    have habs : ((if 0 ≤ x then x else 0 - x) > aX A 40 2) ↔ ¬ (x ≤ aX A 40 2 ∧ -x ≤ aX A 40 2) := by
      generalize aX A 40 2 = y at wb
      clear hfit hx skip step h hk' hA ih hw hv a65 a66 a67 a68 a69 a70 d31 d32 d33 hblur hF hm hps
      constructor
      · intro h q
        split at h <;> grind
      · intro h
        split <;> grind
    by_cases hab : x ≤ aX A 40 2 ∧ -x ≤ aX A 40 2
    · rw [if_neg (fun q => habs.1 q hab), if_neg (by decide)]
      simp only [mE, i1, i2, a66, g1, g2, d32]
      by_cases hno : aX A 22 F = aX A 32 g
      · rw [if_neg (fun q => q hno)]
        simp only [mE, i1, i2, a65, g1, g2, d31]
        obtain ⟨S1, e1, o1⟩ := q150 (N := N) (S := S) (A := A) (f := F) (s := s) (x := aX A 31 g) hN h hw hv hs hm hps
        have m150 : ∀ {β : Type} {f' : Int32 → mM β}, mb (f150 N (Int32.ofNat F) (aX A 31 g) (Int32.ofNat s)) f' S = f' (if aX A 31 g = -1 ∨ aX A 31 g = kdA A s F then 1 else 0) S1 := by intro β f'; simp only [mb, e1]
        rw [m150]
        by_cases hkd : aX A 31 g = -1 ∨ aX A 31 g = kdA A s F
        · rw [if_pos hkd]
          simp only [mE]
          rw [if_neg (by decide), (b_set (bitsN_lt8 (by omega)) (show i < 8 by omega)).1, ofN_s]
          have hc : fitF A s k d g i = true := by rw [hfit]; exact decide_eq_true ⟨hno.symm, hkd, hab⟩
          obtain ⟨S2, e2, o2⟩ := ih (i + 1) n S1 (by omega) (by omega) (cBase_led h hn3 (fun b hb => o1 b (by omega))) (CPk_fr hk' (fun j _ => by rw [(o1 64 (by omega)).1]) (fun b h1 h2 => (o1 b (by omega)).2.2.2.1))
          rw [step, if_pos hc] at e2
          exact ⟨S2, e2, fun b hb => (o1 b hb).tr (o2 b hb)⟩
        · rw [if_neg hkd]
          simp only [mE]
          rw [if_pos trivial]
          exact skip S1 o1 (by rw [hfit]; exact decide_eq_false (fun q => hkd q.2.1))
      · rw [if_pos hno]
        exact skip S (fun _ _ => Eqc.rf) (by rw [hfit]; exact decide_eq_false (fun q => hno q.1.symm))
    · rw [if_pos (habs.2 hab), if_pos trivial]
      exact skip S (fun _ _ => Eqc.rf) (by rw [hfit]; exact decide_eq_false (fun q => hab q.2.2))
theorem q149 {S : ms_S} {s g : Nat} {k d : Int32} (hN : 1300 ≤ N) (hw : WF0 A) (hv : WFv A) (hs : s < 4) (hg : g < aN A 5) (h : cBase S A) (hk : CPk S A s d k) : ∃ S1, f149 N (Int32.ofNat g) (Int32.ofNat s) S = some (Int32.ofNat (rowN A s k d g), S1) ∧ ∀ b, ¬ (54 ≤ b ∧ b ≤ 56) → Eqc S S1 b := by
  have h8 : (dayN8 A s k d).length ≤ 8 := dayL_len _
  exact rowL hN hw hv hs hg (dayN8 A s k d).length 0 N S (by omega) (by omega) h hk
theorem MtC_fr {S S1 : ms_S} {s : Nat} {k d : Int32} {L : List Nat} (h : MtC S A s k d L) (o : ∀ b, 73 ≤ b → b ≤ 75 → Eqc S S1 b) : MtC S1 A s k d L := by
  unfold MtC at *
  rw [(o 73 (by omega) (by omega)).1, (o 74 (by omega) (by omega)).2.2.2.1, (o 75 (by omega) (by omega)).2.2.2.1]
  exact h
theorem fillL {s : Nat} {k d : Int32} (hN : 1300 ≤ N) (hw : WF0 A) (hv : WFv A) (hgg : WFg A) (hs : s < 4) : ∀ m i n (S : ms_S), m + i = aN A 5 → m < n → cBase S A → CPk S A s d k → MtC S A s k d (sgL A k d i) → ∃ S1, f148_L10 N (fun (x1 : Int32) (x2 : Int32) (x3 : Int32) (x4 : Int32) => (mret ())) n (Int32.ofNat s) d k (Int32.ofNat i) S = some ((), S1) ∧ MtC S1 A s k d (sgA A k d) ∧ ∀ b, ¬ (54 ≤ b ∧ b ≤ 56) → ¬ (73 ≤ b ∧ b ≤ 75) → Eqc S S1 b := by
  have hn3 : aN A 3 ≤ 20 := hw.1.2.2.2.1
  have hn5 : aN A 5 ≤ 60 := hw.1.2.2.2.2.2
  intro m
  induction m with
  | zero =>
    intro i n S hi hn h hk hm
    obtain ⟨n, rfl⟩ : ∃ q, n = q + 1 := ⟨n - 1, by omega⟩
    have e : i = aN A 5 := by omega
    subst e
    refine ⟨S, ?_, hm, fun _ _ _ => Eqc.rf⟩
    rw [f148_L10]
    simp only [mE, h.2.2.2.2.2.1.1]
    rw [if_pos ((ofN_le (by omega) (by omega)).2 (Nat.le_refl _))]
  | succ m ih =>
    intro i n S hi hn h hk hm
    obtain ⟨n, rfl⟩ : ∃ q, n = q + 1 := ⟨n - 1, by omega⟩
    have hil : i < aN A 5 := by omega
    obtain ⟨d30, _, _, _, d34, d35⟩ := h.2.2.2.2.2.1.2 i hil
    have i1 : inR (Int32.ofNat i) 60 := ofN_inR (by omega) (by omega)
    have i2 := ofN_cl (i := i) (by omega)
    have skip : sgP A k d i = false → ∃ S1, f148_L10 N (fun (x1 : Int32) (x2 : Int32) (x3 : Int32) (x4 : Int32) => (mret ())) n (Int32.ofNat s) d k (Int32.ofNat i + 1) S = some ((), S1) ∧ MtC S1 A s k d (sgA A k d) ∧ ∀ b, ¬ (54 ≤ b ∧ b ≤ 56) → ¬ (73 ≤ b ∧ b ≤ 75) → Eqc S S1 b := by
      intro e
      rw [ofN_s]
      refine ih (i + 1) n S (by omega) (by omega) h hk ?_
      rw [show sgL A k d (i + 1) = sgL A k d i from if_neg (by rw [e]; decide)]
      exact hm
    have m22 : ∀ {β : Type} {f' : Int32 → mM β}, mb (f22 N 47 (Int32.ofNat i) k) f' S = f' (if cntA A 30 i k = true then 1 else 0) S := by
      intro β f'
      have e5 : ms_A S (47 + 5) i = aX A 34 i := d34
      have e6 : ms_A S (47 + 6) i = aX A 35 i := d35
      simp only [mb, q22 (N := N) (S := S) (k := k) (a := 47) (i := i) (by show i < 60; omega) (by omega), e5, e6, cntA, decide_eq_true_eq]
    rw [f148_L10]
    simp only [mE, h.2.2.2.2.2.1.1]
    rw [if_neg (fun q => by have := (ofN_le (i := aN A 5) (j := i) (by omega) (by omega)).1 q; omega)]
    simp only [mE, i1, i2, show ms_A S 48 i = aX A 30 i from d30]
    by_cases hd : aX A 30 i = d
    · rw [if_neg (fun q => q hd), m22]
      by_cases hc : cntA A 30 i k = true
      · rw [if_pos hc, if_neg (by decide)]
        have hp : sgP A k d i = true := by unfold sgP; rw [decide_eq_true hd, hc]; rfl
        have eL : sgL A k d (i + 1) = sgL A k d i ++ [i] := if_pos hp
        have hlen : (sgL A k d i).length < 8 := by
          have h1 := sgL_mono (A := A) (k := k) (d := d) (i := i + 1) (aN A 5 - (i + 1))
          rw [show i + 1 + (aN A 5 - (i + 1)) = aN A 5 by omega, eL, List.length_append] at h1
          have h2 := sgA_len hgg (k := k) (d := d)
          unfold sgA at h2
          simp at h1
          omega
        obtain ⟨S1, e1, o1⟩ := q149 (N := N) (S := S) (s := s) (g := i) (k := k) (d := d) hN hw hv hs hil h hk
        have m149 : ∀ {β : Type} {f' : Int32 → mM β}, mb (f149 N (Int32.ofNat i) (Int32.ofNat s)) f' S = f' (Int32.ofNat (rowN A s k d i)) S1 := by intro β f'; simp only [mb, e1]
        have hm1 : MtC S1 A s k d (sgL A k d i) := MtC_fr hm (fun b h1 h2 => o1 b (by omega))
        have c0 : ∃ c, c = (sgL A k d i).length := ⟨_, rfl⟩
        obtain ⟨c, hc⟩ := c0
        obtain ⟨t73, tA⟩ := hm1
        rw [← hc] at t73 tA hlen
        have c1 : inR (Int32.ofNat c) 8 := ofN_inR (by omega) (by omega)
        have c2 := ofN_cl (i := c) (by omega)
        have X0 : ∃ X, X = ms_setI (ms_setA (ms_setA S1 74 c (Int32.ofNat i)) 75 c (Int32.ofNat (rowN A s k d i))) 73 2 (Int32.ofNat (c + 1)) := ⟨_, rfl⟩
        obtain ⟨X, hX⟩ := X0
        have oX : ∀ b, ¬ (73 ≤ b ∧ b ≤ 75) → Eqc S1 X b := fun b hb => by rw [hX]; exact ((Eqc_A (by omega)).tr (Eqc_A (by omega))).tr (Eqc_I (by omega))
        have e48 : f48 N (Int32.ofNat i) (Int32.ofNat (rowN A s k d i)) S1 = some ((), X) := by
          have t1 : ms_I (ms_setA S1 74 c (Int32.ofNat i)) 73 2 = Int32.ofNat c := by rw [(Eqc_A (by decide)).1]; exact t73
          have t2 : ms_I (ms_setA (ms_setA S1 74 c (Int32.ofNat i)) 75 c (Int32.ofNat (rowN A s k d i))) 73 2 = Int32.ofNat c := by rw [(Eqc_A (by decide)).1]; exact t1
          unfold f48
          simp only [mE, t73]
          rw [if_neg (fun q => by have := (ofN_le (i := 8) (j := c) (by omega) (by omega)).1 q; omega)]
          simp only [mE, c1, c2, t73, t1, t2, ofN_s]
          rw [hX]
        have m48 : ∀ {β : Type} {f' : Unit → mM β}, mb (f48 N (Int32.ofNat i) (Int32.ofNat (rowN A s k d i))) f' S1 = f' () X := by intro β f'; simp only [mb, e48]
        have oSX : ∀ b, ¬ (54 ≤ b ∧ b ≤ 56) → ¬ (73 ≤ b ∧ b ≤ 75) → Eqc S X b := fun b h1 h2 => (o1 b h1).tr (oX b h2)
        rw [m149, m48, ofN_s]
        obtain ⟨S2, e2, r2, o2⟩ := ih (i + 1) n X (by omega) (by omega) (cBase_led h hn3 (fun b hb => oSX b (by omega) (by omega))) (CPk_fr hk (fun j _ => by rw [(oSX 64 (by omega) (by omega)).1]) (fun b h1 h2 => (oSX b (by omega) (by omega)).2.2.2.1)) (by
          rw [eL]
          refine ⟨by rw [hX, List.length_append, ← hc]; simp [mG], fun q hq => ?_⟩
          rw [List.length_append, ← hc] at hq
          have hq : q < c + 1 := hq
          rw [getD_app, ← hc]
          have x74 : ms_A X 74 q = if q = c then Int32.ofNat i else ms_A S1 74 q := by rw [hX, (Eqc_I (by decide)).2.2.2.1]; simp only [mG, true_and, show ¬ ((74 : Nat) = 75) by decide, false_and, if_false]
          have x75 : ms_A X 75 q = if q = c then Int32.ofNat (rowN A s k d i) else ms_A S1 75 q := by rw [hX, (Eqc_I (by decide)).2.2.2.1]; simp only [mG, true_and, show ¬ ((75 : Nat) = 74) by decide, false_and, if_false]
          rw [x74, x75]
          by_cases e : q = c
          · subst e
            rw [if_pos rfl, if_pos rfl, if_neg (Nat.lt_irrefl _), if_pos rfl]
            exact ⟨rfl, rfl⟩
          · rw [if_pos (show q < c by omega), if_neg e, if_neg e]
            exact tA q (by omega))
        exact ⟨S2, e2, r2, fun b h1 h2 => (oSX b h1 h2).tr (o2 b h1 h2)⟩
      · rw [if_neg hc, if_pos rfl]
        refine skip ?_
        unfold sgP
        cases h : cntA A 30 i k with
        | true => exact absurd h hc
        | false => simp
    · rw [if_pos hd]
      exact skip (by unfold sgP; rw [decide_eq_false hd]; rfl)
theorem q148 {S : ms_S} {s : Nat} {k d : Int32} (hN : 1300 ≤ N) (hw : WF0 A) (hv : WFv A) (hgg : WFg A) (hs : s < 4) (h : cBase S A) (hk : CPk S A s d k) : ∃ S1, f148 N (Int32.ofNat s) d k S = some ((), S1) ∧ MtC S1 A s k d (sgA A k d) ∧ ∀ b, ¬ (54 ≤ b ∧ b ≤ 56) → ¬ (73 ≤ b ∧ b ≤ 75) → Eqc S S1 b := by
  have hn3 : aN A 3 ≤ 20 := hw.1.2.2.2.1
  have hn5 : aN A 5 ≤ 60 := hw.1.2.2.2.2.2
  have e47 : f47 N S = some ((), ms_setI S 73 2 0) := rfl
  have m47 : ∀ {β : Type} {f' : Unit → mM β}, mb (f47 N) f' S = f' () (ms_setI S 73 2 0) := by intro β f'; simp only [mb, e47]
  obtain ⟨S1, e1, r1, o1⟩ := fillL (N := N) (A := A) (s := s) (k := k) (d := d) hN hw hv hgg hs (aN A 5) 0 N (ms_setI S 73 2 0) (by omega) (by omega) (cBase_led h hn3 (fun b hb => Eqc_I (by omega))) (CPk_fr hk (fun j _ => by rw [(Eqc_I (by decide)).1]) (fun b h1 h2 => (Eqc_I (show b ≠ 73 by omega)).2.2.2.1)) ⟨by simp [mG, sgL], fun i hi => absurd hi (by simp [sgL])⟩
  refine ⟨S1, ?_, r1, fun b h1 h2 => (Eqc_I (by omega)).tr (o1 b h1 h2)⟩
  unfold f148
  rw [m47]
  exact e1
theorem MtC_Rw {S : ms_S} {s : Nat} {k d : Int32} (hgg : WFg A) (h : MtC S A s k d (sgA A k d)) : RwS S (rbA A s k d) := by
  have h8 := sgA_len hgg (k := k) (d := d)
  have h8b : (dayN8 A s k d).length ≤ 8 := dayL_len _
  unfold rbA
  refine ⟨by rw [List.length_map]; exact h.1, by rw [List.length_map]; exact h8, fun i hi => ?_⟩
  rw [List.length_map] at hi
  have e : ((sgA A k d).map (rowN A s k d)).getD i 0 = rowN A s k d ((sgA A k d).getD i 0) := by
    rw [List.getD_eq_getElem?_getD, List.getD_eq_getElem?_getD, List.getElem?_map, List.getElem?_eq_getElem hi]
    rfl
  rw [e]
  exact ⟨(h.2 i hi).2, bitsN_lt8 h8b⟩
/-! readings and could: the class -/
end ROW
