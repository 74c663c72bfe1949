/-! readings: the reference's way through -/
def rowQ (A : Ab) (s : Nat) (k d : Int32) (g p : Nat) : Bool := Nat.testBit (rowN A s k d g) p
def rqA (A : Ab) (s : Nat) (k d : Int32) : List (Nat → Bool) := (sgA A k d).map (rowQ A s k d)
theorem rqA_RB {A : Ab} {s : Nat} {k d : Int32} : RB (rbA A s k d) = rqA A s k d := by unfold RB rbA rqA; rw [List.map_map]; rfl
theorem rowQ_fit {A : Ab} {s g p : Nat} {k d : Int32} : rowQ A s k d g p = (decide (p < (dayN8 A s k d).length) && fitF A s k d g p) := by unfold rowQ rowN; exact bitsN_tb _ _
/-- what the search through the readings does not change -/
def RdS (S : ms_S) (A : Ab) (s : Nat) (k d : Int32) : Prop := mBase S A ∧ MPk S A s d k ∧ ms_I S 131 106 = Int32.ofNat (sgA A k d).length ∧ ∀ j, j < (sgA A k d).length → ms_A S 195 j = Int32.ofNat ((sgA A k d).getD j 0)
def offR (S S1 : ms_S) : Prop := (∀ j, j ≠ 107 → ms_I S1 131 j = ms_I S 131 j) ∧ ∀ b, b ≠ 131 → b ≠ 189 → ¬ (196 ≤ b ∧ b ≤ 197) → Eqc S S1 b
theorem offR.rf {S : ms_S} : offR S S := ⟨fun _ _ => rfl, fun _ _ _ _ => Eqc.rf⟩
theorem offR.tr {S S1 S2 : ms_S} (h : offR S S1) (k : offR S1 S2) : offR S S2 := ⟨fun j hj => (k.1 j hj).trans (h.1 j hj), fun b h1 h2 h3 => (h.2 b h1 h2 h3).tr (k.2 b h1 h2 h3)⟩
theorem MPk_fr {S S1 : ms_S} {A : Ab} {s : Nat} {d k : Int32} (h : MPk S A s d k) (hI : ∀ j, 90 ≤ j → j ≤ 92 → ms_I S1 131 j = ms_I S 131 j) (hE : ∀ b, (180 ≤ b ∧ b ≤ 184) ∨ (187 ≤ b ∧ b ≤ 188) → ms_A S1 b = ms_A S b) : MPk S1 A s d k := by
  obtain ⟨h1, h2, h3, h4⟩ := h
  refine ⟨by rw [hI 92 (by omega) (by omega)]; exact h1, by rw [hI 91 (by omega) (by omega)]; exact h2, RwM_fr h3 (hI 90 (by omega) (by omega)) (fun b hb => hE b (by omega)), fun p hp => ?_⟩
  rw [hE 183 (by omega), hE 184 (by omega)]
  exact h4 p hp
theorem RdS_off {S S1 : ms_S} {A : Ab} {s : Nat} {k d : Int32} (h : RdS S A s k d) (o : offR S S1) : RdS S1 A s k d := by
  obtain ⟨h1, h2, h3, h4⟩ := h
  refine ⟨mBase_fr h1 (fun j hj => o.1 j (by unfold tellM at hj; omega)) (fun b q1 q2 => o.2 b (by omega) (by unfold scrM at q2; omega) (by unfold scrM at q2; omega)), MPk_fr h2 (fun j _ _ => o.1 j (by omega)) (fun b hb => (o.2 b (by omega) (by omega) (by omega)).2.2.2.1), by rw [o.1 106 (by decide)]; exact h3, fun j hj => ?_⟩
  rw [(o.2 195 (by decide) (by decide) (by decide)).2.2.2.1]
  exact h4 j hj
def OrR (S : ms_S) (l : List Nat) : Prop := ∀ i, i < l.length → ms_A S 196 i = Int32.ofNat (l.reverse.getD i 0)
def UsR (S : ms_S) (t : Nat) : Prop := t < 256 ∧ ∀ p, p < 8 → ms_A S 189 p = if Nat.testBit t p = true then 1 else 0
def BsR (S : ms_S) (c : Nat) (st : Rs) : Prop := ms_I S 131 107 = Int32.ofNat st.1 ∧ ∀ i, i < c → ms_A S 197 i = Int32.ofNat (st.2 i) ∧ st.2 i < 256
def CfR (S : ms_S) (A : Ab) (s : Nat) (k d : Int32) (l : List Nat) (t : Nat) (st : Rs) : Prop := RdS S A s k d ∧ OrR S l ∧ UsR S t ∧ BsR S (sgA A k d).length st
theorem OrR_cons {S S1 : ms_S} {l : List Nat} {p : Nat} (h : OrR S l) (h1 : ∀ i, i < l.length → ms_A S1 196 i = ms_A S 196 i) (h2 : ms_A S1 196 l.length = Int32.ofNat p) : OrR S1 (p :: l) := by
  intro i hi
  have hi : i < l.length + 1 := hi
  rw [List.reverse_cons, getD_app, List.length_reverse]
  by_cases e : i < l.length
  · rw [if_pos e, h1 i e]; exact h i e
  · have e2 : i = l.length := by omega
    rw [if_neg e, if_pos e2, e2]; exact h2
theorem OrR_tail {S : ms_S} {l : List Nat} {p : Nat} (h : OrR S (p :: l)) : OrR S l ∧ ms_A S 196 l.length = Int32.ofNat p := by
  refine ⟨fun i hi => ?_, ?_⟩
  · have := h i (by show i < l.length + 1; omega)
    rw [List.reverse_cons, getD_app, List.length_reverse, if_pos hi] at this
    exact this
  · have := h l.length (by show l.length < l.length + 1; omega)
    rw [List.reverse_cons, getD_app, List.length_reverse, if_neg (Nat.lt_irrefl _), if_pos rfl] at this
    exact this
section RDM
variable {N : Nat} {A : Ab} {s : Nat} {k d : Int32}
theorem q244 {S : ms_S} {g p : Nat} (hw : WF0 A) (h : mBase S A) (hk : MPk S A s d k) (hg : g < aN A 5) (hp : p < (dayN8 A s k d).length) : f244 N (Int32.ofNat g) (Int32.ofNat p) S = some (if rowQ A s k d g p = true then 1 else 0, S) := by
  have h8 : (dayN8 A s k d).length ≤ 8 := dayL_len _
  have hn5 : aN A 5 ≤ 60 := hw.1.2.2.2.2.2
  rw [rowQ_fit, decide_eq_true hp, Bool.true_and]
  have g1 : inR (Int32.ofNat g) 60 := ofN_inR (by omega) (by omega)
  have g2 := ofN_cl (i := g) (by omega)
  have p1 : inR (Int32.ofNat p) 8 := ofN_inR (by omega) (by omega)
  have p2 := ofN_cl (i := p) (by omega)
  obtain ⟨_, a192, a198, a191, _, _⟩ := h.2.2.2.2.2.1.2 g hg
  obtain ⟨_, a188, _, _, a187⟩ := hk.2.2.1.2 p hp
  obtain ⟨a183, _⟩ := hk.2.2.2 p hp
  have wk := (hw.2.2.2.2.2.2.2 g hg).2.2.1
  have b95 := h.2.1.2.2.1
  have F0 : ∃ F, F = (dayN8 A s k d).getD p 0 := ⟨_, rfl⟩
  obtain ⟨F, hF⟩ := F0
  have x0 : ∃ x, x = aX A 33 g - begF (bst A s k d).2 p := ⟨_, rfl⟩
  obtain ⟨x, hx⟩ := x0
  have hfit : fitF A s k d g p = decide (aX A 32 g = aX A 22 F ∧ (aX A 31 g = -1 ∨ aX A 31 g = kdA A s F) ∧ x ≤ aX A 40 2 ∧ -x ≤ aX A 40 2) := by rw [hF, hx]; rfl
  rw [← hF] at a188 a187
  have yes : fitF A s k d g p = true → (if fitF A s k d g p = true then (1 : Int32) else 0) = 1 := fun h => by rw [if_pos h]
  have noo : ¬ (aX A 32 g = aX A 22 F ∧ (aX A 31 g = -1 ∨ aX A 31 g = kdA A s F) ∧ x ≤ aX A 40 2 ∧ -x ≤ aX A 40 2) → (if fitF A s k d g p = true then (1 : Int32) else 0) = 0 := fun h => by rw [hfit, decide_eq_false h]; rfl
  have hneg : aX A 31 g < 0 ↔ aX A 31 g = -1 := by
    generalize aX A 31 g = z at wk
    clear hfit yes noo hw h hk a192 a198 a191
    constructor
    · intro h; grind
    · intro h; rw [h]; decide
  have last : (aX A 32 g = aX A 22 F) → (aX A 31 g = -1 ∨ aX A 31 g = kdA A s F) → (if x > aX A 40 2 then some ((0 : Int32), S) else if -x > aX A 40 2 then some (0, S) else some (1, S)) = some (if fitF A s k d g p = true then 1 else 0, S) := by
    intro h1 h2
    by_cases q1 : x ≤ aX A 40 2
    · rw [if_neg (Int32.not_lt.mpr q1)]
      by_cases q2 : -x ≤ aX A 40 2
      · rw [if_neg (Int32.not_lt.mpr q2), yes (by rw [hfit]; exact decide_eq_true ⟨h1, h2, q1, q2⟩)]
      · rw [if_pos (Int32.not_le.mp q2), noo (fun q => q2 q.2.2.2)]
    · rw [if_pos (Int32.not_le.mp q1), noo (fun q => q1 q.2.2.1)]
  unfold f244
  simp only [mE, g1, g2, p1, p2, a191, a183, a198, a188, ← hx, or_true, true_or]
  by_cases h1 : aX A 32 g = aX A 22 F
  · rw [if_neg (fun q => q h1)]
    simp only [mE, g1, g2, a192, or_true, true_or, b95]
    by_cases h2 : aX A 31 g = -1
    · rw [if_pos (hneg.2 h2)]
      exact last h1 (Or.inl h2)
    · rw [if_neg (fun q => h2 (hneg.1 q))]
      simp only [mE, g1, g2, p1, p2, a192, a187, or_true, true_or, b95]
      by_cases h3 : aX A 31 g = kdA A s F
      · rw [if_neg (fun q => q h3)]
        exact last h1 (Or.inr h3)
      · rw [if_pos h3, noo (fun q => q.2.1.elim h2 h3)]
  · rw [if_pos h1, noo (fun q => h1 q.1)]
theorem whR {S0 : ms_S} {t z : Nat} {x1 x2 x3 : Int32} (hw : WF0 A) (hz : z < (sgA A k d).length) (hs8 : (sgA A k d).length ≤ 8) (rd : RdS S0 A s k d) (us : UsR S0 t) : ∀ m i n (S : ms_S), m + i = (dayN8 A s k d).length → m < n → (∀ b, b ≠ 196 → Eqc S0 S b) → ms_A S 196 z = Int32.ofNat i → ∃ p S1, i ≤ p ∧ p ≤ (dayN8 A s k d).length ∧ (∀ q, i ≤ q → q < p → ¬ (rowQ A s k d ((sgA A k d).getD z 0) q = true ∧ Nat.testBit t q = false)) ∧ (p < (dayN8 A s k d).length → rowQ A s k d ((sgA A k d).getD z 0) p = true ∧ Nat.testBit t p = false) ∧ (∀ K, f245_L185 N K n x1 x2 x3 (Int32.ofNat z) S = K x1 x2 x3 (Int32.ofNat z) S1) ∧ ms_A S1 196 z = Int32.ofNat p ∧ (∀ q, q ≠ z → ms_A S1 196 q = ms_A S 196 q) ∧ ∀ b, b ≠ 196 → Eqc S0 S1 b := by
  have h8 : (dayN8 A s k d).length ≤ 8 := dayL_len _
  have hn5 : aN A 5 ≤ 60 := hw.1.2.2.2.2.2
  have z1 : inR (Int32.ofNat z) 8 := ofN_inR (by omega) (by omega)
  have z2 := ofN_cl (i := z) (by omega)
  have hgz : (sgA A k d).getD z 0 < aN A 5 := (sgL_lt _ _ (getD_mem (show z < (sgL A k d (aN A 5)).length from hz))).1
  have h90 : ms_I S0 131 90 = Int32.ofNat (dayN8 A s k d).length := rd.2.1.2.2.1.1
  intro m
  induction m with
  | zero =>
    intro i n S hi hn hE h196
    obtain ⟨n, rfl⟩ : ∃ q, n = q + 1 := ⟨n - 1, by omega⟩
    refine ⟨i, S, Nat.le_refl _, by omega, fun q h1 h2 => absurd h2 (by omega), fun h => absurd h (by omega), fun K => ?_, h196, fun _ _ => rfl, hE⟩
    rw [f245_L185]
    simp only [mE, z1, z2, h196, (hE 131 (by decide)).1, h90]
    rw [if_pos ((ofN_le (by omega) (by omega)).2 (by omega))]
  | succ m ih =>
    intro i n S hi hn hE h196
    obtain ⟨n, rfl⟩ : ∃ q, n = q + 1 := ⟨n - 1, by omega⟩
    have hil : i < (dayN8 A s k d).length := by omega
    have i1 : inR (Int32.ofNat i) 8 := ofN_inR (by omega) (by omega)
    have i2 := ofN_cl (i := i) (by omega)
    have hge : ¬ Int32.ofNat i ≥ Int32.ofNat (dayN8 A s k d).length := fun q => by have := (ofN_le (i := (dayN8 A s k d).length) (j := i) (by omega) (by omega)).1 q; omega
    have a189 : ms_A S 189 i = if Nat.testBit t i = true then 1 else 0 := by rw [(hE 189 (by decide)).2.2.2.1]; exact us.2 i (by omega)
    have a195 : ms_A S 195 z = Int32.ofNat ((sgA A k d).getD z 0) := by rw [(hE 195 (by decide)).2.2.2.1]; exact rd.2.2.2 z hz
    have oS : offR S0 S := ⟨fun j _ => by rw [(hE 131 (by decide)).1], fun b _ _ h3 => hE b (by omega)⟩
    have rdS := RdS_off rd oS
    have m244 : ∀ {β : Type} {f' : Int32 → mM β}, mb (f244 N (Int32.ofNat ((sgA A k d).getD z 0)) (Int32.ofNat i)) f' S = f' (if rowQ A s k d ((sgA A k d).getD z 0) i = true then 1 else 0) S := by intro β f'; simp only [mb, q244 (N := N) hw rdS.1 rdS.2.1 hgz hil]
    have next : ¬ (rowQ A s k d ((sgA A k d).getD z 0) i = true ∧ Nat.testBit t i = false) → (∀ K, f245_L185 N K (n + 1) x1 x2 x3 (Int32.ofNat z) S = f245_L185 N K n x1 x2 x3 (Int32.ofNat z) (ms_setA S 196 z (Int32.ofNat (i + 1)))) → ∃ p S1, i ≤ p ∧ p ≤ (dayN8 A s k d).length ∧ (∀ q, i ≤ q → q < p → ¬ (rowQ A s k d ((sgA A k d).getD z 0) q = true ∧ Nat.testBit t q = false)) ∧ (p < (dayN8 A s k d).length → rowQ A s k d ((sgA A k d).getD z 0) p = true ∧ Nat.testBit t p = false) ∧ (∀ K, f245_L185 N K (n + 1) x1 x2 x3 (Int32.ofNat z) S = K x1 x2 x3 (Int32.ofNat z) S1) ∧ ms_A S1 196 z = Int32.ofNat p ∧ (∀ q, q ≠ z → ms_A S1 196 q = ms_A S 196 q) ∧ ∀ b, b ≠ 196 → Eqc S0 S1 b := by
      intro hno hst
      obtain ⟨p, S1, r1, r2, r3, r4, e1, t1, t2, o1⟩ := ih (i + 1) n (ms_setA S 196 z (Int32.ofNat (i + 1))) (by omega) (by omega) (fun b hb => (hE b hb).tr (Eqc_A hb)) (by simp [mG])
      refine ⟨p, S1, by omega, r2, fun q h1 h2 => ?_, r4, fun K => (hst K).trans (e1 K), t1, fun q hq => ?_, o1⟩
      · by_cases e : q = i
        · subst e; exact hno
        · exact r3 q (by omega) h2
      · rw [t2 q hq]; simp [mG, hq]
    by_cases hb : Nat.testBit t i = true
    · rw [if_pos hb] at a189
      refine next (fun q => by rw [hb] at q; cases q.2) (fun K => ?_)
      rw [f245_L185]
      simp only [mE, z1, z2, h196, (hE 131 (by decide)).1, h90, if_neg hge, i1, i2, a189, ofN_s]
      rw [if_pos (by decide)]
    · rw [if_neg hb] at a189
      have hb0 : Nat.testBit t i = false := by cases h : Nat.testBit t i with | true => exact absurd h hb | false => rfl
      by_cases hq : rowQ A s k d ((sgA A k d).getD z 0) i = true
      · refine ⟨i, S, Nat.le_refl _, by omega, fun q h1 h2 => absurd h2 (by omega), fun _ => ⟨hq, hb0⟩, fun K => ?_, h196, fun _ _ => rfl, hE⟩
        rw [f245_L185]
        simp only [mE, z1, z2, h196, (hE 131 (by decide)).1, h90, if_neg hge, i1, i2, a189, a195]
        rw [if_neg (fun q => q rfl), m244, if_pos hq, if_pos (by decide)]
      · refine next (fun q => hq q.1) (fun K => ?_)
        rw [f245_L185]
        simp only [mE, z1, z2, h196, (hE 131 (by decide)).1, h90, if_neg hge, i1, i2, a189, a195]
        rw [if_neg (fun q => q rfl), m244, if_neg hq, if_neg (fun q => q rfl)]
        simp only [mE, z1, z2, h196, ofN_s]
theorem recR {c : Nat} {x1 x2 x3 x4 : Int32} {S0 : ms_S} {l : List Nat} {st : Rs} (hc : c ≤ 8) (hl : l.length = c) (ha : ∀ a ∈ l, a < 8) (orr : OrR S0 l) (h106 : ms_I S0 131 106 = Int32.ofNat c) (hst : ∀ i, i < c → st.2 i < 256) : ∀ m i n (S : ms_S), m + i = c → m < n → (∀ b, b ≠ 197 → Eqc S0 S b) → (∀ j, j < c → ms_A S 197 j = Int32.ofNat (if j < i then st.2 j ||| 2 ^ (l.reverse.getD j 0) else st.2 j)) → ∃ S1, (∀ K, f245_L320 N K n x1 x2 x3 x4 (Int32.ofNat i) S = K x1 x2 x3 x4 (Int32.ofNat c) S1) ∧ (∀ j, j < c → ms_A S1 197 j = Int32.ofNat (st.2 j ||| 2 ^ (l.reverse.getD j 0))) ∧ ∀ b, b ≠ 197 → Eqc S0 S1 b := by
  intro m
  induction m with
  | zero =>
    intro i n S hi hn hE hd
    obtain ⟨n, rfl⟩ : ∃ q, n = q + 1 := ⟨n - 1, by omega⟩
    have e : i = c := by omega
    subst e
    refine ⟨S, fun K => ?_, fun j hj => by have := hd j hj; rw [if_pos hj] at this; exact this, hE⟩
    rw [f245_L320]
    simp only [mE, (hE 131 (by decide)).1, h106]
    rw [if_pos ((ofN_le (by omega) (by omega)).2 (Nat.le_refl _))]
  | succ m ih =>
    intro i n S hi hn hE hd
    obtain ⟨n, rfl⟩ : ∃ q, n = q + 1 := ⟨n - 1, by omega⟩
    have i1 : inR (Int32.ofNat i) 8 := ofN_inR (by omega) (by omega)
    have i2 := ofN_cl (i := i) (by omega)
    have a197 := hd i (by omega)
    rw [if_neg (Nat.lt_irrefl _)] at a197
    have a196 : ms_A S 196 i = Int32.ofNat (l.reverse.getD i 0) := by rw [(hE 196 (by decide)).2.2.2.1]; exact orr i (by omega)
    have h8 : l.reverse.getD i 0 < 8 := ha _ (by have := getD_mem (l := l.reverse) (p := i) (by rw [List.length_reverse]; omega); simpa using this)
    obtain ⟨b1, b2⟩ := b_set (hst i (by omega)) h8
    obtain ⟨S1, e1, r1, o1⟩ := ih (i + 1) n (ms_setA S 197 i (Int32.ofNat (st.2 i ||| 2 ^ (l.reverse.getD i 0)))) (by omega) (by omega) (fun b hb => (hE b hb).tr (Eqc_A hb)) (fun j hj => by
      simp only [mG, true_and]
      by_cases e : j = i
      · subst e; rw [if_pos rfl, if_pos (by omega)]
      · rw [if_neg e, hd j hj]
        by_cases h : j < i
        · rw [if_pos h, if_pos (by omega)]
        · rw [if_neg h, if_neg (by omega)])
    refine ⟨S1, fun K => ?_, r1, o1⟩
    rw [f245_L320]
    simp only [mE, (hE 131 (by decide)).1, h106]
    rw [if_neg (fun q => by have := (ofN_le (i := c) (j := i) (by omega) (by omega)).1 q; omega)]
    simp only [mE, i1, i2, a197, a196, b1, ofN_s]
    exact e1 K
end RDM
