/-! strait: the class -/
def stQ (A : Ab) : St := stR1 (aX A 0) (aN A 0) (tkN (aX A 0) (aN A 0)) (.inr 0, [], [], 0)
def nGood (A : Ab) (cs : List Cl) (ls : List Ld) (n : Nat) : Ab := (fun k => if k = 0 ∨ k = 3 ∨ k = 4 ∨ k = 5 ∨ (10 ≤ k ∧ k < 14) ∨ (20 ≤ k ∧ k < 24) then 0 else if k = 1 then cs.length else if k = 2 then ls.length else aN A k,
  fun r i => if r = 1 then (cs.getD i zC).1 else if r = 2 then (cs.getD i zC).2.1 else if r = 3 then (cs.getD i zC).2.2.1 else if r = 4 then (cs.getD i zC).2.2.2 else if r = 5 then (ls.getD i zL).2 else if r = 40 ∧ i = 3 then 0 else if r = 40 ∧ i = 4 then -1 else if r = 40 ∧ i = 5 then Int32.ofNat n else if 50 ≤ r ∧ r < 54 then (if i = 1 ∨ i = 2 then 9999 else if i = 3 then 99 else 0) else aX A r i,
  fun i => (ls.getD i zL).1, fun s l => if s < 4 ∧ l = 14 then [] else aE A s l)
def nBad (A : Ab) (e : Nat × Nat) : Ab := (fun k => if k = 0 then 0 else aN A k, fun r i => if r = 40 ∧ i = 3 then Int32.ofNat e.1 else if r = 40 ∧ i = 4 then Int32.ofNat e.2 else aX A r i, aM A, aE A)
def ansStrait (A : Ab) : Int32 := if gd (stQ A).1 = true then Int32.ofNat (stQ A).2.2.2 else -1
def nxtStrait (A : Ab) : Ab := match (stQ A).1 with
  | .inl e => nBad A e
  | .inr _ => nGood A (stQ A).2.1 (stQ A).2.2.1 (stQ A).2.2.2
section SC3
variable {N : Nat} {S : ms_S} {A : Ab}
def ClrC (S : ms_S) (a : Nat) : Prop := ms_I S a 1 = 0 ∧ ms_I S a 5 = 0 ∧ ms_I S a 6 = 0 ∧ ms_I S a 10 = 0 ∧ ms_I S a 11 = 9999 ∧ ms_I S a 12 = 9999 ∧ ms_I S a 13 = 99 ∧ ms_I S a 14 = 0 ∧ ms_I S a 15 = 0 ∧ ms_I S a 16 = 0 ∧ ms_I S a 17 = 0
theorem q1 {a : Nat} {S : ms_S} : ∃ S1, f1 N a S = some ((), S1) ∧ ClrC S1 a ∧ ∀ b, b ≠ a → Eqc S S1 b := by
  refine ⟨_, rfl, ?_, fun b hb => ?_⟩
  · unfold ClrC
    simp only [mG]
    refine ⟨?_, ?_, ?_, ?_, ?_, ?_, ?_, ?_, ?_, ?_, ?_⟩ <;> simp
  · exact ((((((((((Eqc_I hb).tr (Eqc_I hb)).tr (Eqc_I hb)).tr (Eqc_I hb)).tr (Eqc_I hb)).tr (Eqc_I hb)).tr (Eqc_I hb)).tr (Eqc_I hb)).tr (Eqc_I hb)).tr (Eqc_I hb)).tr (Eqc_I hb)
theorem clrAll {p : Nat → Nat} {x1 : Nat} {K : Nat → Int32 → mM Int32} (hp : ∀ s, s < 4 → o_cv (p s)) (hinj : ∀ s t, s < 4 → t < 4 → p s = p t → s = t) : ∀ m i n (S : ms_S), m + i = 4 → m < n → (∀ s, s < 4 → ms_Q S 29 s = some (p s)) → (∀ s, s < i → ClrC S (p s)) → ∃ S1, f112_L47 N K n x1 (Int32.ofNat i) S = K x1 4 S1 ∧ (∀ s, s < 4 → ClrC S1 (p s)) ∧ ∀ b, (∀ s, s < 4 → b ≠ p s) → Eqc S S1 b := by
  intro m
  induction m with
  | zero =>
    intro i n S hi hn hQ hd
    obtain ⟨n, rfl⟩ : ∃ q, n = q + 1 := ⟨n - 1, by omega⟩
    have e : i = 4 := by omega
    subst e
    refine ⟨S, ?_, hd, fun _ _ => Eqc.rf⟩
    rw [f112_L47]
    simp only [mE]
    rw [if_pos (by decide)]
    rfl
  | succ m ih =>
    intro i n S hi hn hQ hd
    obtain ⟨n, rfl⟩ : ∃ q, n = q + 1 := ⟨n - 1, by omega⟩
    have i1 : inR (Int32.ofNat i) 4 := ofN_inR (by omega) (by omega)
    have i2 := ofN_cl (i := i) (by omega)
    obtain ⟨S1, e1, c1, o1⟩ := q1 (N := N) (a := p i) (S := S)
    have m1 : ∀ {β : Type} {f' : Unit → mM β}, mb (f1 N (p i)) f' S = f' () S1 := by intro β f'; simp only [mb, e1]
    have h29 : (29 : Nat) ≠ p i := by rcases hp i (by omega) with q | q | q | q | q <;> omega
    obtain ⟨S2, e2, c2, o2⟩ := ih (i + 1) n S1 (by omega) (by omega) (fun s hs => by rw [(o1 29 h29).2.2.2.2.2]; exact hQ s hs) (fun s hs => by
      by_cases e : s = i
      · rw [e]; exact c1
      · have hne : p s ≠ p i := fun q => e (hinj s i (by omega) (by omega) q)
        unfold ClrC
        rw [(o1 (p s) hne).1]
        exact hd s (by omega))
    refine ⟨S2, ?_, c2, fun b hb => (o1 b (hb i (by omega))).tr (o2 b hb)⟩
    rw [f112_L47]
    simp only [mE]
    rw [if_neg (fun q => by have := (ofN_le (i := 4) (j := i) (by omega) (by omega)).1 q; omega), ElQo (r := p i) i1 (by rw [i2]; exact hQ i (by omega)) (isCv_o (hp i (by omega))), m1, ofN_s]
    exact e2
theorem TxB_A (hw : WF0 A) : TxB (aX A 0) (aN A 0) := ⟨hw.1.1, hw.2.2.1⟩
/-- the class has cut its text -/
theorem q114 (hN : 1300 ≤ N) (h : cBase S A) (hw : WF0 A) : ∃ S1, f114 N S = some ((), S1) ∧ CS S1 (aX A 0) (aN A 0) (.inr 0) ∧ ms_I S1 4 1 = 0 ∧ (∀ j, j ≠ 1 → ms_I S1 4 j = ms_I S 4 j) ∧ ms_R S1 4 = ms_R S 4 ∧ ∀ b, b ≠ 4 → b ≠ 6 → ¬ (8 ≤ b ∧ b ≤ 10) → Eqc S S1 b := by
  have hb := TxB_A hw
  obtain ⟨S1, e1, t1, r5, r6, r7, o1⟩ := q89 (N := N) (S := S) hN hb ⟨h.1.2, h.2.2.2.2.2.2.2⟩
  have m89 : ∀ {β : Type} {f' : Unit → mM β}, mb (f89 N (Int32.ofNat (aN A 0))) f' S = f' () S1 := by intro β f'; simp only [mb, e1]
  refine ⟨ms_setI S1 4 1 0, ?_, CS_I ⟨t1, r5, (tkJ_0 hb).2, r6, r7⟩ (by decide), by simp [mG], fun j hj => ?_, ?_, fun b h1 h2 h3 => (o1 b h2 h3).tr (Eqc_I h1)⟩
  · unfold f114
    simp only [mE, h.1.1]
    rw [m89]
    simp only [mE]
  · simp only [mG, true_and, if_neg hj]
    rw [(o1 4 (by decide) (by decide)).1]
  · simp only [mGo]
    rw [(o1 4 (by decide) (by decide)).2.2.1]
theorem stR1_len {X : Nat → Int32} {L : Nat} : ∀ f (q : St), (q.2.1.length ≤ 20 ∧ q.2.2.1.length ≤ 8) → (stR1 X L f q).2.1.length ≤ 20 ∧ (stR1 X L f q).2.2.1.length ≤ 8 := by
  intro f
  induction f with
  | zero => intro q h; exact h
  | succ f ih =>
    intro q h
    unfold stR1
    split
    · exact h
    · exact ih _ (stp_len h)
theorem q72 {a : Nat} {S : ms_S} {X : Nat → Int32} {L : Nat} (hN : 1300 ≤ N) (ha : a = 11 ∨ a = 20) (hb : TxB X L) (h : CS S X L (.inr 0)) : ∃ S1, f72 N a S = some ((), S1) ∧ CS S1 X L (stR1 X L (tkN X L) (.inr 0, [], [], 0)).1 ∧ (gd (stR1 X L (tkN X L) (.inr 0, [], [], 0)).1 = true → StC S1 a (stR1 X L (tkN X L) (.inr 0, [], [], 0)).2.1 (stR1 X L (tkN X L) (.inr 0, [], [], 0)).2.2.1 (stR1 X L (tkN X L) (.inr 0, [], [], 0)).2.2.2) ∧ offSt a S S1 := by
  have hn := tkN_le hb
  have X0 : ∃ Y, Y = ms_setI (ms_setI (ms_setI (ms_setI (ms_setI S a 4 0) a 7 0) a 8 0) a 9 (-1)) a 10 (-1) := ⟨_, rfl⟩
  obtain ⟨Y, hY⟩ := X0
  have oY : offSt a S Y := by rw [hY]; exact ((((offSt.I (by omega)).tr (offSt.I (by omega))).tr (offSt.I (by omega))).tr (offSt.I (by omega))).tr (offSt.I (by omega))
  have cY : CS Y X L (.inr 0) := by rw [hY]; exact CS_I (CS_I (CS_I (CS_I (CS_I h (by omega)) (by omega)) (by omega)) (by omega)) (by omega)
  obtain ⟨x, S1, e1, c1, s1, o1⟩ := straitL (N := N) (K := fun (x2 : Int32) => (mret ())) (by omega) ha hb (tkN X L) 0 N (.inr 0, [], [], 0) Y (by show tkN X L ≤ tkN X L + 0; omega) (by omega) (fun _ => Nat.zero_le _) (by omega) ⟨Nat.zero_le _, Nat.zero_le _⟩ cY (fun _ => ⟨by rw [hY]; simp [mG], by rw [hY]; simp [mG], by rw [hY]; simp [mG], by rw [hY]; simp [mG]; rfl, by rw [hY]; simp [mG]; rfl, fun i hi => absurd hi (by simp), fun i hi => absurd hi (by simp), fun i hi => absurd hi (by simp)⟩)
  refine ⟨S1, ?_, c1, s1, oY.tr o1⟩
  unfold f72
  simp only [mE, ← hY]
  exact e1
theorem nB_X {e : Nat × Nat} {r : Nat} (h : r ≠ 40) : aX (nBad A e) r = aX A r := by
  funext i
  show (if r = 40 ∧ i = 3 then _ else if r = 40 ∧ i = 4 then _ else _) = _
  rw [if_neg (fun q => h q.1), if_neg (fun q => h q.1)]
theorem nB_40 {e : Nat × Nat} {i : Nat} (h3 : i ≠ 3) (h4 : i ≠ 4) : aX (nBad A e) 40 i = aX A 40 i := by
  show (if (40 : Nat) = 40 ∧ i = 3 then _ else if (40 : Nat) = 40 ∧ i = 4 then _ else _) = _
  rw [if_neg (fun q => h3 q.2), if_neg (fun q => h4 q.2)]
theorem nB_N {e : Nat × Nat} {k : Nat} (h : k ≠ 0) : aN (nBad A e) k = aN A k := if_neg h
theorem cBad (h : cBase S A) (hw : WF0 A) {S1 : ms_S} {e : Nat × Nat} (h1 : ms_I S1 4 1 = 0) (h4 : ∀ j, j ≠ 1 → j ≠ 20 → ms_I S1 4 j = ms_I S 4 j) (hR : ∀ k, k ≤ 6 → ms_R S1 4 k = ms_R S 4 k) (h6 : ms_I S1 6 6 = Int32.ofNat e.1) (h7 : ms_I S1 6 7 = Int32.ofNat e.2) (hSt : ∀ a b, ms_R S 4 3 = some a → a ≤ b → b ≤ a + 6 → Eqc S S1 b) (hCv : ∀ s a b, s < 4 → ms_Q S 29 s = some a → a ≤ b → b ≤ a + 7 → Eqc S S1 b) (hE : ∀ b, b = 7 ∨ b = 29 ∨ (39 ≤ b ∧ b ≤ 53) ∨ (111 ≤ b ∧ b < 131) → Eqc S S1 b) : cBase S1 (nBad A e) := by
  have hn3 : aN A 3 ≤ 20 := hw.1.2.2.2.1
  obtain ⟨k1, k2, k3, k4, k5, k6, k7, k8⟩ := h
  refine ⟨⟨h1, fun i hi => absurd hi (Nat.not_lt_zero i)⟩, ⟨?_, ?_, ?_, h6, h7⟩, ?_, ?_, ?_, ?_, ?_, ?_⟩
  · rw [h4 17 (by decide) (by decide), k2.1]; exact (nB_40 (by decide) (by decide)).symm
  · rw [h4 18 (by decide) (by decide), k2.2.1]; exact (nB_40 (by decide) (by decide)).symm
  · rw [h4 19 (by decide) (by decide), k2.2.2.1]; exact (nB_40 (by decide) (by decide)).symm
  · refine cStr_ab (A := A) ?_ (nB_N (by decide)) (nB_N (by decide)) (fun q _ _ => nB_X (by omega)) (nB_40 (by decide) (by decide)) rfl
    obtain ⟨a, a2, e3, e4, ho, hs, h9, h10, hl⟩ := k3
    have hE' : ∀ b, a ≤ b → b ≤ a + 6 → Eqc S S1 b := fun b => hSt a b e3
    exact ⟨a, a2, (hR 3 (by omega)).trans e3, (hR 4 (by omega)).trans e4, ho, cStrAt_fr hs hE', by rw [(hE' a (by omega) (by omega)).1]; exact h9, by rw [(hE' a (by omega) (by omega)).1]; exact h10, by rw [(hE' (a + 5) (by omega) (by omega)).2.2.2.2.1]; exact hl⟩
  · exact cShip_ab (cShip_fr k4 (h4 9 (by decide) (by decide)) (hE 39 (by omega)) (fun b h1 h2 => hE b (by omega)) hn3) (nB_N (by decide)) (fun q _ _ => nB_X (by omega)) (nB_X (by decide))
  · exact cDi_ab (cDi_fr k5 (fun b h1 h2 => hE b (by omega))) (nB_N (by decide)) (fun q _ _ => nB_X (by omega))
  · exact cDi_ab (cDi_fr k6 (fun b h1 h2 => hE b (by omega))) (nB_N (by decide)) (fun q _ _ => nB_X (by omega))
  · refine cConv_ab (A := A) ?_ (fun k hk => nB_N (by omega)) (fun q _ _ => nB_X (by omega)) rfl
    obtain ⟨p, c1, c2, c3, c4⟩ := k7
    exact ⟨p, (hR 6 (by omega)).trans c1, c2, c3, fun s hs => ⟨by rw [(hE 29 (by omega)).2.2.2.2.2]; exact (c4 s hs).1, cCvAt_fr (c4 s hs).2 (fun b => hCv s (p s) b hs (c4 s hs).1)⟩⟩
  · rw [(hE 7 (by omega)).2.2.2.2.1]; exact k8
theorem core_nBad {e : Nat × Nat} : core (nBad A e) = core A := by
  unfold core
  refine Prod.ext ?_ (Prod.ext ?_ rfl)
  · funext k
    show (if k = 0 ∨ k = 5 then 0 else aN (nBad A e) k) = (if k = 0 ∨ k = 5 then 0 else aN A k)
    by_cases h : k = 0 ∨ k = 5
    · rw [if_pos h, if_pos h]
    · rw [if_neg h, if_neg h]; exact nB_N (fun q => h (Or.inl q))
  · funext r i
    show (if r = 0 ∨ (30 ≤ r ∧ r < 36) ∨ (r = 40 ∧ i ≠ 1) then 0 else aX (nBad A e) r i) = (if r = 0 ∨ (30 ≤ r ∧ r < 36) ∨ (r = 40 ∧ i ≠ 1) then 0 else aX A r i)
    by_cases h : r = 0 ∨ (30 ≤ r ∧ r < 36) ∨ (r = 40 ∧ i ≠ 1)
    · rw [if_pos h, if_pos h]
    · rw [if_neg h, if_neg h]
      by_cases hr : r = 40
      · subst hr
        have hi : i = 1 := by
          by_cases q : i = 1
          · exact q
          · exact absurd (Or.inr (Or.inr ⟨rfl, q⟩)) h
        subst hi
        exact nB_40 (by decide) (by decide)
      · rw [nB_X hr]
theorem C_strait (hN : 1300 ≤ N) (h : cBase S A) (hw : WF0 A) : CP (f112 N) S A (ansStrait A) (nxtStrait A) := by
  have hb := TxB_A hw
  obtain ⟨S1, e1, c1, r1, r4, rR, o1⟩ := q114 (N := N) hN h hw
  have m114 : ∀ {β : Type} {f' : Unit → mM β}, mb (f114 N) f' S = f' () S1 := by intro β f'; simp only [mb, e1]
  obtain ⟨k1, k2, ⟨a, a2, e3, e4, ho, hs, h9, h10, hl⟩, k4, k5, k6, ⟨p, p1, p2, p3, p4⟩, k8⟩ := h
  have oa : o_st a := by rcases ho with h | h; exact Or.inl h.1; exact Or.inr h.1
  have oa2 : o_st a2 := by rcases ho with h | h; exact Or.inr h.2; exact Or.inl h.2
  have ha2 : a2 = 11 ∨ a2 = 20 := oa2
  obtain ⟨S2, e2, c2, s2, o2⟩ := q72 (N := N) (a := a2) (S := S1) hN ha2 hb c1
  have m72 : ∀ {β : Type} {f' : Unit → mM β}, mb (f72 N a2) f' S1 = f' () S2 := by intro β f'; simp only [mb, e2]
  have Q0 : ∃ q, q = stQ A := ⟨_, rfl⟩
  obtain ⟨q, hq⟩ := Q0
  have c2 : CS S2 (aX A 0) (aN A 0) q.1 := by rw [hq]; exact c2
  have s2 : gd q.1 = true → StC S2 a2 q.2.1 q.2.2.1 q.2.2.2 := by rw [hq]; exact s2
  have hlen : q.2.1.length ≤ 20 ∧ q.2.2.1.length ≤ 8 := by rw [hq]; exact stR1_len _ _ ⟨Nat.zero_le _, Nat.zero_le _⟩
  have f4 : ∀ j, j ≠ 1 → ms_I S2 4 j = ms_I S 4 j := fun j hj => by rw [(o2.2 4 (by decide) (by omega)).1]; exact r4 j hj
  have f41 : ms_I S2 4 1 = 0 := by rw [(o2.2 4 (by decide) (by omega)).1]; exact r1
  have fR : ms_R S2 4 = ms_R S 4 := by rw [(o2.2 4 (by decide) (by omega)).2.2.1]; exact rR
  have oE : ∀ b, b ≠ 4 → b ≠ 6 → ¬ (8 ≤ b ∧ b ≤ 10) → ¬ (a2 ≤ b ∧ b ≤ a2 + 6) → Eqc S S2 b := fun b h1 h2 h3 h4 => (o1 b h1 h2 h3).tr (o2.2 b h2 h4)
  have r44 : ms_R S1 4 4 = some a2 := by rw [rR]; exact e4
  have ans : ansStrait A = if gd q.1 = true then Int32.ofNat q.2.2.2 else -1 := by rw [hq]; rfl
  rw [ans]
  unfold nxtStrait
  rw [← hq]
  obtain ⟨σ, cs, ls, n⟩ := q
  cases σ with
  | inl e =>
    refine ⟨S2, ?_, ?_, fun b hb1 hb2 => oE b (by omega) (by omega) (by omega) (by omega), Or.inl ⟨f4 20 (by decide), core_nBad⟩⟩
    · unfold f112
      rw [m114, EgRo r44 (isSt_o oa2), m72]
      simp only [mE, c2.2.2.2.1]
      have hne : ¬ Int32.ofNat e.1 = 0 := fun z => by have := c2.2.2.2.2.1; have := (ofN_eq (j := 0) (by omega) (by omega)).1 z; omega
      rw [if_neg hne]
      rfl
    · refine cBad ⟨k1, k2, ⟨a, a2, e3, e4, ho, hs, h9, h10, hl⟩, k4, k5, k6, ⟨p, p1, p2, p3, p4⟩, k8⟩ hw f41 (fun j h1 _ => f4 j h1) (fun k _ => by rw [fR]) c2.2.2.2.1 c2.2.2.2.2.2 (fun a' b ha' h1 h2 => ?_) (fun s a' b hs' ha' h1 h2 => ?_) (fun b hb => oE b (by omega) (by omega) (by omega) (by omega))
      · rw [e3] at ha'
        have ha' : a = a' := by simpa using ha'
        subst ha'
        exact oE b (by omega) (by omega) (by omega) (by omega)
      · rw [(p4 s hs').1] at ha'
        have ha' : p s = a' := by simpa using ha'
        subst ha'
        rcases p2 s (by omega) with z | z | z | z | z <;> exact oE b (by omega) (by omega) (by omega) (by omega)
  | inr j =>
    have st := s2 rfl
    obtain ⟨t4, t7, t8, t9, t10, tA, tN, tS⟩ := st
    have X0 : ∃ Y, Y = ms_setR (ms_setR S2 4 3 (some a2)) 4 4 (some a) := ⟨_, rfl⟩
    obtain ⟨Y, hY⟩ := X0
    have oY : ∀ b, b ≠ 4 → Eqc S2 Y b := fun b hb => by rw [hY]; exact (Eqc_R hb).tr (Eqc_R hb)
    have yI : ms_I Y = ms_I S2 := by rw [hY]; simp only [mGo]
    obtain ⟨S3, e5, c5, o5⟩ := clrAll (N := N) (p := p) (x1 := a) (K := fun (x1 : Nat) (x2 : Int32) => (mb (pI 4 9 0) fun _ => mb (f18 N 40) fun _ => mb (f18 N 47) fun _ => mb (gI 4 20) fun v19 => mb (pI 4 20 (v19 + 1)) fun _ => mb (gRo isSt 4 3) fun r22 => mb (gI r22 8) fun v24 => mret v24)) (fun s hs => p2 s (by omega)) (fun s t h1 h2 => p3 s t (by omega) (by omega)) 4 0 N Y (by omega) (by omega) (fun s hs => by rw [(oY 29 (by decide)).2.2.2.2.2, (oE 29 (by decide) (by decide) (by decide) (by omega)).2.2.2.2.2]; exact (p4 s hs).1) (fun s hs => absurd hs (by omega))
    have np : ∀ b, (b = 4 ∨ b = 6 ∨ b = 40 ∨ b = 47 ∨ b = 7 ∨ b = 29 ∨ b = 39 ∨ (8 ≤ b ∧ b ≤ 26) ∨ (57 ≤ b ∧ b < 79) ∨ 131 ≤ b) → ∀ s, s < 4 → b ≠ p s := fun b hb s hs => by rcases p2 s (by omega) with z | z | z | z | z <;> omega
    have W0 : ∃ W, W = ms_setI (ms_setI (ms_setI (ms_setI S3 4 9 0) 40 6 0) 47 6 0) 4 20 (ms_I S 4 20 + 1) := ⟨_, rfl⟩
    obtain ⟨W, hW⟩ := W0
    have wE : ∀ b, b ≠ 4 → b ≠ 40 → b ≠ 47 → Eqc S3 W b := fun b h1 h2 h3 => by rw [hW]; exact (((Eqc_I h1).tr (Eqc_I h2)).tr (Eqc_I h3)).tr (Eqc_I h1)
    have s3I : ms_I S3 4 = ms_I S2 4 := by rw [(o5 4 (np 4 (by omega))).1, yI]
    have s320 : ms_I (ms_setI (ms_setI (ms_setI S3 4 9 0) 40 6 0) 47 6 0) 4 20 = ms_I S 4 20 := by simp [mG]; rw [s3I]; exact f4 20 (by decide)
    have w43 : ms_R W 4 3 = some a2 := by rw [hW]; simp only [mGo]; rw [(o5 4 (np 4 (by omega))).2.2.1, hY]; simp [mG]
    have w44 : ms_R W 4 4 = some a := by rw [hW]; simp only [mGo]; rw [(o5 4 (np 4 (by omega))).2.2.1, hY]; simp [mG]
    have w46 : ms_R W 4 6 = ms_R S 4 6 := by rw [hW]; simp only [mGo]; rw [(o5 4 (np 4 (by omega))).2.2.1, hY]; simp [mG]; rw [fR]
    have wa : ∀ b, a2 ≤ b → b ≤ a2 + 6 → Eqc S2 W b := fun b h1 h2 => ((oY b (by omega)).tr (o5 b (np b (by omega)))).tr (wE b (by omega) (by omega) (by omega))
    have w4 : ∀ j, j ≠ 9 → j ≠ 20 → ms_I W 4 j = ms_I S2 4 j := fun j h1 h2 => by rw [hW]; simp [mG, h1, h2]; rw [s3I]
    have w6 : ms_I W 6 = ms_I S2 6 := by rw [(wE 6 (by decide) (by decide) (by decide)).1, (o5 6 (np 6 (by omega))).1, yI]
    refine ⟨W, ?_, ?_, fun b hb1 hb2 => ?_, Or.inr ?_⟩
    · unfold f112
      rw [m114, EgRo r44 (isSt_o oa2), m72]
      simp only [mE, c2.2.2.2.1]
      rw [if_pos trivial]
      have z3 : ms_R S2 4 3 = some a := by rw [fR]; exact e3
      have z4 : ms_R S2 4 4 = some a2 := by rw [fR]; exact e4
      have mpR : ∀ {β : Type} {k v : Nat} {f' : Unit → mM β} {S' : ms_S}, mb (pR 4 k v) f' S' = f' () (ms_setR S' 4 k (some v)) := by intros; rfl
      rw [EgRo z3 (isSt_o oa), EgRo z4 (isSt_o oa2), mpR, mpR, ← hY]
      refine e5.trans ?_
      have e18 : ∀ b S', f18 N b S' = some ((), ms_setI S' b 6 0) := fun b S' => rfl
      have m18 : ∀ {β : Type} {b : Nat} {f' : Unit → mM β} {S' : ms_S}, mb (f18 N b) f' S' = f' () (ms_setI S' b 6 0) := by intro β b f' S'; simp only [mb, e18]
      simp only [mE, m18, s320]
      rw [← hW, EgRo w43 (isSt_o oa2)]
      simp only [mE, (wa a2 (by omega) (by omega)).1, t8]
      rfl
    · have hL := hlen
      refine ⟨⟨?_, fun i hi => absurd hi (Nat.not_lt_zero i)⟩, ⟨?_, ?_, ?_, ?_, ?_⟩, ?_, ⟨?_, fun i hi => ?_, fun i hi => absurd hi (Nat.not_lt_zero i)⟩, ⟨?_, fun i hi => absurd hi (Nat.not_lt_zero i)⟩, ⟨?_, fun i hi => absurd hi (Nat.not_lt_zero i)⟩, ?_, ?_⟩
      · rw [w4 1 (by decide) (by decide)]; exact f41
      · rw [w4 17 (by decide) (by decide), f4 17 (by decide)]; exact k2.1
      · rw [w4 18 (by decide) (by decide), f4 18 (by decide)]; exact k2.2.1
      · rw [w4 19 (by decide) (by decide), f4 19 (by decide)]; exact k2.2.2.1
      · rw [w6]; exact c2.2.2.2.1
      · rw [w6]; exact c2.2.2.2.2
      · refine ⟨a2, a, w43, w44, by rcases ho with z | z; exact Or.inr ⟨z.2, z.1⟩; exact Or.inl ⟨z.2, z.1⟩, ⟨?_, ?_, ?_, fun i hi => ?_, fun i hi => ?_⟩, ?_, ?_, fun i hi => ?_⟩
        · rw [(wa a2 (by omega) (by omega)).1]; exact t4
        · rw [(wa a2 (by omega) (by omega)).1]; exact t7
        · rw [(wa a2 (by omega) (by omega)).1]; exact t8
        · rw [(wa (a2 + 1) (by omega) (by omega)).2.2.2.1, (wa (a2 + 2) (by omega) (by omega)).2.2.2.1, (wa (a2 + 3) (by omega) (by omega)).2.2.2.1, (wa (a2 + 4) (by omega) (by omega)).2.2.2.1]
          exact tA i hi
        · rw [(wa (a2 + 6) (by omega) (by omega)).2.2.2.1]; exact tS i hi
        · rw [(wa a2 (by omega) (by omega)).1]; exact t9
        · rw [(wa a2 (by omega) (by omega)).1]; exact t10
        · rw [(wa (a2 + 5) (by omega) (by omega)).2.2.2.2.1]
          have hi : i < ls.length := hi
          rw [(tN i (by rw [List.length_map]; exact hi)).1]
          show pk5 ((ls.map (·.1)).getD i []) = pk5 (ls.getD i zL).1
          rw [List.getD_eq_getElem?_getD, List.getD_eq_getElem?_getD, List.getElem?_map, List.getElem?_eq_getElem hi]
          rfl
      · rw [hW]; simp [mG]; rfl
      · rw [(wE 39 (by decide) (by decide) (by decide)).2.2.2.2.2, (o5 39 (np 39 (by omega))).2.2.2.2.2, (oY 39 (by decide)).2.2.2.2.2, (oE 39 (by decide) (by decide) (by decide) (by omega)).2.2.2.2.2]
        exact k4.2.1 i hi
      · rw [hW]; simp [mG]; rfl
      · rw [hW]; simp [mG]; rfl
      · refine ⟨p, by rw [w46]; exact p1, p2, p3, fun s hs => ⟨?_, ?_⟩⟩
        · rw [(wE 29 (by decide) (by decide) (by decide)).2.2.2.2.2, (o5 29 (np 29 (by omega))).2.2.2.2.2, (oY 29 (by decide)).2.2.2.2.2, (oE 29 (by decide) (by decide) (by decide) (by omega)).2.2.2.2.2]
          exact (p4 s hs).1
        · have hps : p s ≠ 4 ∧ p s ≠ 40 ∧ p s ≠ 47 := by rcases p2 s (by omega) with z | z | z | z | z <;> omega
          have cc : ClrC W (p s) := by unfold ClrC; rw [(wE (p s) hps.1 hps.2.1 hps.2.2).1]; exact c5 s hs
          obtain ⟨d1, d5, d6, d10, d11, d12, d13, d14, d15, d16, d17⟩ := cc
          have x50 : ∀ i, aX (nGood A cs ls n) (50 + s) i = if i = 1 ∨ i = 2 then 9999 else if i = 3 then 99 else 0 := fun i => by
            show (if 50 + s = 1 then _ else if 50 + s = 2 then _ else if 50 + s = 3 then _ else if 50 + s = 4 then _ else if 50 + s = 5 then _ else if 50 + s = 40 ∧ i = 3 then _ else if 50 + s = 40 ∧ i = 4 then _ else if 50 + s = 40 ∧ i = 5 then _ else if 50 ≤ 50 + s ∧ 50 + s < 54 then _ else _) = _
            rw [if_neg (by omega), if_neg (by omega), if_neg (by omega), if_neg (by omega), if_neg (by omega), if_neg (by omega), if_neg (by omega), if_neg (by omega), if_pos (by omega)]
          have n10 : aN (nGood A cs ls n) (10 + s) = 0 := by
            show (if _ then _ else _) = _
            rw [if_pos (by omega)]
          have n20 : aN (nGood A cs ls n) (20 + s) = 0 := by
            show (if _ then _ else _) = _
            rw [if_pos (by omega)]
          have e14 : aE (nGood A cs ls n) s 14 = [] := by
            show (if s < 4 ∧ 14 = 14 then _ else _) = _
            rw [if_pos ⟨hs, rfl⟩]
          refine ⟨by rw [d17, x50]; rfl, by rw [d11, x50]; rfl, by rw [d12, x50]; rfl, by rw [d13, x50]; rfl, by rw [d14, x50]; rfl, by rw [d5, n10]; rfl, by rw [d10, n20]; rfl, by rw [d6, n10]; rfl, fun i hi => absurd hi (by rw [n20]; omega), fun i hi => absurd hi (by rw [n10]; omega), fun i hi => absurd hi (by rw [n20]; omega), ?_⟩
          rw [e14]
          exact ⟨0, d15, d16, by show (0 : Nat) ≤ 512; omega, ⟨0, d1, Nat.le_refl _, by omega⟩, fun j hj => absurd hj (Nat.not_lt_zero j)⟩
      · rw [(wE 7 (by decide) (by decide) (by decide)).2.2.2.2.1, (o5 7 (np 7 (by omega))).2.2.2.2.1, (oY 7 (by decide)).2.2.2.2.1, (oE 7 (by decide) (by decide) (by decide) (by omega)).2.2.2.2.1]
        exact k8
    · exact ((oE b (by omega) (by omega) (by omega) (by omega)).tr (oY b (by omega))).tr ((o5 b (np b (by omega))).tr (wE b (by omega) (by omega) (by omega)))
    · rw [hW]; simp [mG]
end SC3
