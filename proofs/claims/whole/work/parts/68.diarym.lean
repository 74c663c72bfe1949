def inR (i : Int32) (n : Nat) : Prop := mv_in i n
theorem ofN_inR {i n : Nat} (h : i < n) (h2 : n < 2147483648) : inR (Int32.ofNat i) n := (ofN_in (by omega)).2 h
/-- actions, as equations (bundled, so that no long chain of states is unfolded) -/
theorem mE : (∀ (β : Type) (a k : Nat) (f : Int32 → mM β) (S : ms_S), mb (gI a k) f S = f (ms_I S a k) S)
    ∧ (∀ (β : Type) (a k : Nat) (v : Int32) (f : Unit → mM β) (S : ms_S), mb (pI a k v) f S = f () (ms_setI S a k v))
    ∧ (∀ (β : Type) (a k : Nat) (v : Int32) (f : Unit → mM β) (S : ms_S), v = 0 ∨ v = 1 → mb (pZ a k v) f S = f () (ms_setI S a k v))
    ∧ (∀ (β : Type) (a n : Nat) (i : Int32) (f : Int32 → mM β) (S : ms_S), inR i n → mb (lA a n i) f S = f (ms_A S a i.toNatClampNeg) S)
    ∧ (∀ (β : Type) (a n : Nat) (i v : Int32) (f : Unit → mM β) (S : ms_S), inR i n → mb (sA a n i v) f S = f () (ms_setA S a i.toNatClampNeg v))
    ∧ (∀ (β : Type) (a n : Nat) (i v : Int32) (f : Unit → mM β) (S : ms_S), inR i n → mb (sB a n i v) f S = f () (ms_setA S a i.toNatClampNeg (vp_nar .boolean v)))
    ∧ (∀ (β : Type) (a n : Nat) (i v : Int32) (f : Unit → mM β) (S : ms_S), inR i n → mb (sY a n i v) f S = f () (ms_setA S a i.toNatClampNeg (vp_nar .byte v)))
    ∧ (∀ (β : Type) (c : Prop) (d : Decidable c) (x y : mM β) (S : ms_S), (@ite _ c d x y) S = @ite _ c d (x S) (y S))
    ∧ (∀ (β : Type) (v : β) (S : ms_S), mret v S = some (v, S))
    ∧ (∀ (v : Int32) (S : ms_S), v = 0 ∨ v = 1 → mretZ v S = some (v, S))
    ∧ (∀ (α β : Type) (b : α) (k : α → mM β), mlet b k = k b) := by
  refine ⟨fun _ _ _ _ _ => rfl, fun _ _ _ _ _ _ => rfl, fun _ _ _ _ _ _ h => ?_, fun _ _ _ _ _ _ h => ?_, fun _ _ _ _ _ _ _ h => ?_, fun _ _ _ _ _ _ _ h => ?_, fun _ _ _ _ _ _ _ h => ?_, fun _ _ _ _ _ _ => mif, fun _ _ _ => rfl, fun _ _ h => if_pos h, fun _ _ _ _ => rfl⟩
  · simp only [mb, pZ, if_pos h]
  · have h : mv_in _ _ := h
    simp only [mb, lA, if_pos h]
  · have h : mv_in _ _ := h
    simp only [mb, sA, if_pos h]
  · have h : mv_in _ _ := h
    simp only [mb, sB, if_pos h]
  · have h : mv_in _ _ := h
    simp only [mb, sY, if_pos h]
/-! facts and sightings of the reference; peace -/
def mfW (S : ms_S) (n : Nat) (p one d o nt t : Int32) : ms_S := ms_setI (ms_setA (ms_setA (ms_setA (ms_setA (ms_setA (ms_setA (ms_setA S 172 n p) 167 n one) 168 n d) 173 n o) 169 n nt) 170 n t) 171 n (-1)) 131 71 (Int32.ofNat (n + 1))
def mgW (S : ms_S) (n : Nat) (d m o k t : Int32) : ms_S := ms_setI (ms_setA (ms_setA (ms_setA (ms_setA (ms_setA (ms_setA S 190 n d) 191 n m) 198 n o) 192 n k) 193 n t) 194 n (-1)) 131 105 (Int32.ofNat (n + 1))
section DIM
variable {N : Nat} {S : ms_S} {A : Ab}
theorem mfW_E {n b : Nat} {p one d o nt t : Int32} (hb : ¬ (167 ≤ b ∧ b ≤ 173)) (h2 : b ≠ 131) : Eqc S (mfW S n p one d o nt t) b := by
  unfold mfW
  exact (((((((Eqc_A (by omega)).tr (Eqc_A (by omega))).tr (Eqc_A (by omega))).tr (Eqc_A (by omega))).tr (Eqc_A (by omega))).tr (Eqc_A (by omega))).tr (Eqc_A (by omega))).tr (Eqc_I (by omega))
theorem mgW_E {n b : Nat} {d m o k t : Int32} (hb : ¬ (190 ≤ b ∧ b ≤ 198)) (h2 : b ≠ 131) : Eqc S (mgW S n d m o k t) b := by
  unfold mgW
  exact ((((((Eqc_A (by omega)).tr (Eqc_A (by omega))).tr (Eqc_A (by omega))).tr (Eqc_A (by omega))).tr (Eqc_A (by omega))).tr (Eqc_A (by omega))).tr (Eqc_I (by omega))
theorem l200 : (200 : Int32) = Int32.ofNat 200 := rfl
theorem ne200 {n : Nat} (hn : n < 200) : Int32.ofNat n ≠ 200 := by
  rw [l200]
  intro q
  have := (ofN_eq (i := n) (j := 200) (by omega) (by omega)).1 q
  omega
theorem q212 {n : Nat} {p one d o nt t : Int32} (hp : p = 0 ∨ p = 1) (ho : o = 0 ∨ o = 1) (hn : n < 200) (hc : ms_I S 131 71 = Int32.ofNat n) (ht : ms_I S 131 72 = t) : f212 N p one d o nt S = some (Int32.ofNat n, mfW S n p one d o nt t) := by
  have h1 : inR (Int32.ofNat n) 200 := ofN_inR hn (by omega)
  have h2 := ofN_cl (i := n) (by omega)
  have h4 : Int32.ofNat (n + 1) - 1 = Int32.ofNat n := by rw [← ofN_s]; grind
  unfold f212 mfW
  simp only [mE, hc, ht, if_pos (ne200 hn), h1, not_false_eq_true, h2, mGo, vpb hp, vpb ho, mG, and_self, if_true, ofN_s]
  rw [h4]
theorem q212f {p one d o nt : Int32} (hc : ms_I S 131 71 = Int32.ofNat 200) : f212 N p one d o nt S = some (-1, S) := by
  have h3 : ¬ Int32.ofNat 200 ≠ 200 := by decide
  unfold f212
  simp only [mb, gI, hc, mif, if_neg h3, mret]
theorem mFact_add {d s o m t p one nt : Int32} (h : mFact S A) (hp : p = if s = -1 then 0 else 1) (hone : one = if s = -1 then m else s) (hnt : nt = if s = -1 then 0 else m) : mFact (mfW S (aN A 4) p one d o nt t) (addR A 4 20 d s o m t) := by
  obtain ⟨h1, h2⟩ := h
  refine ⟨by rw [addR_N]; simp [mfW, mG, mGo], fun i hi => ?_⟩
  rw [addR_N] at hi
  rcases addR_X (A := A) (c := 4) (r := 20) (d := d) (s := s) (o := o) (m := m) (t := t) hi with ⟨e0, e1, e2, e3, e4, e5, e6⟩ | ⟨hl, e⟩
  · rw [e1, e2, e3, e4, e5, e6]
    simp [mfW, mG, mGo, e0, hp, hone, hnt]
  · simp only [e]
    have hne : i ≠ aN A 4 := by omega
    simp only [mfW, mG, mGo, hne, and_false, if_false]
    exact h2 i hl
theorem mSig_add {d m o k t : Int32} (h : mSig S A) : mSig (mgW S (aN A 5) d m o k t) (addR A 5 30 d k o m t) := by
  obtain ⟨h1, h2⟩ := h
  refine ⟨by rw [addR_N]; simp [mgW, mG, mGo], fun i hi => ?_⟩
  rw [addR_N] at hi
  rcases addR_X (A := A) (c := 5) (r := 30) (d := d) (s := k) (o := o) (m := m) (t := t) hi with ⟨e0, e1, e2, e3, e4, e5, e6⟩ | ⟨hl, e⟩
  · rw [e1, e2, e3, e4, e5, e6]
    simp [mgW, mG, mGo, e0]
  · simp only [e]
    have hne : i ≠ aN A 5 := by omega
    simp only [mgW, mG, mGo, hne, and_false, if_false]
    exact h2 i hl
theorem M_addF {f : mM Int32} {ok : Bool} {d s o m p one nt : Int32} (hpp : p = 0 ∨ p = 1) (ho : o = 0 ∨ o = 1) (hp : p = if s = -1 then 0 else 1) (hone : one = if s = -1 then m else s) (hnt : nt = if s = -1 then 0 else m) (h : mBase S A) (hw : WF0 A) (h1 : ok = true → ∀ v S1, f212 N p one d o nt S = some (v, S1) → f S = some (v, S1)) (h2 : ok = false → f S = some (-1, S)) : MP f S (ansAdd A 4 ok) (nxtAdd A 4 20 ok d s o m) := by
  have hb := h
  obtain ⟨_, ⟨n1, _⟩, _, _, hd, _⟩ := h
  have hn4 : aN A 4 ≤ 200 := hw.1.2.2.2.2.1
  unfold ansAdd nxtAdd
  cases ok with
  | false => simp only [Bool.false_eq_true, false_and, if_false]; exact MP_same hb (h2 rfl)
  | true =>
    by_cases hf : aN A 4 < dn (if (4 : Nat) = 4 then 40 else 47)
    · rw [if_pos ⟨rfl, hf⟩, if_pos ⟨rfl, hf⟩]
      have hf2 : aN A 4 < 200 := hf
      refine ⟨mfW S (aN A 4) p one d o nt (aX A 40 0), h1 rfl _ _ (q212 hpp ho hf2 hd.1 n1), ?_, fun b hb => mfW_E (by omega) (by omega)⟩
      refine mB_gen (F := fun k => k = 71) (P := fun b => 167 ≤ b ∧ b ≤ 173) hb addR_q (fun k hk => ?_) (fun b h1 h2 => mfW_E h2 (by omega)) (Or.inl ⟨by omega, by omega, by omega, by omega⟩) (Or.inl ⟨by omega, by omega, by omega, by omega, by omega, by omega⟩) ⟨by omega, by omega, fun q h1 h2 => by omega, by omega, fun c h1 h2 => by omega⟩ ?_ (Or.inl ⟨fun q h1 h2 => by omega, by omega, by omega, fun c h1 h2 => by omega⟩) (Or.inr (mFact_add hd hp hone hnt)) (Or.inl ⟨fun q h1 h2 => by omega, by omega, by omega, fun c h1 h2 => by omega⟩) ⟨fun q h1 h2 => by omega, fun k hk => by omega, fun c h1 h2 => by omega, by omega⟩
      · simp [mfW, mG, mGo, hk]
      · rw [addR_q.2.1 40 (by omega)]
    · have hno : ¬ (true = true ∧ aN A 4 < dn (if (4 : Nat) = 4 then 40 else 47)) := fun q => hf q.2
      rw [if_neg hno, if_neg hno]
      have hf2 : ¬ aN A 4 < 200 := hf
      have e200 : aN A 4 = 200 := by omega
      exact MP_same hb (h1 rfl _ _ (q212f (by rw [hd.1, e200])))
theorem M_turn {d w : Int32} (h : mBase S A) (hw : WF0 A) : MP (f213 N d w) S (ansAdd A 4 (okTurn d w)) (nxtAdd A 4 20 (okTurn d w) d (-1) 0 w) := by
  refine M_addF (N := N) (p := 0) (one := w) (nt := 0) (Or.inl rfl) (Or.inl rfl) rfl rfl rfl h hw (fun hk v S1 e => ?_) (fun hk => ?_)
  · have hk := of_decide_eq_true hk
    unfold f213
    simp only [mlet, mb, q211, if_pos hk.1, i10, if_false, mif, q195, if_pos hk.2, e, mret]
  · have hk := of_decide_eq_false hk
    unfold f213
    by_cases h1 : 0 ≤ d ∧ d < 1000
    · have h2 : ¬ (0 ≤ w ∧ w ≤ 2) := fun q => hk ⟨h1, q⟩
      simp only [mlet, mb, q211, if_pos h1, i10, if_false, mif, q195, if_neg h2, if_true, mret]
    · simp only [mlet, mb, q211, if_neg h1, if_true, mret]
theorem M_ask {s d o m : Int32} (ho : o = 0 ∨ o = 1) (h : mBase S A) (hw : WF0 A) : MP (f214 N s d o m) S (ansAdd A 4 (okAsk A s d m)) (nxtAdd A 4 20 (okAsk A s d m) d s o m) := by
  have hn3 : aN A 3 ≤ 20 := hw.1.2.2.2.1
  have s1 := h.2.2.2.1.1
  have hq : (0 ≤ s ∧ s ≤ Int32.ofNat (aN A 3) - 1) ↔ (0 ≤ s ∧ s < Int32.ofNat (aN A 3)) := by have := i32_of (aN A 3) (by omega); clear h hw; grind
  by_cases h0 : 0 ≤ s ∧ s < Int32.ofNat (aN A 3)
  · have hs : s ≠ -1 := by clear h hw hq; grind
    refine M_addF (N := N) (p := 1) (one := s) (nt := m) (Or.inr rfl) ho (by rw [if_neg hs]) (by rw [if_neg hs]) (by rw [if_neg hs]) h hw (fun hk v S1 e => ?_) (fun hk => ?_)
    · have hk := of_decide_eq_true hk
      unfold f214
      simp only [mlet, mb, q197, s1, if_pos (hq.2 h0), q211, if_pos hk.2.1, i10, if_false, mif, q195, if_pos hk.2.2, e, mret]
    · have hk := of_decide_eq_false hk
      unfold f214
      by_cases h1 : 0 ≤ d ∧ d < 1000
      · have h2 : ¬ (0 ≤ m ∧ m ≤ 99) := fun q => hk ⟨h0, h1, q⟩
        simp only [mlet, mb, q197, s1, if_pos (hq.2 h0), q211, if_pos h1, i10, if_false, mif, q195, if_neg h2, if_true, mret]
      · simp only [mlet, mb, q197, s1, if_pos (hq.2 h0), i10, if_false, mif, q211, if_neg h1, if_true, mret]
  · have hk : okAsk A s d m = false := decide_eq_false (fun q => h0 q.1)
    rw [hk]
    simp only [ansAdd, nxtAdd, Bool.false_eq_true, false_and, if_false]
    refine MP_same h ?_
    unfold f214
    simp only [mlet, mb, q197, s1, if_neg (fun q => h0 (hq.1 q)), if_true, mret]
theorem M_untell {e : Int32} (h : mBase S A) (hw : WF0 A) : MP (f215 N e) S (ansStr A 4 20 e) (nxtStr A 4 20 e) := by
  have hb := h
  obtain ⟨_, ⟨n1, _⟩, _, _, ⟨c1, c2⟩, _⟩ := h
  have hn4 : aN A 4 ≤ 200 := hw.1.2.2.2.2.1
  have wf := hw.2.2.2.2.2.2.1
  unfold ansStr nxtStr
  by_cases hin : 0 ≤ e ∧ e < Int32.ofNat (aN A 4)
  · obtain ⟨i, hi, rfl⟩ := i32_nat hin.1 (by omega) hin.2
    have h1 : mv_in (Int32.ofNat i) 200 := (ofN_in (by omega)).2 (by omega)
    have h2 := ofN_cl (i := i) (by omega)
    have g0 : ¬ Int32.ofNat i < 0 := ofN_nl (by omega)
    have g1 : ¬ Int32.ofNat i ≥ Int32.ofNat (aN A 4) := fun q => by have := (ofN_le (i := aN A 4) (j := i) (by omega) (by omega)).1 q; omega
    have w5 := (wf i hi).2.2.2.2.1
    have u : ms_A S 171 i = aX A 25 i := (c2 i hi).2.2.2.2.2.2
    by_cases hu : aX A 25 i = -1
    · have hk : okStr A 4 20 (Int32.ofNat i) = true := decide_eq_true ⟨hin, by rw [h2]; exact hu⟩
      rw [if_pos hk, if_pos hk, h2]
      refine ⟨ms_setA S 171 i (aX A 40 0), ?_, ?_, fun b hb => Eqc_A (by omega)⟩
      · unfold f215
        have hlt : (-1 : Int32) < 0 := by decide
        simp only [mlet, mb, mif, if_neg g0, gI, c1, if_neg g1, lA, if_pos h1, h2, u, hu, if_pos hlt, n1, sA, mretZ, or_true, if_true]
      · refine mB_gen (F := fun k => k = 999) (P := fun b => b = 171) hb (setX_q.mono (fun q hq => hq) (fun k hk => hk)) (fun k hk => by simp [mGo]) (fun b h1 h2 => Eqc_A h2) (Or.inl ⟨by omega, id, by omega, by omega⟩) (Or.inl ⟨by omega, by omega, by omega, by omega, by omega, by omega⟩) ⟨id, id, fun q h1 h2 => by omega, by omega, fun c h1 h2 => by omega⟩ (by simp [aG]) (Or.inl ⟨fun q h1 h2 => by omega, id, by omega, fun c h1 h2 => by omega⟩) (Or.inr ?_) (Or.inl ⟨fun q h1 h2 => by omega, id, by omega, fun c h1 h2 => by omega⟩) ⟨fun q h1 h2 => by omega, fun k hk => id, fun c h1 h2 => by omega, by omega⟩
        refine ⟨by simpa [mGo, aG] using c1, fun j hj => ?_⟩
        have hj : j < aN A 4 := by simpa [aG] using hj
        have c := c2 j hj
        by_cases hji : j = i
        · subst hji
          simp [mG, aG]
          exact ⟨c.1, c.2.1, c.2.2.1, c.2.2.2.1, c.2.2.2.2.1, c.2.2.2.2.2.1⟩
        · simp [mG, aG, hji]
          exact c
    · have hk : okStr A 4 20 (Int32.ofNat i) = false := decide_eq_false (fun q => hu (by have := q.2; rw [h2] at this; exact this))
      rw [hk]
      simp only [Bool.false_eq_true, if_false]
      refine MP_same hb ?_
      have hlt : ¬ aX A 25 i < 0 := by rcases w5 with w5 | w5; exact absurd w5 hu; clear hw c2 wf hb; grind
      unfold f215
      simp only [mlet, mb, mif, if_neg g0, gI, c1, if_neg g1, lA, if_pos h1, h2, u, if_neg hlt, mretZ, true_or, if_true]
  · have hk : okStr A 4 20 e = false := decide_eq_false (fun q => hin q.1)
    rw [hk]
    simp only [Bool.false_eq_true, if_false]
    refine MP_same hb ?_
    unfold f215
    by_cases h0 : e < 0
    · simp only [mlet, mif, if_pos h0, mretZ, true_or, if_true]
    · have h1 : e ≥ Int32.ofNat (aN A 4) := by clear hw c2 wf hb; grind
      simp only [mlet, mb, mif, if_neg h0, gI, c1, if_pos h1, mretZ, true_or, if_true]
theorem M_unsight {e : Int32} (h : mBase S A) (hw : WF0 A) : MP (f242 N e) S (ansStr A 5 30 e) (nxtStr A 5 30 e) := by
  have hb := h
  obtain ⟨_, ⟨n1, _⟩, _, _, _, ⟨c1, c2⟩, _⟩ := h
  have hn4 : aN A 5 ≤ 60 := hw.1.2.2.2.2.2
  have wf := hw.2.2.2.2.2.2.2
  unfold ansStr nxtStr
  by_cases hin : 0 ≤ e ∧ e < Int32.ofNat (aN A 5)
  · obtain ⟨i, hi, rfl⟩ := i32_nat hin.1 (by omega) hin.2
    have h1 : mv_in (Int32.ofNat i) 60 := (ofN_in (by omega)).2 (by omega)
    have h2 := ofN_cl (i := i) (by omega)
    have g0 : ¬ Int32.ofNat i < 0 := ofN_nl (by omega)
    have g1 : ¬ Int32.ofNat i ≥ Int32.ofNat (aN A 5) := fun q => by have := (ofN_le (i := aN A 5) (j := i) (by omega) (by omega)).1 q; omega
    have w5 := (wf i hi).2.2.2.2.2.2.2.2
    have u : ms_A S 194 i = aX A 35 i := (c2 i hi).2.2.2.2.2
    by_cases hu : aX A 35 i = -1
    · have hk : okStr A 5 30 (Int32.ofNat i) = true := decide_eq_true ⟨hin, by rw [h2]; exact hu⟩
      rw [if_pos hk, if_pos hk, h2]
      refine ⟨ms_setA S 194 i (aX A 40 0), ?_, ?_, fun b hb => Eqc_A (by omega)⟩
      · unfold f242
        have hlt : (-1 : Int32) < 0 := by decide
        simp only [mlet, mb, mif, if_neg g0, gI, c1, if_neg g1, lA, if_pos h1, h2, u, hu, if_pos hlt, n1, sA, mretZ, or_true, if_true]
      · refine mB_gen (F := fun k => k = 999) (P := fun b => b = 194) hb (setX_q.mono (fun q hq => hq) (fun k hk => hk)) (fun k hk => by simp [mGo]) (fun b h1 h2 => Eqc_A h2) (Or.inl ⟨by omega, id, by omega, by omega⟩) (Or.inl ⟨by omega, by omega, by omega, by omega, by omega, by omega⟩) ⟨id, id, fun q h1 h2 => by omega, by omega, fun c h1 h2 => by omega⟩ (by simp [aG]) (Or.inl ⟨fun q h1 h2 => by omega, id, by omega, fun c h1 h2 => by omega⟩) (Or.inl ⟨fun q h1 h2 => by omega, id, by omega, fun c h1 h2 => by omega⟩) (Or.inr ?_) ⟨fun q h1 h2 => by omega, fun k hk => id, fun c h1 h2 => by omega, by omega⟩
        refine ⟨by simpa [mGo, aG] using c1, fun j hj => ?_⟩
        have hj : j < aN A 5 := by simpa [aG] using hj
        have c := c2 j hj
        by_cases hji : j = i
        · subst hji
          simp [mG, aG]
          exact ⟨c.1, c.2.1, c.2.2.1, c.2.2.2.1, c.2.2.2.2.1⟩
        · simp [mG, aG, hji]
          exact c
    · have hk : okStr A 5 30 (Int32.ofNat i) = false := decide_eq_false (fun q => hu (by have := q.2; rw [h2] at this; exact this))
      rw [hk]
      simp only [Bool.false_eq_true, if_false]
      refine MP_same hb ?_
      have hlt : ¬ aX A 35 i < 0 := by rcases w5 with w5 | w5; exact absurd w5 hu; clear hw c2 wf hb; grind
      unfold f242
      simp only [mlet, mb, mif, if_neg g0, gI, c1, if_neg g1, lA, if_pos h1, h2, u, if_neg hlt, mretZ, true_or, if_true]
  · have hk : okStr A 5 30 e = false := decide_eq_false (fun q => hin q.1)
    rw [hk]
    simp only [Bool.false_eq_true, if_false]
    refine MP_same hb ?_
    unfold f242
    by_cases h0 : e < 0
    · simp only [mlet, mif, if_pos h0, mretZ, true_or, if_true]
    · have h1 : e ≥ Int32.ofNat (aN A 5) := by clear hw c2 wf hb; grind
      simp only [mlet, mb, mif, if_neg h0, gI, c1, if_pos h1, mretZ, true_or, if_true]
theorem M_later {b : Int32} (h : mBase S A) : MP (f216 N b) S (ansLater A b) (nxtLater A b) := by
  have n1 := h.2.1
  unfold ansLater nxtLater
  by_cases hk : okLater A b = true
  · have hk2 := of_decide_eq_true hk
    rw [if_pos hk, if_pos hk]
    have g1 : ¬ b < 0 := by have := hk2.1.1; clear h n1; grind
    have g2 : ¬ b > 1000 := by have := hk2.1.2; clear h n1; grind
    refine ⟨ms_setI S 131 72 (aX A 40 0 + b), ?_, ?_, fun c h1 => Eqc_I (by omega)⟩
    · unfold f216
      simp only [mlet, mb, mif, if_neg g1, if_neg g2, gI, n1.1, if_pos hk2.2, pI, mG, mret, and_self, if_true]
    · refine mB_gen (F := fun k => k = 72) (P := fun b => b = 131) h (setX_q.mono (fun q hq => hq) (fun k hk => hk)) (fun k hk => by simp [mG, hk]) (fun b h1 h2 => Eqc_I h2) (Or.inl ⟨by omega, id, by omega, by omega⟩) (Or.inr ?_) ⟨id, id, fun q h1 h2 => by omega, by omega, fun c h1 h2 => by omega⟩ (by simp [aG]) (Or.inl ⟨fun q h1 h2 => by omega, id, by omega, fun c h1 h2 => by omega⟩) (Or.inl ⟨fun q h1 h2 => by omega, id, by omega, fun c h1 h2 => by omega⟩) (Or.inl ⟨fun q h1 h2 => by omega, id, by omega, fun c h1 h2 => by omega⟩) ⟨fun q h1 h2 => by omega, fun k hk => id, fun c h1 h2 => by omega, by omega⟩
      obtain ⟨g1, g2, g3, g4, g5⟩ := n1
      simp [mNum, mG, aG, g2, g3, g4, g5]
  · rw [if_neg hk, if_neg hk]
    refine MP_same h ?_
    have hk2 := fun q => hk (decide_eq_true q)
    unfold f216
    by_cases h0 : b < 0
    · simp only [mlet, mif, if_pos h0, mret]
    · by_cases h1 : b > 1000
      · simp only [mlet, mif, if_neg h0, if_pos h1, mret]
      · have h2 : ¬ aX A 40 0 + b ≤ 100000 := fun q => hk2 ⟨by clear h n1 hk hk2; grind, q⟩
        simp only [mlet, mb, mif, if_neg h0, if_neg h1, gI, n1.1, if_neg h2, mret]
theorem M_gaps {g b : Int32} (h : mBase S A) : MP (f232 N g b) S (ansGaps g b) (nxtGaps A g b) := by
  have n1 := h.2.1
  unfold ansGaps nxtGaps
  by_cases hk : okGaps g b = true
  · have hk2 := of_decide_eq_true hk
    rw [if_pos hk, if_pos hk]
    refine ⟨ms_setI (ms_setI S 131 94 g) 131 95 b, ?_, ?_, fun c h1 => (Eqc_I (by omega)).tr (Eqc_I (by omega))⟩
    · unfold f232
      simp only [mlet, mb, q195, if_pos hk2.1, if_pos hk2.2, i10, if_false, mif, ne_eq, not_false_eq_true, if_true, pI, mretZ, or_true]
    · refine mB_gen (F := fun k => k = 94 ∨ k = 95) (P := fun b => b = 131) h ((setX_q.mono (fun q hq => hq) (fun k hk => hk)).tr (setX_q.mono (fun q hq => hq) (fun k hk => hk))) (fun k hk => ?_) (fun b h1 h2 => (Eqc_I h2).tr (Eqc_I h2)) (Or.inl ⟨by omega, id, by omega, by omega⟩) (Or.inr ?_) ⟨id, id, fun q h1 h2 => by omega, by omega, fun c h1 h2 => by omega⟩ (by simp [aG]) (Or.inl ⟨fun q h1 h2 => by omega, id, by omega, fun c h1 h2 => by omega⟩) (Or.inl ⟨fun q h1 h2 => by omega, id, by omega, fun c h1 h2 => by omega⟩) (Or.inl ⟨fun q h1 h2 => by omega, id, by omega, fun c h1 h2 => by omega⟩) ⟨fun q h1 h2 => by omega, fun k hk => id, fun c h1 h2 => by omega, by omega⟩
      · have h1 : k ≠ 94 := by omega
        have h2 : k ≠ 95 := by omega
        simp [mG, h1, h2]
      · obtain ⟨g1, g2, g3, g4, g5⟩ := n1
        simp [mNum, mG, aG, g1, g4, g5]
  · rw [if_neg hk, if_neg hk]
    refine MP_same h ?_
    have hk2 := fun q => hk (decide_eq_true q)
    unfold f232
    by_cases h1 : 1 ≤ g ∧ g ≤ 60
    · have h2 : ¬ (0 ≤ b ∧ b ≤ 200) := fun q => hk2 ⟨h1, q⟩
      simp only [mlet, mb, q195, if_pos h1, if_neg h2, i10, if_false, mif, ne_eq, not_true_eq_false, mretZ, true_or, if_true]
    · simp only [mlet, mb, q195, if_neg h1, if_true, mretZ, true_or]
end DIM
