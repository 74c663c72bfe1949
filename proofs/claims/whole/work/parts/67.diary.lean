/-! facts and sightings: turn, ask, untell, sight, unsight; later, gaps -/
def addR (A : Ab) (c r : Nat) (d s o m t : Int32) : Ab := setN (setX (setX (setX (setX (setX (setX A r (aN A c) d) (r + 1) (aN A c) s) (r + 2) (aN A c) o) (r + 3) (aN A c) m) (r + 4) (aN A c) t) (r + 5) (aN A c) (-1)) c (aN A c + 1)
theorem addR_q {A : Ab} {c r : Nat} {d s o m t : Int32} : AbQ (fun q => r ≤ q ∧ q ≤ r + 5) (fun k => k = c) A (addR A c r d s o m t) := by
  refine ⟨fun k hk => by simp [addR, aG, hk], fun q hq => ?_, rfl, rfl⟩
  funext j
  have h0 : q ≠ r := by omega
  have h1 : q ≠ r + 1 := by omega
  have h2 : q ≠ r + 2 := by omega
  have h3 : q ≠ r + 3 := by omega
  have h4 : q ≠ r + 4 := by omega
  have h5 : q ≠ r + 5 := by omega
  simp [addR, aG, h0, h1, h2, h3, h4, h5]
theorem setX_q {A : Ab} {r i : Nat} {v : Int32} : AbQ (fun q => q = r) (fun _ => False) A (setX A r i v) := by
  refine ⟨fun k hk => rfl, fun q hq => ?_, rfl, rfl⟩
  funext j
  have h0 : q ≠ r := hq
  simp [aG, h0]
theorem AbQ.mono {P Q P1 Q1 : Nat → Prop} {A A1 : Ab} (h : AbQ P Q A A1) (hp : ∀ q, P q → P1 q) (hq : ∀ k, Q k → Q1 k) : AbQ P1 Q1 A A1 := ⟨fun k hk => h.1 k (fun q => hk (hq k q)), fun k hk => h.2.1 k (fun q => hk (hp k q)), h.2.2⟩
theorem AbQ.tr {P Q : Nat → Prop} {A A1 A2 : Ab} (h : AbQ P Q A A1) (k : AbQ P Q A1 A2) : AbQ P Q A A2 := ⟨fun j hj => (k.1 j hj).trans (h.1 j hj), fun j hj => (k.2.1 j hj).trans (h.2.1 j hj), k.2.2.1.trans h.2.2.1, k.2.2.2.trans h.2.2.2⟩
/-- what a row is written to -/
theorem addR_X {A : Ab} {c r : Nat} {d s o m t : Int32} {i : Nat} (hi : i < aN A c + 1) : (i = aN A c ∧ aX (addR A c r d s o m t) r i = d ∧ aX (addR A c r d s o m t) (r + 1) i = s ∧ aX (addR A c r d s o m t) (r + 2) i = o ∧ aX (addR A c r d s o m t) (r + 3) i = m ∧ aX (addR A c r d s o m t) (r + 4) i = t ∧ aX (addR A c r d s o m t) (r + 5) i = -1) ∨ (i < aN A c ∧ ∀ q, aX (addR A c r d s o m t) q i = aX A q i) := by
  by_cases h : i = aN A c
  · left
    refine ⟨h, ?_⟩
    simp [addR, aG, h]
  · right
    refine ⟨by omega, fun q => ?_⟩
    simp [addR, aG, h]
theorem addR_N {A : Ab} {c r : Nat} {d s o m t : Int32} : aN (addR A c r d s o m t) c = aN A c + 1 := by simp [addR, aG]
def diW (S : ms_S) (a n : Nat) (d s o m t : Int32) : ms_S := ms_setI (ms_setA (ms_setA (ms_setA (ms_setA (ms_setA (ms_setA S (a + 1) n d) (a + 2) n s) (a + 3) n o) (a + 4) n m) (a + 5) n t) (a + 6) n (-1)) a 6 (Int32.ofNat (n + 1))
theorem vpb {o : Int32} (h : o = 0 ∨ o = 1) : vp_nar .boolean o = o := by rcases h with rfl | rfl <;> rfl
section DIA
variable {N : Nat} {S : ms_S} {A : Ab} {a n : Nat} {d s o m t e : Int32}
theorem diW_E {b : Nat} (hb : ¬ (a ≤ b ∧ b ≤ a + 6)) : Eqc S (diW S a n d s o m t) b := by
  unfold diW
  exact ((((((Eqc_A (by omega)).tr (Eqc_A (by omega))).tr (Eqc_A (by omega))).tr (Eqc_A (by omega))).tr (Eqc_A (by omega))).tr (Eqc_A (by omega))).tr (Eqc_I (by omega))
theorem q20 (ho : o = 0 ∨ o = 1) (hb : dn a ≤ 200) (hn : n < dn a) (hc : ms_I S a 6 = Int32.ofNat n) : f20 N a d s o m t S = some (Int32.ofNat n, diW S a n d s o m t) := by
  have h1 : mv_in (Int32.ofNat n) (dn a) := (ofN_in (by omega)).2 hn
  have h2 := ofN_cl (i := n) (by omega)
  have h3 : Int32.ofNat n < Int32.ofNat (dn a) := (ofN_lt (by omega) (by omega)).2 hn
  have h4 : Int32.ofNat (n + 1) - 1 = Int32.ofNat n := by rw [← ofN_s]; grind
  unfold f20 diW
  simp only [mb, gI, hc, mif, if_pos h3, sA, sB, if_pos h1, h2, mGo, vpb ho, pI, mG, and_self, if_true, mret, ofN_s, h4]
theorem q20f (hc : ms_I S a 6 = Int32.ofNat n) (hb : dn a ≤ 200) (hn : dn a ≤ n) (hn2 : n ≤ 200) : f20 N a d s o m t S = some (-1, S) := by
  have h3 : ¬ Int32.ofNat n < Int32.ofNat (dn a) := fun q => by have := (ofN_lt (i := n) (j := dn a) (by omega) (by omega)).1 q; omega
  unfold f20
  simp only [mb, gI, hc, mif, if_neg h3, mret]
theorem q21 (hb : dn a ≤ 200) (hn : n ≤ dn a) (hc : ms_I S a 6 = Int32.ofNat n) : f21 N a e t S = if (0 ≤ e ∧ e < Int32.ofNat n) ∧ ms_A S (a + 6) e.toNatClampNeg = -1 then some (1, ms_setA S (a + 6) e.toNatClampNeg t) else some (0, S) := by
  unfold f21
  simp only [mlet, mb, q19, hc]
  by_cases hin : 0 ≤ e ∧ e < Int32.ofNat n
  · obtain ⟨i, hi, rfl⟩ := i32_nat hin.1 (by omega) hin.2
    have h1 : mv_in (Int32.ofNat i) (dn a) := (ofN_in (by omega)).2 (by omega)
    have h2 := ofN_cl (i := i) (by omega)
    by_cases hu : ms_A S (a + 6) i = -1
    · simp only [if_pos hin, i10, if_false, mif, mb, lA, if_pos h1, h2, if_pos hu, sA, mretZ, or_true, if_true, hin, hu, and_self]
    · simp only [if_pos hin, i10, if_false, mif, mb, lA, if_pos h1, h2, if_neg hu, mretZ, true_or, if_true, hu, and_false]
  · have hno : ¬ ((0 ≤ e ∧ e < Int32.ofNat n) ∧ ms_A S (a + 6) e.toNatClampNeg = -1) := fun q => hin q.1
    simp only [if_neg hin, if_true, mretZ, true_or, if_neg hno]
theorem cDi_add {c r : Nat} (h : cDi S A a c r) (hn : n = aN A c) : cDi (diW S a n d s o m t) (addR A c r d s o m t) a c r := by
  subst hn
  obtain ⟨h1, h2⟩ := h
  refine ⟨by rw [addR_N]; simp [diW, mG, mGo], fun i hi => ?_⟩
  rw [addR_N] at hi
  rcases addR_X (A := A) (c := c) (r := r) (d := d) (s := s) (o := o) (m := m) (t := t) hi with ⟨e0, e1, e2, e3, e4, e5, e6⟩ | ⟨hl, e⟩
  · rw [e1, e2, e3, e4, e5, e6]
    simp [diW, mG, mGo, e0]
  · rw [e, e, e, e, e, e]
    have hne : i ≠ aN A c := by omega
    simp only [diW, mG, mGo, hne, and_false, if_false]
    exact h2 i hl
theorem cDi_strike {c r i : Nat} (h : cDi S A a c r) (hi : i < aN A c) : cDi (ms_setA S (a + 6) i t) (setX A (r + 5) i t) a c r := by
  obtain ⟨h1, h2⟩ := h
  refine ⟨by simpa [mGo, aG] using h1, fun j hj => ?_⟩
  have hj : j < aN A c := by simpa [aG] using hj
  obtain ⟨g1, g2, g3, g4, g5, g6⟩ := h2 j hj
  simp only [mG, mGo, aG]
  by_cases hji : j = i
  · simp [hji]
    rw [hji] at g1 g2 g3 g4 g5
    exact ⟨g1, g2, g3, g4, g5⟩
  · simp [hji]
    exact ⟨g1, g2, g3, g4, g5, g6⟩
end DIA
/-! the answers, and what comes of it -/
/-- a call of the class, of the reference: its answer, the house behind it -/
def CP {α : Type} (f : mM α) (S : ms_S) (A : Ab) (v : α) (A1 : Ab) : Prop := ∃ S1, f S = some (v, S1) ∧ cBase S1 A1 ∧ keepC S S1 ∧ chg S S1 A A1
def MP {α : Type} (f : mM α) (S : ms_S) (v : α) (A1 : Ab) : Prop := ∃ S1, f S = some (v, S1) ∧ mBase S1 A1 ∧ keepM S S1
theorem CP_same {α : Type} {f : mM α} {S : ms_S} {A : Ab} {v : α} (h : cBase S A) (e : f S = some (v, S)) : CP f S A v A := ⟨S, e, h, fun _ _ _ => Eqc.rf, Or.inl ⟨rfl, rfl⟩⟩
theorem MP_same {α : Type} {f : mM α} {S : ms_S} {A : Ab} {v : α} (h : mBase S A) (e : f S = some (v, S)) : MP f S v A := ⟨S, e, h, fun _ _ => Eqc.rf⟩
/-- a fact, or a sighting, more -/
def nxtAdd (A : Ab) (c r : Nat) (ok : Bool) (d s o m : Int32) : Ab := if ok = true ∧ aN A c < dn (if c = 4 then 40 else 47) then addR A c r d s o m (aX A 40 0) else A
def ansAdd (A : Ab) (c : Nat) (ok : Bool) : Int32 := if ok = true ∧ aN A c < dn (if c = 4 then 40 else 47) then Int32.ofNat (aN A c) else -1
def okTurn (d w : Int32) : Bool := decide ((0 ≤ d ∧ d < 1000) ∧ 0 ≤ w ∧ w ≤ 2)
def okAsk (A : Ab) (s d m : Int32) : Bool := decide ((0 ≤ s ∧ s < Int32.ofNat (aN A 3)) ∧ (0 ≤ d ∧ d < 1000) ∧ 0 ≤ m ∧ m ≤ 99)
def okSig (A : Ab) (d m k : Int32) : Bool := decide ((0 ≤ d ∧ d < 1000) ∧ (0 ≤ m ∧ m ≤ 1439) ∧ (-1 ≤ k ∧ k ≤ 5) ∧ cntF (aX A 30) d (aN A 5) < 8)
section DIB
variable {N : Nat} {S : ms_S} {A : Ab}
/-- the class writes a fact: changes goes up first -/
theorem C_addF {f : mM Int32} {ok : Bool} {d s o m : Int32} (ho : o = 0 ∨ o = 1) (h : cBase S A) (hw : WF0 A) (h1 : ok = true → ∀ v S1, f20 N 40 d s o m (aX A 40 0) (ms_setI S 4 20 (ms_I S 4 20 + 1)) = some (v, S1) → f S = some (v, S1)) (h2 : ok = false → f S = some (-1, S)) : CP f S A (ansAdd A 4 ok) (nxtAdd A 4 20 ok d s o m) := by
  have hb := h
  obtain ⟨_, _, _, _, hd, _⟩ := h
  have hn3 : aN A 3 ≤ 20 := hw.1.2.2.2.1
  have hn4 : aN A 4 ≤ 200 := hw.1.2.2.2.2.1
  have hS : ∀ b, b ≠ 4 → Eqc S (ms_setI S 4 20 (ms_I S 4 20 + 1)) b := fun b hb => Eqc_I hb
  have hd2 : cDi (ms_setI S 4 20 (ms_I S 4 20 + 1)) A 40 4 20 := cDi_fr hd (fun b h1 h2 => hS b (by omega))
  unfold ansAdd nxtAdd
  cases ok with
  | false => simp only [Bool.false_eq_true, false_and, if_false]; exact CP_same hb (h2 rfl)
  | true =>
    by_cases hf : aN A 4 < dn (if (4 : Nat) = 4 then 40 else 47)
    · rw [if_pos ⟨rfl, hf⟩, if_pos ⟨rfl, hf⟩]
      refine ⟨diW (ms_setI S 4 20 (ms_I S 4 20 + 1)) 40 (aN A 4) d s o m (aX A 40 0), h1 rfl _ _ (q20 (a := 40) (n := aN A 4) ho (by decide) hf hd2.1), ?_, ?_, ?_⟩
      · refine cB_di (a := 40) hb (Or.inl ⟨rfl, rfl, rfl⟩) hn3 addR_q (fun k hk => ?_) ?_ (fun b h1 h2 => (hS b h1).tr (diW_E h2)) (cDi_add hd2 rfl)
        · simp [diW, mG, mGo, hk]
        · simp [diW, mGo]
      · exact fun b h1 h2 => (hS b (by omega)).tr (diW_E (by omega))
      · right; simp [diW, mG, mGo]
    · have hno : ¬ (true = true ∧ aN A 4 < dn (if (4 : Nat) = 4 then 40 else 47)) := fun q => hf q.2
      rw [if_neg hno, if_neg hno]
      refine ⟨ms_setI S 4 20 (ms_I S 4 20 + 1), h1 rfl _ _ (q20f (a := 40) (n := aN A 4) hd2.1 (by decide) (Nat.le_of_not_lt hf) hn4), ?_, fun b h1 h2 => hS b (by omega), Or.inr (by simp [mG])⟩
      exact cBase_fr hb hn3 (fun k hk => by simp [mG, hk]) (by simp [mGo]) ⟨by rw [(hS 6 (by omega)).1], by rw [(hS 6 (by omega)).1]⟩ (fun b _ h1 _ _ _ _ _ _ => hS b h1)
theorem C_turn {d w : Int32} (h : cBase S A) (hw : WF0 A) : CP (f121 N d w) S A (ansAdd A 4 (okTurn d w)) (nxtAdd A 4 20 (okTurn d w) d (-1) 0 w) := by
  have n1 := h.2.1.1
  refine C_addF (N := N) (Or.inl rfl) h hw (fun hk v S1 e => ?_) (fun hk => ?_)
  · have hk := of_decide_eq_true hk
    unfold f121
    simp only [mlet, mb, q142, if_pos hk.1, i10, if_false, mif, q141, if_pos hk.2, ne_eq, not_false_eq_true, if_true, gI, pI, mG, mret]
    rw [if_neg (by decide), n1, e]
  · have hk := of_decide_eq_false hk
    unfold f121
    by_cases h1 : 0 ≤ d ∧ d < 1000
    · have h2 : ¬ (0 ≤ w ∧ w ≤ 2) := fun q => hk ⟨h1, q⟩
      simp only [mlet, mb, q142, if_pos h1, i10, if_false, mif, q141, if_neg h2, ne_eq, not_true_eq_false, mret]
    · simp only [mlet, mb, q142, if_neg h1, if_true, mret]
theorem C_ask {s d o m : Int32} (ho : o = 0 ∨ o = 1) (h : cBase S A) (hw : WF0 A) : CP (f122 N s d o m) S A (ansAdd A 4 (okAsk A s d m)) (nxtAdd A 4 20 (okAsk A s d m) d s o m) := by
  have n1 := h.2.1.1
  have s1 := h.2.2.2.1.1
  refine C_addF (N := N) ho h hw (fun hk v S1 e => ?_) (fun hk => ?_)
  · have hk := of_decide_eq_true hk
    unfold f122
    simp only [mlet, mb, q144, s1, if_pos hk.1, q142, if_pos hk.2.1, i10, if_false, mif, q141, if_pos hk.2.2, ne_eq, not_false_eq_true, if_true, gI, pI, mG, mret]
    rw [if_neg (by decide), n1, e]
  · have hk := of_decide_eq_false hk
    unfold f122
    by_cases h0 : 0 ≤ s ∧ s < Int32.ofNat (aN A 3)
    · by_cases h1 : 0 ≤ d ∧ d < 1000
      · have h2 : ¬ (0 ≤ m ∧ m ≤ 99) := fun q => hk ⟨h0, h1, q⟩
        simp only [mlet, mb, q144, s1, if_pos h0, q142, if_pos h1, i10, if_false, mif, q141, if_neg h2, ne_eq, not_true_eq_false, mret]
      · simp only [mlet, mb, q144, s1, if_pos h0, i10, if_false, mif, q142, if_neg h1, if_true, mret]
    · simp only [mlet, mb, q144, s1, if_neg h0, if_true, mret]
/-- untell, unsight -/
def okStr (A : Ab) (c r : Nat) (e : Int32) : Bool := decide ((0 ≤ e ∧ e < Int32.ofNat (aN A c)) ∧ aX A (r + 5) e.toNatClampNeg = -1)
def ansStr (A : Ab) (c r : Nat) (e : Int32) : Int32 := if okStr A c r e = true then 1 else 0
def nxtStr (A : Ab) (c r : Nat) (e : Int32) : Ab := if okStr A c r e = true then setX A (r + 5) e.toNatClampNeg (aX A 40 0) else A
theorem C_str {a c r : Nat} {e : Int32} (hac : (a = 40 ∧ c = 4 ∧ r = 20) ∨ (a = 47 ∧ c = 5 ∧ r = 30)) (h : cBase S A) (hw : WF0 A) : ∃ S1, f21 N a e (aX A 40 0) S = some (ansStr A c r e, S1) ∧ cBase S1 (nxtStr A c r e) ∧ (∀ b, b ≠ a + 6 → Eqc S S1 b) := by
  have hb := h
  have hn3 : aN A 3 ≤ 20 := hw.1.2.2.2.1
  have hd : cDi S A a c r := by rcases hac with ⟨rfl, rfl, rfl⟩ | ⟨rfl, rfl, rfl⟩; exact h.2.2.2.2.1; exact h.2.2.2.2.2.1
  have hn : aN A c ≤ dn a := by rcases hac with ⟨rfl, rfl, rfl⟩ | ⟨rfl, rfl, rfl⟩; exact hw.1.2.2.2.2.1; exact hw.1.2.2.2.2.2
  have hdn : dn a ≤ 200 := by rcases hac with ⟨rfl, rfl, rfl⟩ | ⟨rfl, rfl, rfl⟩ <;> decide
  have q := q21 (N := N) (S := S) (e := e) (t := aX A 40 0) hdn hn hd.1
  unfold ansStr nxtStr
  by_cases hk : okStr A c r e = true
  · have hk2 := of_decide_eq_true hk
    obtain ⟨i, hi, rfl⟩ := i32_nat hk2.1.1 (by omega) hk2.1.2
    have h2 := ofN_cl (i := i) (by omega)
    rw [h2] at q hk2 ⊢
    rw [if_pos ⟨hk2.1, by rw [(hd.2 i hi).2.2.2.2.2]; exact hk2.2⟩] at q
    rw [if_pos hk, if_pos hk]
    refine ⟨_, q, ?_, fun b hb => Eqc_A hb⟩
    refine cB_di (a := a) hb hac hn3 ?_ (fun k hk => by simp [mGo]) (by simp [mGo]) (fun b h1 h2 => Eqc_A (by omega)) (cDi_strike hd hi)
    exact setX_q.mono (fun q hq => by subst hq; omega) (fun k hk => hk.elim)
  · rw [if_neg hk, if_neg hk]
    refine ⟨S, ?_, hb, fun _ _ => Eqc.rf⟩
    rw [q, if_neg]
    intro hh
    apply hk
    apply decide_eq_true
    obtain ⟨i, hi, rfl⟩ := i32_nat hh.1.1 (by omega) hh.1.2
    have h2 := ofN_cl (i := i) (by omega)
    rw [h2] at hh ⊢
    exact ⟨hh.1, by rw [← (hd.2 i hi).2.2.2.2.2]; exact hh.2⟩
theorem C_untell {e : Int32} (h : cBase S A) (hw : WF0 A) : CP (f123 N e) S A (ansStr A 4 20 e) (nxtStr A 4 20 e) := by
  have n1 := h.2.1.1
  have hS : ∀ b, b ≠ 4 → Eqc S (ms_setI S 4 20 (ms_I S 4 20 + 1)) b := fun b hb => Eqc_I hb
  have hb2 : cBase (ms_setI S 4 20 (ms_I S 4 20 + 1)) A := cBase_fr h hw.1.2.2.2.1 (fun k hk => by simp [mG, hk]) (by simp [mGo]) ⟨by rw [(hS 6 (by omega)).1], by rw [(hS 6 (by omega)).1]⟩ (fun b _ h1 _ _ _ _ _ _ => hS b h1)
  obtain ⟨S1, e1, c1, k1⟩ := C_str (N := N) (e := e) (Or.inl ⟨rfl, rfl, rfl⟩) hb2 hw
  have hz : ansStr A 4 20 e = 0 ∨ ansStr A 4 20 e = 1 := by unfold ansStr; split; exact Or.inr rfl; exact Or.inl rfl
  refine ⟨S1, ?_, c1, fun b h1 h2 => (hS b (by omega)).tr (k1 b (by omega)), Or.inr ?_⟩
  · unfold f123
    simp only [mb, gI, pI, mG, mretZ]
    rw [if_neg (by decide), n1, e1]
    simp only [if_pos hz]
  · rw [(k1 4 (by omega)).1]; simp [mG]
theorem C_unsight {e : Int32} (h : cBase S A) (hw : WF0 A) : CP (f135 N e) S A (ansStr A 5 30 e) (nxtStr A 5 30 e) := by
  have n1 := h.2.1.1
  obtain ⟨S1, e1, c1, k1⟩ := C_str (N := N) (e := e) (Or.inr ⟨rfl, rfl, rfl⟩) h hw
  have hz : ansStr A 5 30 e = 0 ∨ ansStr A 5 30 e = 1 := by unfold ansStr; split; exact Or.inr rfl; exact Or.inl rfl
  refine ⟨S1, ?_, c1, fun b h1 h2 => k1 b (by omega), Or.inl ⟨?_, ?_⟩⟩
  · unfold f135
    simp only [mb, gI, mretZ]
    rw [n1, e1]
    simp only [if_pos hz]
  · rw [(k1 4 (by omega)).1]
  · unfold nxtStr
    split
    · unfold core
      simp only [aG]
      congr 2
      funext r i
      by_cases hr : r = 30 + 5
      · subst hr; simp
      · simp [hr]
    · rfl
def okLater (A : Ab) (b : Int32) : Bool := decide ((0 ≤ b ∧ b ≤ 1000) ∧ aX A 40 0 + b ≤ 100000)
def ansLater (A : Ab) (b : Int32) : Int32 := if okLater A b = true then aX A 40 0 + b else -1
def nxtLater (A : Ab) (b : Int32) : Ab := if okLater A b = true then setX A 40 0 (aX A 40 0 + b) else A
theorem C_later {b : Int32} (h : cBase S A) (hw : WF0 A) : CP (f124 N b) S A (ansLater A b) (nxtLater A b) := by
  have n1 := h.2.1
  unfold ansLater nxtLater
  by_cases hk : okLater A b = true
  · have hk2 := of_decide_eq_true hk
    rw [if_pos hk, if_pos hk]
    refine ⟨ms_setI S 4 17 (aX A 40 0 + b), ?_, ?_, fun c h1 h2 => Eqc_I (by omega), Or.inl ⟨by simp [mG], ?_⟩⟩
    · unfold f124
      simp only [mlet, mb, q141, if_pos hk2.1, i10, if_false, mif, gI, n1.1, if_pos hk2.2, pI, mG, mret, and_self, if_true]
    · refine cB_num h hw.1.2.2.2.1 (setX_q.mono (fun q hq => hq) (fun k hk => hk.elim)) (by simp [aG]) (fun k h1 h2 => ?_) (by simp [mGo]) (fun b hb => Eqc_I hb) ?_
      · have : k ≠ 17 := by omega
        simp [mG, this]
      · obtain ⟨g1, g2, g3, g4, g5⟩ := n1
        simp [cNum, mG, aG, g2, g3, g4, g5]
    · unfold core
      simp only [aG]
      congr 2
      funext r i
      by_cases hr : r = 40 ∧ i = 0
      · obtain ⟨rfl, rfl⟩ := hr; simp
      · simp [hr]
  · rw [if_neg hk, if_neg hk]
    refine CP_same h ?_
    have hk2 := fun q => hk (decide_eq_true q)
    unfold f124
    by_cases h1 : 0 ≤ b ∧ b ≤ 1000
    · have h2 : ¬ aX A 40 0 + b ≤ 100000 := fun q => hk2 ⟨h1, q⟩
      simp only [mlet, mb, q141, if_pos h1, i10, if_false, mif, gI, n1.1, if_neg h2, mret]
    · simp only [mlet, mb, q141, if_neg h1, if_true, mret]
def okGaps (g b : Int32) : Bool := decide ((1 ≤ g ∧ g ≤ 60) ∧ 0 ≤ b ∧ b ≤ 200)
def ansGaps (g b : Int32) : Int32 := if okGaps g b = true then 1 else 0
def nxtGaps (A : Ab) (g b : Int32) : Ab := if okGaps g b = true then setX (setX A 40 1 g) 40 2 b else A
theorem C_gaps {g b : Int32} (h : cBase S A) (hw : WF0 A) : CP (f131 N g b) S A (ansGaps g b) (nxtGaps A g b) := by
  have n1 := h.2.1
  unfold ansGaps nxtGaps
  by_cases hk : okGaps g b = true
  · have hk2 := of_decide_eq_true hk
    rw [if_pos hk, if_pos hk]
    refine ⟨ms_setI (ms_setI (ms_setI S 4 18 g) 4 19 b) 4 20 (ms_I S 4 20 + 1), ?_, ?_, fun c h1 h2 => ((Eqc_I (by omega)).tr (Eqc_I (by omega))).tr (Eqc_I (by omega)), Or.inr (by simp [mG])⟩
    · unfold f131
      simp only [mlet, mb, q141, if_pos hk2.1, if_pos hk2.2, i10, if_false, mif, ne_eq, not_false_eq_true, if_true, gI, pI, mG, mretZ, or_true]
      rfl
    · refine cB_num h hw.1.2.2.2.1 ((setX_q.mono (fun q hq => hq) (fun k hk => hk.elim)).tr (setX_q.mono (fun q hq => hq) (fun k hk => hk.elim))) (by simp [aG]) (fun k h1 h2 => ?_) (by simp [mGo]) (fun b hb => ((Eqc_I hb).tr (Eqc_I hb)).tr (Eqc_I hb)) ?_
      · have : k ≠ 18 := by omega
        have : k ≠ 19 := by omega
        simp [mG, *]
      · obtain ⟨g1, g2, g3, g4, g5⟩ := n1
        simp [cNum, mG, aG, g1, g4, g5]
  · rw [if_neg hk, if_neg hk]
    refine CP_same h ?_
    have hk2 := fun q => hk (decide_eq_true q)
    unfold f131
    by_cases h1 : 1 ≤ g ∧ g ≤ 60
    · have h2 : ¬ (0 ≤ b ∧ b ≤ 200) := fun q => hk2 ⟨h1, q⟩
      simp only [mlet, mb, q141, if_pos h1, if_neg h2, i10, if_false, mif, ne_eq, not_true_eq_false, mretZ, true_or, if_true]
    · simp only [mlet, mb, q141, if_neg h1, if_true, mretZ, true_or]
/-- countOn -/
theorem q23 {a n : Nat} {d : Int32} {X : Nat → Int32} (hN : 201 ≤ N) (hb : dn a ≤ 200) (hn : n ≤ dn a) (hc : ms_I S a 6 = Int32.ofNat n) (hX : ∀ i, i < n → ms_A S (a + 1) i = X i) : f23 N a d S = some (Int32.ofNat (cntF X d n), S) := by
  have key : ∀ m i k, m + i = n → m < k → f23_L4 N a (fun _ x2 _ => mret x2) k d (Int32.ofNat (cntF X d i)) (Int32.ofNat i) S = some (Int32.ofNat (cntF X d n), S) := by
    intro m
    induction m with
    | zero =>
      intro i k hi hk
      obtain ⟨k, rfl⟩ : ∃ q, k = q + 1 := ⟨k - 1, by omega⟩
      have hge : Int32.ofNat i ≥ Int32.ofNat n := (ofN_le (by omega) (by omega)).2 (by omega)
      rw [f23_L4]
      have hin : i = n := by omega
      simp only [mb, gI, hc, mif, if_pos hge, mret]
      rw [hin]
    | succ m ih =>
      intro i k hi hk
      obtain ⟨k, rfl⟩ : ∃ q, k = q + 1 := ⟨k - 1, by omega⟩
      have hge : ¬ Int32.ofNat i ≥ Int32.ofNat n := fun q => by have := (ofN_le (i := n) (j := i) (by omega) (by omega)).1 q; omega
      have h1 : mv_in (Int32.ofNat i) (dn a) := (ofN_in (by omega)).2 (by omega)
      have h2 := ofN_cl (i := i) (by omega)
      have := ih (i + 1) k (by omega) (by omega)
      rw [f23_L4]
      simp only [mb, gI, hc, mif, if_neg hge, mlet, lA, if_pos h1, h2, hX i (by omega)]
      by_cases hd : X i = d
      · rw [if_neg (by simpa using hd), ofN_s, ofN_s]
        simpa [cntF, hd] using this
      · rw [if_pos hd, ofN_s]
        simpa [cntF, hd] using this
  exact key n 0 N (by omega) (by omega)
theorem cntF_le {X : Nat → Int32} {d : Int32} : ∀ n, cntF X d n ≤ n := by
  intro n
  induction n with
  | zero => exact Nat.le_refl _
  | succ n ih => unfold cntF; split <;> omega
theorem C_sight {d m o k : Int32} (hN : 201 ≤ N) (ho : o = 0 ∨ o = 1) (h : cBase S A) (hw : WF0 A) : CP (f134 N d m o k) S A (ansAdd A 5 (okSig A d m k)) (nxtAdd A 5 30 (okSig A d m k) d k o m) := by
  have n1 := h.2.1.1
  have hd : cDi S A 47 5 30 := h.2.2.2.2.2.1
  have hn5 : aN A 5 ≤ 60 := hw.1.2.2.2.2.2
  have hc := q23 (N := N) (S := S) (a := 47) (d := d) (X := aX A 30) hN (by decide) hn5 hd.1 (fun i hi => (hd.2 i hi).1)
  have hcl := cntF_le (X := aX A 30) (d := d) (aN A 5)
  have h8 : Int32.ofNat (cntF (aX A 30) d (aN A 5)) < 8 ↔ cntF (aX A 30) d (aN A 5) < 8 := ofN_lt (j := 8) (by omega) (by omega)
  unfold ansAdd nxtAdd
  by_cases hk : okSig A d m k = true ∧ aN A 5 < dn (if (5 : Nat) = 4 then 40 else 47)
  · rw [if_pos hk, if_pos hk]
    have hk2 := of_decide_eq_true hk.1
    refine ⟨diW S 47 (aN A 5) d k o m (aX A 40 0), ?_, ?_, fun b h1 h2 => diW_E (by omega), Or.inl ⟨?_, ?_⟩⟩
    · unfold f134
      simp only [mlet, mb, q142, if_pos hk2.1, i10, if_false, mif, q141, if_pos hk2.2.1, if_pos hk2.2.2.1, ne_eq, not_false_eq_true, if_true, hc, if_pos (h8.2 hk2.2.2.2), gI, n1, q20 (a := 47) (n := aN A 5) ho (by decide) hk.2 hd.1, mret]
    · refine cB_di (a := 47) h (Or.inr ⟨rfl, rfl, rfl⟩) hw.1.2.2.2.1 addR_q (fun k hk => ?_) ?_ (fun b h1 h2 => diW_E h2) (cDi_add hd rfl)
      · simp [diW, mG, mGo]
      · simp [diW, mGo]
    · simp [diW, mG, mGo]
    · unfold core
      congr 1
      · funext q; by_cases hq : q = 5
        · simp [hq]
        · simp [addR, aG, hq]
      · congr 1
        funext r i
        have q := (addR_q (A := A) (c := 5) (r := 30) (d := d) (s := k) (o := o) (m := m) (t := aX A 40 0)).2.1 r
        by_cases hr : 30 ≤ r ∧ r < 36
        · simp [hr]
        · rw [q (by omega)]
  · rw [if_neg hk, if_neg hk]
    refine CP_same h ?_
    unfold f134
    by_cases h1 : 0 ≤ d ∧ d < 1000
    · by_cases h2 : 0 ≤ m ∧ m ≤ 1439
      · by_cases h3 : -1 ≤ k ∧ k ≤ 5
        · by_cases h4 : cntF (aX A 30) d (aN A 5) < 8
          · have h5 : ¬ aN A 5 < dn 47 := fun q => hk ⟨decide_eq_true ⟨h1, h2, h3, h4⟩, q⟩
            simp only [mlet, mb, q142, if_pos h1, i10, if_false, mif, q141, if_pos h2, if_pos h3, ne_eq, not_false_eq_true, if_true, hc, if_pos (h8.2 h4), gI, n1, q20f (a := 47) (n := aN A 5) hd.1 (by decide) (Nat.le_of_not_lt h5) (by omega), mret]
          · simp only [mlet, mb, q142, if_pos h1, i10, if_false, mif, q141, if_pos h2, if_pos h3, ne_eq, not_false_eq_true, if_true, hc, if_neg (fun q => h4 (h8.1 q)), mret]
        · simp only [mlet, mb, q142, if_pos h1, i10, if_false, mif, q141, if_pos h2, if_neg h3, ne_eq, not_true_eq_false, mret]
      · simp only [mlet, mb, q142, if_pos h1, i10, if_false, mif, q141, if_neg h2, if_true, mret]
    · simp only [mlet, mb, q142, if_neg h1, if_true, mret]
end DIB
