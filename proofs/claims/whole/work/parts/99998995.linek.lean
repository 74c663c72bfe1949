/-! lines of a convention: the reference -/
def sgM (S : ms_S) (C line : Nat) (l : Cd) : Prop := ∃ n, ms_A S 148 (60 + line) = Int32.ofNat n ∧ ms_A S 149 (60 + line) = Int32.ofNat (n + l.length) ∧ n + l.length ≤ C ∧ ∀ j, j < l.length → ms_A S 150 (4800 + n + j) = mCh line (l.getD j (0, 0)).1 ∧ ms_A S 151 (4800 + n + j) = (l.getD j (0, 0)).2
def bI (x : Bool) : Int32 := if x = true then 1 else 0
/-- names of lands, in the reference -/
def NB (S : ms_S) (b : Nat) (ln : List (List Int32)) : Prop := ms_I S 131 20 = Int32.ofNat b ∧ ms_A S 136 b = Int32.ofNat ln.length ∧ ∀ i, i < ln.length → ms_L S 142 (8 * b + i) = pk8 (ln.getD i []) ∧ ltw (ln.getD i [])
def MW (S : ms_S) (C : Nat) (w : Cw) : Prop := (ms_A S 143 4 = Int32.ofNat (wN w) ∧ ms_A S 144 4 = Int32.ofNat (wK w).length ∧ ms_A S 145 4 = Int32.ofNat (wM w).length) ∧ (∀ k, k < 4 → ms_A S 147 (16 + k) = wL w k ∧ ms_A S 155 (16 + k) = bI (Nat.testBit (wT w) k)) ∧ ms_A S 156 4 = bI (Nat.testBit (wT w) 4) ∧ (∀ i, i < (wM w).length → ms_A S 146 (32 + i) = ((wM w).getD i (0, [])).1) ∧ (∀ i, i < (wK w).length → ms_L S 157 (24 + i) = pk8 ((wK w).getD i ([], [])).1 ∧ ltw ((wK w).getD i ([], [])).1) ∧ (ms_I S 131 37 = Int32.ofNat C ∧ ms_I S 131 38 = Int32.ofNat (wU w)) ∧ (∀ i, i < (wK w).length → sgM S C i ((wK w).getD i ([], [])).2) ∧ (∀ i, i < (wM w).length → sgM S C (6 + i) ((wM w).getD i (0, [])).2) ∧ (Nat.testBit (wT w) 4 = true → sgM S C 14 (wD w))
/-- one line's expression: what stays -/
def oLk (line c0 : Nat) (S S1 : ms_S) : Prop := (∀ j, ¬ (4 ≤ j ∧ j ≤ 9) → ¬ (37 ≤ j ∧ j ≤ 41) → ms_I S1 131 j = ms_I S 131 j) ∧ (∀ b, b ≠ 131 → ¬ (148 ≤ b ∧ b ≤ 153) → Eqc S S1 b) ∧ (∀ i, i ≠ 60 + line → ms_A S1 148 i = ms_A S 148 i ∧ ms_A S1 149 i = ms_A S 149 i) ∧ ∀ i, i < 4800 + c0 → ms_A S1 150 i = ms_A S 150 i ∧ ms_A S1 151 i = ms_A S 151 i
theorem oLk.rf {line c0 : Nat} {S : ms_S} : oLk line c0 S S := ⟨fun _ _ _ => rfl, fun _ _ _ => Eqc.rf, fun _ _ => ⟨rfl, rfl⟩, fun _ _ => ⟨rfl, rfl⟩⟩
theorem oLk.tr {line c0 : Nat} {S S1 S2 : ms_S} (h : oLk line c0 S S1) (q : oLk line c0 S1 S2) : oLk line c0 S S2 := ⟨fun j h1 h2 => (q.1 j h1 h2).trans (h.1 j h1 h2), fun b h1 h2 => (h.2.1 b h1 h2).tr (q.2.1 b h1 h2), fun i hi => ⟨((q.2.2.1 i hi).1).trans (h.2.2.1 i hi).1, ((q.2.2.1 i hi).2).trans (h.2.2.1 i hi).2⟩, fun i hi => ⟨((q.2.2.2 i hi).1).trans (h.2.2.2 i hi).1, ((q.2.2.2 i hi).2).trans (h.2.2.2 i hi).2⟩⟩
theorem offK.l {line c0 : Nat} {S S1 : ms_S} (h : offK c0 S S1) : oLk line c0 S S1 := ⟨fun j h1 h2 => h.1 j h1 (by omega), fun b h1 h2 => h.2.1 b h1 (by omega), fun i _ => ⟨by rw [(h.2.1 148 (by decide) (by decide)).2.2.2.1], by rw [(h.2.1 149 (by decide) (by decide)).2.2.2.1]⟩, h.2.2⟩
theorem oLk.w {line c0 b : Nat} {v : Int32} {S : ms_S} (h : b = 148 ∨ b = 149) : oLk line c0 S (ms_setA S b (60 + line) v) := by
  refine ⟨fun j _ _ => by simp only [mGo], fun k h1 h2 => Eqc_A (by omega), fun i hi => ⟨?_, ?_⟩, fun i _ => ⟨?_, ?_⟩⟩
  · simp only [mG]; rw [if_neg (fun z => hi z.2)]
  · simp only [mG]; rw [if_neg (fun z => hi z.2)]
  · simp only [mG]; rw [if_neg (by omega)]
  · simp only [mG]; rw [if_neg (by omega)]
theorem oLk.w41 {line c0 : Nat} {v : Int32} {S : ms_S} : oLk line c0 S (ms_setI S 131 41 v) := ⟨fun j _ h2 => by simp only [mG, true_and, if_neg (show ¬ j = 41 by omega)], fun b h1 _ => Eqc_I h1, fun i _ => ⟨by simp only [mGo], by simp only [mGo]⟩, fun i _ => ⟨by simp only [mGo], by simp only [mGo]⟩⟩
theorem sgM_l {S S1 : ms_S} {C C1 c0 line k : Nat} {l : Cd} (h : sgM S C k l) (o : oLk line c0 S S1) (hk : k ≠ line) (h1 : C ≤ c0) (h2 : C ≤ C1) : sgM S1 C1 k l := by
  obtain ⟨n, e1, e2, e3, e4⟩ := h
  refine ⟨n, by rw [(o.2.2.1 (60 + k) (by omega)).1]; exact e1, by rw [(o.2.2.1 (60 + k) (by omega)).2]; exact e2, by omega, fun j hj => ?_⟩
  rw [(o.2.2.2 (4800 + n + j) (by omega)).1, (o.2.2.2 (4800 + n + j) (by omega)).2]
  exact e4 j hj
section LNK
variable {N : Nat} {X : Nat → Int32} {L : Nat} {line c0 b : Nat} {kl : Bool} {kn ln : List (List Int32)}
theorem f181_eq {p0 : Int32} : f181 N p0 = (mb (pI 131 41 p0) fun _ => mb (gI 131 37) fun v5 => mb (sA 148 75 (60 + p0) v5) fun _ => mb (f155 N) fun v8 => if v8 = 0 then (mb (gI 131 37) fun v1 => mb (sA 149 75 (60 + p0) v1) fun _ => mret ()) else (mb (f188 N) fun _ => mb (gI 131 37) fun v1 => mb (sA 149 75 (60 + p0) v1) fun _ => mret ())) := rfl
theorem q181 {S : ms_S} {σ : Sg} {u : Nat} (hN : 1300 ≤ N) (hb : TxB X L) (hb2 : b < 2) (hnk : NK S b kn ln) (hk : kn.length ≤ 6) (hln : ln.length ≤ 8) (hl : line ≤ 14) (hkl : kl = decide (line < 6)) (hm : MS S X L σ) (hu : u ≤ 100) (hci : gd σ = true → c0 ≤ idx σ) (h37 : ms_I S 131 37 = Int32.ofNat c0) (h38 : ms_I S 131 38 = Int32.ofNat u) : ∃ σ1 S1, f181 N (Int32.ofNat line) S = some ((), S1) ∧ MS S1 X L σ1 ∧ dm X L 59 σ1 = dm X L 59 (pE X L kl kn ln 100 0 0 (σ, [], u)).1 ∧ (gd σ1 = true → σ1 = (pE X L kl kn ln 100 0 0 (σ, [], u)).1 ∧ ms_I S1 131 37 = Int32.ofNat (c0 + (pE X L kl kn ln 100 0 0 (σ, [], u)).2.1.length) ∧ ms_I S1 131 38 = Int32.ofNat (pE X L kl kn ln 100 0 0 (σ, [], u)).2.2 ∧ sgM S1 (c0 + (pE X L kl kn ln 100 0 0 (σ, [], u)).2.1.length) line (pE X L kl kn ln 100 0 0 (σ, [], u)).2.1) ∧ oLk line c0 S S1 := by
  have e60 : 60 + Int32.ofNat line = Int32.ofNat (60 + line) := by rw [show (60 : Int32) = Int32.ofNat 60 from rfl, ofN_add]
  have i1 : inR (Int32.ofNat (60 + line)) 75 := ofN_inR (by omega) (by omega)
  have i2 := ofN_cl (i := 60 + line) (by omega)
  have h37' : ms_I (ms_setI S 131 41 (Int32.ofNat line)) 131 37 = Int32.ofNat c0 := by simp [mG]; exact h37
  have Y0 : ∃ Y, Y = ms_setA (ms_setI S 131 41 (Int32.ofNat line)) 148 (60 + line) (Int32.ofNat c0) := ⟨_, rfl⟩
  obtain ⟨Y, hY⟩ := Y0
  have oY : oLk line c0 S Y := by rw [hY]; exact oLk.w41.tr (oLk.w (Or.inl rfl))
  have mY : MS Y X L σ := by rw [hY]; exact MS_A (MS_I hm (by omega)) (by decide)
  have y41 : ms_I Y 131 41 = Int32.ofNat line := by rw [hY]; simp only [mGo]; simp only [mG, and_self, if_true]
  have yI : ∀ j, j ≠ 41 → ms_I Y 131 j = ms_I S 131 j := fun j hj => by rw [hY]; simp only [mGo]; simp only [mG, true_and, if_neg hj]
  have y148 : ms_A Y 148 (60 + line) = Int32.ofNat c0 := by rw [hY]; simp only [mG, and_self, if_true]
  have nY : NK Y b kn ln := by
    obtain ⟨n1, n2, n3, n4, n5⟩ := hnk
    refine ⟨by rw [(oY.2.1 144 (by decide) (by decide)).2.2.2.1]; exact n1, fun i hi => by rw [(oY.2.1 157 (by decide) (by decide)).2.2.2.2.1]; exact n2 i hi, by rw [yI 20 (by decide)]; exact n3, by rw [(oY.2.1 136 (by decide) (by decide)).2.2.2.1]; exact n4, fun i hi => by rw [(oY.2.1 142 (by decide) (by decide)).2.2.2.2.1]; exact n5 i hi⟩
  have fin : ∀ (S2 : ms_S), (mb (gI 131 37) fun v1 => mb (sA 149 75 (60 + Int32.ofNat line) v1) fun _ => mret ()) S2 = some ((), ms_setA S2 149 (60 + line) (ms_I S2 131 37)) := fun S2 => by
    simp only [mE, e60, i1, i2]
  have pre : f181 N (Int32.ofNat line) S = (mb (f155 N) fun v8 => if v8 = 0 then (mb (gI 131 37) fun v1 => mb (sA 149 75 (60 + Int32.ofNat line) v1) fun _ => mret ()) else (mb (f188 N) fun _ => mb (gI 131 37) fun v1 => mb (sA 149 75 (60 + Int32.ofNat line) v1) fun _ => mret ())) Y := by
    rw [f181_eq]
    simp only [mE, h37', e60, i1, i2, ← hY]
  rw [pre, E155 mY]
  cases hg : gd σ with
  | false =>
    rw [if_neg (show ¬ (false = true) by decide), if_pos (show (0 : Int32) = 0 from rfl), fin]
    refine ⟨σ, _, rfl, MS_A mY (by decide), by rw [pE_bad 100 0 0 (σ, [], u) hg], (fun z => by rw [hg] at z; cases z), oY.tr (oLk.w (Or.inr rfl))⟩
  | true =>
    rw [if_pos (show true = true from rfl), if_neg (show ¬ ((1 : Int32) = 0) by decide)]
    obtain ⟨σ1, S1, e1, m1, d1, g1, o1⟩ := q188 (N := N) (kl := kl) (c0 := c0) (line := line) (u := u) hN hb hb2 nY hk hln y41 hl hkl mY hg hu (hci hg) (by rw [yI 37 (by decide)]; exact h37) (by rw [yI 38 (by decide)]; exact h38)
    have m188 : ∀ {β : Type} {f' : Unit → mM β}, mb (f188 N) f' Y = f' () S1 := by intro β f'; simp only [mb, e1]
    rw [m188, fin]
    refine ⟨σ1, _, rfl, MS_A m1 (by decide), d1, fun z => ?_, (oY.tr o1.l).tr (oLk.w (Or.inr rfl))⟩
    obtain ⟨g2, c1, c2, c3, c4⟩ := g1 z
    refine ⟨g2, by simp only [mGo]; exact c1, by simp only [mGo]; exact c2, c0, ?_, ?_, Nat.le_refl _, fun j hj => ?_⟩
    · rw [(Eqc_A (by decide)).2.2.2.1, (o1.2.1 148 (by decide) (by decide)).2.2.2.1]
      exact y148
    · simp only [mG, and_self, if_true]
      exact c1
    · rw [(Eqc_A (by decide)).2.2.2.1, (Eqc_A (by decide)).2.2.2.1]
      exact c4 j hj
end LNK
