/-! the class counts the ways -/
def sI (g : Nat → Int32) : Nat → Nat → Int32
  | _, 0 => 0
  | i, k + 1 => g i + sI g (i + 1) k
theorem sI_congr {g g' : Nat → Int32} : ∀ k i, (∀ j, i ≤ j → j < i + k → g j = g' j) → sI g i k = sI g' i k := by
  intro k
  induction k with
  | zero => intro i _; rfl
  | succ k ih => intro i h; unfold sI; rw [h i (by omega) (by omega), ih (i + 1) (fun j h1 h2 => h j (by omega) (by omega))]
theorem sI_zero {g : Nat → Int32} : ∀ k i, (∀ j, i ≤ j → j < i + k → g j = 0) → sI g i k = 0 := by
  intro k
  induction k with
  | zero => intro i _; rfl
  | succ k ih => intro i h; unfold sI; rw [h i (by omega) (by omega), ih (i + 1) (fun j h1 h2 => h j (by omega) (by omega))]; rfl
theorem sI_of {f : Nat → Nat} : ∀ k i, Int32.ofNat (sR f i k) = sI (fun p => Int32.ofNat (f p)) i k := by
  intro k
  induction k with
  | zero => intro i; rfl
  | succ k ih => intro i; unfold sR sI; rw [← ih (i + 1), ofN_add]
theorem sI_upd {W c : Nat → Int32} {j0 : Nat} {v : Int32} : ∀ k i, i ≤ j0 → j0 < i + k → sI (fun j => (if j = j0 then W j0 + v else W j) * c j) i k = sI (fun j => W j * c j) i k + v * c j0 := by
  intro k
  induction k with
  | zero => intro i h1 h2; omega
  | succ k ih =>
    intro i h1 h2
    unfold sI
    by_cases e : i = j0
    · subst e
      rw [if_pos rfl, sI_congr (g := fun j => (if j = i then W i + v else W j) * c j) (g' := fun j => W j * c j) k (i + 1) (fun j h1 h2 => by simp only [if_neg (show ¬ j = i by omega)])]
      generalize sI (fun j => W j * c j) (i + 1) k = z
      grind
    · rw [if_neg e, ih (i + 1) (by omega) (by omega)]
      generalize sI (fun j => W j * c j) (i + 1) k = z
      grind
def RB (l : List Nat) : List (Nat → Bool) := l.map (fun r => Nat.testBit r)
theorem map_erase : ∀ (l : List Nat) (r : Nat), (RB l).eraseIdx r = RB (l.eraseIdx r) := by
  intro l
  induction l with
  | nil => intro r; rfl
  | cons x l ih =>
    intro r
    cases r with
    | zero => rfl
    | succ r => show _ :: (RB l).eraseIdx r = _; rw [ih r]; rfl
def RwS (S : ms_S) (rb : List Nat) : Prop := ms_I S 73 2 = Int32.ofNat rb.length ∧ rb.length ≤ 8 ∧ ∀ i, i < rb.length → ms_A S 75 i = Int32.ofNat (rb.getD i 0) ∧ rb.getD i 0 < 256
theorem b_one0 : ∀ p : Fin 8, decide ((1 : Int32) <<< (Int32.ofNat p.1 &&& 31) = Int32.ofNat (2 ^ p.1) ∧ 2 ^ p.1 < 256 ∧ popN (2 ^ p.1) = 1) = true := by decide +kernel
theorem b_one {p : Nat} (hp : p < 8) : (1 : Int32) <<< (Int32.ofNat p &&& 31) = Int32.ofNat (2 ^ p) ∧ 2 ^ p < 256 ∧ popN (2 ^ p) = 1 := of_decide_eq_true (b_one0 ⟨p, hp⟩)
theorem bitsN_lt8 {b : Nat → Bool} {n : Nat} (hn : n ≤ 8) : bitsN b n < 256 := Nat.lt_of_lt_of_le (bitsN_lt n) (by rw [show (256 : Nat) = 2 ^ 8 from rfl]; exact Nat.pow_le_pow_right (by omega) hn)
section WAY
variable {N : Nat}
theorem spL {t r : Nat} {x2 : Int32} (ht : t < 256) (hr : r < 256) {K : Int32 → Int32 → Int32 → Int32 → mM Unit} : ∀ k i n (S : ms_S), k + i = 8 → k < n → ∃ S1, f50_L26 N K n (Int32.ofNat t) x2 (Int32.ofNat r &&& (Int32.ofNat t ^^^ (-1))) (Int32.ofNat i) S = K (Int32.ofNat t) x2 (Int32.ofNat r &&& (Int32.ofNat t ^^^ (-1))) 8 S1 ∧ (∀ c : Nat → Int32, sI (fun j => ms_A S1 76 j * c j) (t + 1) (255 - t) = sI (fun j => ms_A S 76 j * c j) (t + 1) (255 - t) + ms_A S 76 t * sI (fun p => if Nat.testBit r p = true ∧ Nat.testBit t p = false then c (t ||| 2 ^ p) else 0) i k) ∧ ms_A S1 76 t = ms_A S 76 t ∧ (∀ j, ms_A S1 76 j ≠ 0 → ms_A S 76 j ≠ 0 ∨ popN t < popN j) ∧ ∀ b, b ≠ 76 → Eqc S S1 b := by
  intro k
  induction k with
  | zero =>
    intro i n S hi hn
    obtain ⟨n, rfl⟩ : ∃ q, n = q + 1 := ⟨n - 1, by omega⟩
    have e : i = 8 := by omega
    subst e
    refine ⟨S, ?_, fun c => ?_, rfl, fun j h => Or.inl h, fun _ _ => Eqc.rf⟩
    · rw [f50_L26]
      simp only [mE]
      rw [if_pos (by decide)]
      rfl
    · rw [show sI (fun p => if Nat.testBit r p = true ∧ Nat.testBit t p = false then c (t ||| 2 ^ p) else 0) 8 0 = 0 from rfl]
      generalize sI (fun j => ms_A S 76 j * c j) (t + 1) (255 - t) = z
      grind
  | succ k ih =>
    intro i n S hi hn
    obtain ⟨n, rfl⟩ : ∃ q, n = q + 1 := ⟨n - 1, by omega⟩
    have hge : ¬ Int32.ofNat i ≥ 8 := fun q => by have := (ofN_le (i := 8) (j := i) (by omega) (by omega)).1 q; omega
    rw [f50_L26]
    simp only [mE, if_neg hge]
    by_cases hc : Nat.testBit r i = true ∧ Nat.testBit t i = false
    · rw [if_neg (fun q => (andnot_tb hr (show i < 8 by omega)).1 q hc)]
      obtain ⟨ps1, ps2⟩ := pop_s ht (show i < 8 by omega) hc.2
      obtain ⟨bs1, bs2⟩ := b_set ht (show i < 8 by omega)
      have i1 : inR (Int32.ofNat (t ||| 2 ^ i)) 256 := ofN_inR (by omega) (by omega)
      have i2 := ofN_cl (i := t ||| 2 ^ i) (by omega)
      have j1 : inR (Int32.ofNat t) 256 := ofN_inR (by omega) (by omega)
      have j2 := ofN_cl (i := t) (by omega)
      simp only [mE, bs1, i1, i2, j1, j2, ofN_s]
      obtain ⟨S1, e1, s1, v1, u1, o1⟩ := ih (i + 1) n (ms_setA S 76 (t ||| 2 ^ i) (ms_A S 76 (t ||| 2 ^ i) + ms_A S 76 t)) (by omega) (by omega)
      have hA : ∀ j, ms_A (ms_setA S 76 (t ||| 2 ^ i) (ms_A S 76 (t ||| 2 ^ i) + ms_A S 76 t)) 76 j = if j = t ||| 2 ^ i then ms_A S 76 (t ||| 2 ^ i) + ms_A S 76 t else ms_A S 76 j := by intro j; simp only [mG, true_and]
      have ht2 : ms_A (ms_setA S 76 (t ||| 2 ^ i) (ms_A S 76 (t ||| 2 ^ i) + ms_A S 76 t)) 76 t = ms_A S 76 t := by rw [hA, if_neg (by omega)]
      refine ⟨S1, e1, fun c => ?_, by rw [v1, ht2], fun j h => ?_, fun b hb => (Eqc_A hb).tr (o1 b hb)⟩
      · rw [s1 c, ht2]
        simp only [hA]
        rw [sI_upd (255 - t) (t + 1) (by omega) (by omega)]
        rw [show sI (fun p => if Nat.testBit r p = true ∧ Nat.testBit t p = false then c (t ||| 2 ^ p) else 0) i (k + 1) = (if Nat.testBit r i = true ∧ Nat.testBit t i = false then c (t ||| 2 ^ i) else 0) + sI (fun p => if Nat.testBit r p = true ∧ Nat.testBit t p = false then c (t ||| 2 ^ p) else 0) (i + 1) k from rfl, if_pos hc]
        generalize sI (fun j => ms_A S 76 j * c j) (t + 1) (255 - t) = z
        generalize sI (fun p => if Nat.testBit r p = true ∧ Nat.testBit t p = false then c (t ||| 2 ^ p) else 0) (i + 1) k = y
        generalize ms_A S 76 t = u
        generalize c (t ||| 2 ^ i) = x
        clear s1 e1 v1 u1 o1 ih hA
        grind
      · rcases u1 j h with h | h
        · rw [hA] at h
          by_cases e : j = t ||| 2 ^ i
          · right; rw [e]; omega
          · rw [if_neg e] at h; exact Or.inl h
        · exact Or.inr h
    · rw [if_pos ((andnot_tb hr (show i < 8 by omega)).2 hc), ofN_s]
      obtain ⟨S1, e1, s1, v1, u1, o1⟩ := ih (i + 1) n S (by omega) (by omega)
      refine ⟨S1, e1, fun c => ?_, v1, u1, o1⟩
      rw [s1 c]
      rw [show sI (fun p => if Nat.testBit r p = true ∧ Nat.testBit t p = false then c (t ||| 2 ^ p) else 0) i (k + 1) = (if Nat.testBit r i = true ∧ Nat.testBit t i = false then c (t ||| 2 ^ i) else 0) + sI (fun p => if Nat.testBit r p = true ∧ Nat.testBit t p = false then c (t ||| 2 ^ p) else 0) (i + 1) k from rfl, if_neg hc]
      generalize sI (fun p => if Nat.testBit r p = true ∧ Nat.testBit t p = false then c (t ||| 2 ^ p) else 0) (i + 1) k = y
      rw [show (0 : Int32) + y = y by clear s1 e1 v1 u1 o1 ih; grind]
theorem q50 {t row : Nat} {rb : List Nat} {S : ms_S} (hN : 20 ≤ N) (ht : t < 256) (hrw : RwS S rb) (hrow : row < rb.length) : ∃ S1, f50 N (Int32.ofNat t) (Int32.ofNat row) S = some ((), S1) ∧ (∀ c : Nat → Int32, sI (fun j => ms_A S1 76 j * c j) (t + 1) (255 - t) = sI (fun j => ms_A S 76 j * c j) (t + 1) (255 - t) + ms_A S 76 t * sI (fun p => if Nat.testBit (rb.getD row 0) p = true ∧ Nat.testBit t p = false then c (t ||| 2 ^ p) else 0) 0 8) ∧ (∀ j, ms_A S1 76 j ≠ 0 → ms_A S 76 j ≠ 0 ∨ popN t < popN j) ∧ ∀ b, b ≠ 76 → Eqc S S1 b := by
  obtain ⟨h2, h8, hA⟩ := hrw
  obtain ⟨a75, a256⟩ := hA row hrow
  have i1 : inR (Int32.ofNat row) 8 := ofN_inR (by omega) (by omega)
  have i2 := ofN_cl (i := row) (by omega)
  obtain ⟨S1, e1, s1, _, u1, o1⟩ := spL (N := N) (t := t) (r := rb.getD row 0) (x2 := Int32.ofNat row) (K := fun (x1 : Int32) (x2 : Int32) (x3 : Int32) (x4 : Int32) => (mret ())) ht a256 8 0 N S (by omega) (by omega)
  refine ⟨S1, ?_, s1, u1, o1⟩
  unfold f50
  simp only [mE, h2]
  rw [if_neg (fun q => by have := (ofN_le (i := rb.length) (j := row) (by omega) (by omega)).1 q; omega)]
  simp only [mE, i1, i2, a75]
  exact e1
/-- weight of a set: the ways on from it -/
def wgt (Q : List Nat) (g j : Nat) : Int32 := if popN j - popN g ≤ Q.length then Int32.ofNat (cnt (RB (Q.drop (popN j - popN g))) j) else 0
/-- which rows are asked -/
def Sel (rb Q : List Nat) (x1 : Int32) : Prop := (x1 = -1 ∧ Q = rb) ∨ ∃ w, x1 = Int32.ofNat w ∧ w < rb.length ∧ Q = rb.eraseIdx w
theorem Sel_row {rb Q : List Nat} {x1 : Int32} (h8 : rb.length ≤ 8) (h : Sel rb Q x1) {i : Nat} (hi : i < Q.length) : ∃ row, row < rb.length ∧ rb.getD row 0 = Q.getD i 0 ∧ (x1 = -1 → row = i) ∧ (x1 ≠ -1 → Int32.ofNat row = if Int32.ofNat i ≥ x1 then Int32.ofNat i + 1 else Int32.ofNat i) := by
  rcases h with ⟨h1, rfl⟩ | ⟨w, rfl, hw, rfl⟩
  · exact ⟨i, hi, rfl, fun _ => rfl, fun q => absurd h1 q⟩
  · have hl : (rb.eraseIdx w).length = rb.length - 1 := List.length_eraseIdx_of_lt hw
    have hne : ¬ Int32.ofNat w = -1 := by
      have := i32_of w (by omega)
      clear hi hl
      grind
    by_cases hlt : i < w
    · refine ⟨i, by omega, ?_, fun q => absurd q hne, fun _ => ?_⟩
      · rw [List.getD_eq_getElem?_getD, List.getD_eq_getElem?_getD, List.getElem?_eraseIdx, if_pos hlt]
      · rw [if_neg (fun q => by have := (ofN_le (i := w) (j := i) (by omega) (by omega)).1 q; omega)]
    · refine ⟨i + 1, by omega, ?_, fun q => absurd q hne, fun _ => ?_⟩
      · rw [List.getD_eq_getElem?_getD, List.getD_eq_getElem?_getD, List.getElem?_eraseIdx, if_neg hlt]
      · rw [if_pos ((ofN_le (by omega) (by omega)).2 (by omega)), ofN_s]
theorem drop_getD {Q : List Nat} {i : Nat} (hi : i < Q.length) : Q.drop i = Q.getD i 0 :: Q.drop (i + 1) := by
  rw [List.drop_eq_getElem_cons hi, List.getD_eq_getElem?_getD, List.getElem?_eq_getElem hi]
  rfl
theorem RwS_fr {S S1 : ms_S} {rb : List Nat} (h : RwS S rb) (o : ∀ b, b ≠ 76 → Eqc S S1 b) : RwS S1 rb := by
  unfold RwS at *
  rw [(o 73 (by decide)).1, (o 75 (by decide)).2.2.2.1]
  exact h
set_option maxHeartbeats 1000000 in
theorem waysL {rb Q : List Nat} {x1 : Int32} {g : Nat} {T : Int32} (hN : 20 ≤ N) (hg : g < 256) (hs : Sel rb Q x1) (hQ : Q.length ≤ 8) : ∀ k s n (all : Int32) (S : ms_S), k + s = 256 → k < n → RwS S rb → (∀ j, j < 256 → ms_A S 76 j ≠ 0 → popN g ≤ popN j) → all + sI (fun j => ms_A S 76 j * wgt Q g j) s k = T → ∃ S1, f49_L60 N (fun (x1 : Int32) (x2 : Int32) (x3 : Int32) (x4 : Int32) (x5 : Int32) => (mret x4)) n x1 (Int32.ofNat g) (Int32.ofNat Q.length) all (Int32.ofNat s) S = some (T, S1) ∧ ∀ b, b ≠ 76 → Eqc S S1 b := by
  have m255 : ∀ {x : Int32} {β : Type} {f' : Int32 → mM β} {S : ms_S}, mb (f255 N x) f' S = f' (pcE x) S := by intro x β f' S; simp only [mb, q255]
  intro k
  induction k with
  | zero =>
    intro s n all S hs' hn hrw hsup hT
    obtain ⟨n, rfl⟩ : ∃ q, n = q + 1 := ⟨n - 1, by omega⟩
    have e : s = 256 := by omega
    subst e
    refine ⟨S, ?_, fun _ _ => Eqc.rf⟩
    rw [f49_L60]
    simp only [mE]
    rw [if_pos (by decide)]
    rw [show sI (fun j => ms_A S 76 j * wgt Q g j) 256 0 = 0 from rfl] at hT
    have : all = T := by rw [← hT]; clear hT hsup hrw; grind
    rw [this]
  | succ k ih =>
    intro s n all S hs' hn hrw hsup hT
    obtain ⟨n, rfl⟩ : ∃ q, n = q + 1 := ⟨n - 1, by omega⟩
    have hsl : s < 256 := by omega
    have hge : ¬ Int32.ofNat s ≥ 256 := fun q => by have := (ofN_le (i := 256) (j := s) (by omega) (by omega)).1 q; omega
    have i1 : inR (Int32.ofNat s) 256 := ofN_inR (by omega) (by omega)
    have i2 := ofN_cl (i := s) (by omega)
    have hp1 := pop_le (t := s)
    have hp2 := pop_le (t := g)
    rw [show sI (fun j => ms_A S 76 j * wgt Q g j) s (k + 1) = ms_A S 76 s * wgt Q g s + sI (fun j => ms_A S 76 j * wgt Q g j) (s + 1) k from rfl] at hT
    have z0 : ∃ z, z = sI (fun j => ms_A S 76 j * wgt Q g j) (s + 1) k := ⟨_, rfl⟩
    obtain ⟨z, hz⟩ := z0
    have skip : ms_A S 76 s * wgt Q g s = 0 → ∃ S1, f49_L60 N (fun (x1 : Int32) (x2 : Int32) (x3 : Int32) (x4 : Int32) (x5 : Int32) => (mret x4)) n x1 (Int32.ofNat g) (Int32.ofNat Q.length) all (Int32.ofNat s + 1) S = some (T, S1) ∧ ∀ b, b ≠ 76 → Eqc S S1 b := by
      intro h0
      rw [ofN_s]
      refine ih (s + 1) n all S (by omega) (by omega) hrw hsup ?_
      rw [h0] at hT
      rw [← hT, ← hz]
      clear hT hz hsup hrw ih
      grind
    rw [f49_L60, if_neg hge]
    simp only [mE]
    rw [m255, m255, pop_e hsl, pop_e hg]
    simp only [mE, i1, i2]
    by_cases hw0 : ms_A S 76 s = 0
    · rw [if_pos hw0, if_pos hw0]
      exact skip (by rw [hw0]; clear hT hz hsup hrw ih; grind)
    · rw [if_neg hw0]
      have hpl := hsup s hsl hw0
      rw [ofN_sub hpl]
      by_cases hd : popN s - popN g = Q.length
      · rw [if_neg (fun q => q (by rw [hd])), ofN_s]
        refine ih (s + 1) n _ S (by omega) (by omega) hrw hsup ?_
        have hw : wgt Q g s = 1 := by
          unfold wgt
          rw [if_pos (by omega), hd, List.drop_length]
          rfl
        rw [hw] at hT
        rw [← hT, ← hz]
        generalize ms_A S 76 s = y
        clear hT hz hsup hrw ih
        grind
      · rw [if_pos (fun q => hd ((ofN_eq (by omega) (by omega)).1 q)), if_neg hw0]
        by_cases hge2 : Q.length ≤ popN s - popN g
        · rw [if_pos ((ofN_le (by omega) (by omega)).2 hge2)]
          refine skip ?_
          have hw : wgt Q g s = 0 := by unfold wgt; rw [if_neg (by omega)]
          rw [hw]
          generalize ms_A S 76 s = y
          clear hT hz hsup hrw ih
          grind
        · rw [if_neg (fun q => hge2 ((ofN_le (by omega) (by omega)).1 q))]
          have hdl : popN s - popN g < Q.length := by omega
          obtain ⟨row, r1, r2, r3, r4⟩ := Sel_row hrw.2.1 hs hdl
          obtain ⟨S1, e1, s1, u1, o1⟩ := q50 (N := N) (t := s) (row := row) (S := S) hN hsl hrw r1
          have m50 : ∀ {β : Type} {f' : Unit → mM β}, mb (f50 N (Int32.ofNat s) (Int32.ofNat row)) f' S = f' () S1 := by intro β f'; simp only [mb, e1]
          have key : ∃ S2, f49_L60 N (fun (x1 : Int32) (x2 : Int32) (x3 : Int32) (x4 : Int32) (x5 : Int32) => (mret x4)) n x1 (Int32.ofNat g) (Int32.ofNat Q.length) all (Int32.ofNat s + 1) S1 = some (T, S2) ∧ ∀ b, b ≠ 76 → Eqc S S2 b := by
            rw [ofN_s]
            obtain ⟨S2, e2, o2⟩ := ih (s + 1) n all S1 (by omega) (by omega) (RwS_fr hrw o1) (fun j hjl hj => by
              rcases u1 j hj with h | h
              · exact hsup j hjl h
              · omega) (by
              have h1 := s1 (wgt Q g)
              rw [show 255 - s = k by omega, ← hz] at h1
              rw [h1]
              have hw : wgt Q g s = sI (fun p => if Nat.testBit (rb.getD row 0) p = true ∧ Nat.testBit s p = false then wgt Q g (s ||| 2 ^ p) else 0) 0 8 := by
                unfold wgt
                rw [if_pos (by omega), drop_getD hdl]
                show Int32.ofNat (sR _ 0 8) = _
                rw [sI_of]
                refine sI_congr 8 0 (fun p _ hp => ?_)
                rw [r2]
                by_cases hc : Nat.testBit (Q.getD (popN s - popN g) 0) p = true ∧ Nat.testBit s p = false
                · obtain ⟨ps, _⟩ := pop_s hsl (show p < 8 by omega) hc.2
                  simp only [if_pos hc, ps]
                  rw [if_pos (by omega), show popN s + 1 - popN g = popN s - popN g + 1 by omega]
                  rfl
                · simp only [if_neg hc]
                  rfl
              rw [← hw, ← hT, ← hz]
              generalize ms_A S 76 s = y
              generalize wgt Q g s = y2
              clear hT hz hsup hrw ih h1 hw s1 u1 o1 e1 m50
              grind)
            exact ⟨S2, e2, fun b hb => (o1 b hb).tr (o2 b hb)⟩
          by_cases hx : x1 = -1
          · have e := r3 hx
            rw [if_pos hx, ← e, m50]
            exact key
          · have e := r4 hx
            rw [if_neg hx]
            by_cases hc : Int32.ofNat (popN s - popN g) ≥ x1
            · rw [if_pos hc] at e ⊢
              rw [← e, m50]
              exact key
            · rw [if_neg hc] at e ⊢
              rw [← e, m50]
              exact key
theorem clrL {g : Nat} {x1 x3 : Int32} {K : Int32 → Int32 → Int32 → Int32 → mM Int32} (hg : g < 256) : ∀ k i n (S : ms_S), k + i = 256 → k < n → (∀ j, j < i → ms_A S 76 j = if j = g then 1 else 0) → ∃ S1, f49_L22 N K n x1 (Int32.ofNat g) x3 (Int32.ofNat i) S = K x1 (Int32.ofNat g) x3 256 S1 ∧ (∀ j, j < 256 → ms_A S1 76 j = if j = g then 1 else 0) ∧ (∀ j, 256 ≤ j → ms_A S1 76 j = ms_A S 76 j) ∧ ∀ b, b ≠ 76 → Eqc S S1 b := by
  intro k
  induction k with
  | zero =>
    intro i n S hi hn hd
    obtain ⟨n, rfl⟩ : ∃ q, n = q + 1 := ⟨n - 1, by omega⟩
    have e : i = 256 := by omega
    subst e
    refine ⟨S, ?_, hd, fun _ _ => rfl, fun _ _ => Eqc.rf⟩
    rw [f49_L22]
    simp only [mE]
    rw [if_pos (by decide)]
    rfl
  | succ k ih =>
    intro i n S hi hn hd
    obtain ⟨n, rfl⟩ : ∃ q, n = q + 1 := ⟨n - 1, by omega⟩
    have hge : ¬ Int32.ofNat i ≥ 256 := fun q => by have := (ofN_le (i := 256) (j := i) (by omega) (by omega)).1 q; omega
    have i1 : inR (Int32.ofNat i) 256 := ofN_inR (by omega) (by omega)
    have i2 := ofN_cl (i := i) (by omega)
    have go : ∀ v : Int32, v = (if i = g then 1 else 0) → ∃ S1, f49_L22 N K n x1 (Int32.ofNat g) x3 (Int32.ofNat (i + 1)) (ms_setA S 76 i v) = K x1 (Int32.ofNat g) x3 256 S1 ∧ (∀ j, j < 256 → ms_A S1 76 j = if j = g then 1 else 0) ∧ (∀ j, 256 ≤ j → ms_A S1 76 j = ms_A S 76 j) ∧ ∀ b, b ≠ 76 → Eqc S S1 b := by
      intro v hv
      obtain ⟨S1, e1, r1, r2, o1⟩ := ih (i + 1) n (ms_setA S 76 i v) (by omega) (by omega) (fun j hj => by
        simp only [mG, true_and]
        by_cases e : j = i
        · rw [if_pos e, hv, e]
        · rw [if_neg e]; exact hd j (by omega))
      refine ⟨S1, e1, r1, fun j hj => ?_, fun b hb => (Eqc_A hb).tr (o1 b hb)⟩
      rw [r2 j hj]
      simp only [mG, true_and, if_neg (show ¬ j = i by omega)]
    rw [f49_L22]
    simp only [mE, if_neg hge]
    by_cases e : i = g
    · rw [if_neg (fun q => q (by rw [e]))]
      simp only [mE, i1, i2, ofN_s]
      exact go 1 (by rw [if_pos e])
    · rw [if_pos (fun q => e ((ofN_eq (by omega) (by omega)).1 q))]
      simp only [mE, i1, i2, ofN_s]
      exact go 0 (by rw [if_neg e])
theorem q49 {rb Q : List Nat} {x1 : Int32} {g : Nat} {S : ms_S} (hN : 300 ≤ N) (hg : g < 256) (hs : Sel rb Q x1) (hrw : RwS S rb) : ∃ S1, f49 N x1 (Int32.ofNat g) S = some (Int32.ofNat (cnt (RB Q) g), S1) ∧ ∀ b, b ≠ 76 → Eqc S S1 b := by
  have h8 := hrw.2.1
  have hQ : Q.length ≤ 8 ∧ (x1 = -1 → Q.length = rb.length) ∧ (x1 ≠ -1 → 1 ≤ rb.length ∧ Q.length = rb.length - 1) := by
    rcases hs with ⟨h1, rfl⟩ | ⟨w, rfl, hw, rfl⟩
    · exact ⟨h8, fun _ => rfl, fun q => absurd h1 q⟩
    · have hl : (rb.eraseIdx w).length = rb.length - 1 := List.length_eraseIdx_of_lt hw
      refine ⟨by omega, fun q => ?_, fun _ => ⟨by omega, hl⟩⟩
      have := i32_of w (by omega)
      clear hl
      grind
  obtain ⟨hQ8, hQ1, hQ2⟩ := hQ
  obtain ⟨S1, e1, r1, _, o1⟩ := clrL (N := N) (g := g) (x1 := x1) (x3 := Int32.ofNat Q.length) (K := fun (x1 : Int32) (x2 : Int32) (x3 : Int32) (x4 : Int32) => (f49_L60 N (fun (x1 : Int32) (x2 : Int32) (x3 : Int32) (x4 : Int32) (x5 : Int32) => (mret x4)) N x1 x2 x3 0 x2)) hg 256 0 N S (by omega) (by omega) (fun j hj => absurd hj (by omega))
  have hsum : (0 : Int32) + sI (fun j => ms_A S1 76 j * wgt Q g j) g (256 - g) = Int32.ofNat (cnt (RB Q) g) := by
    rw [show 256 - g = (255 - g) + 1 by omega]
    show (0 : Int32) + (ms_A S1 76 g * wgt Q g g + sI (fun j => ms_A S1 76 j * wgt Q g j) (g + 1) (255 - g)) = _
    rw [sI_zero (255 - g) (g + 1) (fun j h1 h2 => by
      show ms_A S1 76 j * wgt Q g j = 0
      rw [r1 j (by omega), if_neg (by omega)]
      generalize wgt Q g j = y
      clear e1 r1 o1 hrw hs
      grind), r1 g hg, if_pos rfl]
    have : wgt Q g g = Int32.ofNat (cnt (RB Q) g) := by
      unfold wgt
      rw [if_pos (by omega), Nat.sub_self, List.drop_zero]
    rw [this]
    generalize Int32.ofNat (cnt (RB Q) g) = y
    clear e1 r1 o1 hrw hs this
    grind
  obtain ⟨S2, e2, o2⟩ := waysL (N := N) (rb := rb) (Q := Q) (x1 := x1) (g := g) (by omega) hg hs hQ8 (256 - g) g N 0 S1 (by omega) (by omega) (RwS_fr hrw o1) (fun j hj h => by
    rw [r1 j hj] at h
    by_cases e : j = g
    · rw [e]; exact Nat.le_refl _
    · rw [if_neg e] at h; exact absurd rfl h) hsum
  refine ⟨S2, ?_, fun b hb => (o1 b hb).tr (o2 b hb)⟩
  unfold f49
  simp only [mE, hrw.1]
  by_cases hx : x1 = -1
  · rw [if_neg (fun q => q hx), ← hQ1 hx]
    exact e1.trans e2
  · obtain ⟨q1, q2⟩ := hQ2 hx
    rw [if_pos hx, show Int32.ofNat rb.length - 1 = Int32.ofNat Q.length by rw [q2, show (1 : Int32) = Int32.ofNat 1 from rfl, ofN_sub q1]]
    exact e1.trans e2
/-- the row of a sighting, place by place -/
theorem plcL {rb : List Nat} {r : Nat} {x1 : Int32} (hN : 300 ≤ N) (hr : r < rb.length) {K : Int32 → Int32 → Int32 → Int32 → mM Int32} : ∀ k i n (S : ms_S), k + i = 8 → k < n → RwS S rb → ms_A S 74 r = x1 → ∃ S1, f51_L15 N K n x1 (Int32.ofNat (bitsN (cdB (RB rb) r) i)) (Int32.ofNat r) (Int32.ofNat i) S = K x1 (Int32.ofNat (bitsN (cdB (RB rb) r) 8)) (Int32.ofNat r) 8 S1 ∧ ∀ b, b ≠ 76 → Eqc S S1 b := by
  intro k
  induction k with
  | zero =>
    intro i n S hi hn hrw h74
    obtain ⟨n, rfl⟩ : ∃ q, n = q + 1 := ⟨n - 1, by omega⟩
    have e : i = 8 := by omega
    subst e
    refine ⟨S, ?_, fun _ _ => Eqc.rf⟩
    rw [f51_L15]
    simp only [mE]
    rw [if_pos (by decide)]
    rfl
  | succ k ih =>
    intro i n S hi hn hrw h74
    obtain ⟨n, rfl⟩ : ∃ q, n = q + 1 := ⟨n - 1, by omega⟩
    have h8 := hrw.2.1
    obtain ⟨a75, a256⟩ := hrw.2.2 r hr
    have hge : ¬ Int32.ofNat i ≥ 8 := fun q => by have := (ofN_le (i := 8) (j := i) (by omega) (by omega)).1 q; omega
    have i1 : inR (Int32.ofNat r) 8 := ofN_inR (by omega) (by omega)
    have i2 := ofN_cl (i := r) (by omega)
    have hR : (RB rb)[r]? = some (Nat.testBit (rb.getD r 0)) := by
      unfold RB
      rw [List.getElem?_map, List.getElem?_eq_getElem hr, List.getD_eq_getElem?_getD, List.getElem?_eq_getElem hr]
      rfl
    have hE : (RB rb).eraseIdx r = RB (rb.eraseIdx r) := map_erase _ _
    have hcd : cdB (RB rb) r i = (Nat.testBit (rb.getD r 0) i && decide (0 < cnt (RB (rb.eraseIdx r)) (2 ^ i))) := by
      unfold cdB
      rw [hR, hE]
    have step : bitsN (cdB (RB rb) r) (i + 1) = bitsN (cdB (RB rb) r) i ||| (if cdB (RB rb) r i = true then 2 ^ i else 0) := rfl
    have skip : ∀ S' : ms_S, (∀ b, b ≠ 76 → Eqc S S' b) → cdB (RB rb) r i = false → ∃ S1, f51_L15 N K n x1 (Int32.ofNat (bitsN (cdB (RB rb) r) i)) (Int32.ofNat r) (Int32.ofNat i + 1) S' = K x1 (Int32.ofNat (bitsN (cdB (RB rb) r) 8)) (Int32.ofNat r) 8 S1 ∧ ∀ b, b ≠ 76 → Eqc S S1 b := by
      intro S' o h0
      rw [ofN_s]
      obtain ⟨S1, e1, o1⟩ := ih (i + 1) n S' (by omega) (by omega) (RwS_fr hrw o) (by rw [(o 74 (by decide)).2.2.2.1]; exact h74)
      rw [step, h0, if_neg (by decide), Nat.or_zero] at e1
      exact ⟨S1, e1, fun b hb => (o b hb).tr (o1 b hb)⟩
    rw [f51_L15]
    simp only [mE, if_neg hge, i1, i2, h74]
    rw [if_neg (fun q => q rfl)]
    simp only [mE, i1, i2, a75]
    by_cases hb : Nat.testBit (rb.getD r 0) i = true
    · rw [if_neg (fun q => by rw [(b_tst a256 (show i < 8 by omega)).1 q] at hb; cases hb)]
      obtain ⟨o1, o2, o3⟩ := b_one (show i < 8 by omega)
      rw [o1]
      obtain ⟨S1, e1, f1⟩ := q49 (N := N) (S := S) (rb := rb) (Q := rb.eraseIdx r) (x1 := Int32.ofNat r) (g := 2 ^ i) hN o2 (Or.inr ⟨r, rfl, hr, rfl⟩) hrw
      have m49 : ∀ {β : Type} {f' : Int32 → mM β}, mb (f49 N (Int32.ofNat r) (Int32.ofNat (2 ^ i))) f' S = f' (Int32.ofNat (cnt (RB (rb.eraseIdx r)) (2 ^ i))) S1 := by intro β f'; simp only [mb, e1]
      rw [m49]
      have hle := cnt_le (RB (rb.eraseIdx r)) (2 ^ i)
      have hl7 : (RB (rb.eraseIdx r)).length ≤ 7 := by
        unfold RB
        rw [List.length_map, List.length_eraseIdx_of_lt hr]
        omega
      have hp : 8 ^ (RB (rb.eraseIdx r)).length ≤ 8 ^ 7 := Nat.pow_le_pow_right (by omega) hl7
      have hb2 : cnt (RB (rb.eraseIdx r)) (2 ^ i) < 2147483648 := by
        have : (8 : Nat) ^ 7 < 2147483648 := by decide
        omega
      simp only [mE]
      by_cases h0 : cnt (RB (rb.eraseIdx r)) (2 ^ i) = 0
      · rw [h0, if_pos (by decide)]
        exact skip S1 f1 (by rw [hcd, h0]; simp)
      · rw [if_neg (fun q => by have := (ofN_le (j := 0) (by omega) (by omega)).1 q; omega)]
        have hc : cdB (RB rb) r i = true := by rw [hcd, hb, decide_eq_true (by omega)]; rfl
        rw [← o1, (b_set (bitsN_lt8 (by omega)) (show i < 8 by omega)).1, ofN_s]
        obtain ⟨S2, e2, f2⟩ := ih (i + 1) n S1 (by omega) (by omega) (RwS_fr hrw f1) (by rw [(f1 74 (by decide)).2.2.2.1]; exact h74)
        rw [step, if_pos hc] at e2
        exact ⟨S2, e2, fun b hb => (f1 b hb).tr (f2 b hb)⟩
    · have hb0 : Nat.testBit (rb.getD r 0) i = false := by cases h : Nat.testBit (rb.getD r 0) i with | true => exact absurd h hb | false => rfl
      rw [if_pos ((b_tst a256 (show i < 8 by omega)).2 hb0)]
      exact skip S (fun _ _ => Eqc.rf) (by rw [hcd, hb0]; rfl)
theorem q51 {rb : List Nat} {r : Nat} {x1 : Int32} {S : ms_S} (hN : 300 ≤ N) (hrw : RwS S rb) (hr : r < rb.length) (h74 : ∀ i, i < rb.length → (ms_A S 74 i = x1 ↔ i = r)) : ∃ S1, f51 N x1 S = some (Int32.ofNat (bitsN (cdB (RB rb) r) 8), S1) ∧ ∀ b, b ≠ 76 → Eqc S S1 b := by
  have h8 := hrw.2.1
  have L : ∀ k i n (S' : ms_S), k + i = rb.length → k < n → (∀ b, b ≠ 76 → Eqc S S' b) → ∃ S1, f51_L4 N (fun (x1 : Int32) (x2 : Int32) (x3 : Int32) => (mret x2)) n x1 (Int32.ofNat (if i ≤ r then 0 else bitsN (cdB (RB rb) r) 8)) (Int32.ofNat i) S' = some (Int32.ofNat (bitsN (cdB (RB rb) r) 8), S1) ∧ ∀ b, b ≠ 76 → Eqc S S1 b := by
    intro k
    induction k with
    | zero =>
      intro i n S' hi hn o
      obtain ⟨n, rfl⟩ : ∃ q, n = q + 1 := ⟨n - 1, by omega⟩
      refine ⟨S', ?_, o⟩
      rw [f51_L4]
      simp only [mE, (o 73 (by decide)).1, hrw.1]
      rw [if_pos ((ofN_le (by omega) (by omega)).2 (by omega)), if_neg (by omega)]
    | succ k ih =>
      intro i n S' hi hn o
      obtain ⟨n, rfl⟩ : ∃ q, n = q + 1 := ⟨n - 1, by omega⟩
      have i1 : inR (Int32.ofNat i) 8 := ofN_inR (by omega) (by omega)
      have i2 := ofN_cl (i := i) (by omega)
      rw [f51_L4]
      simp only [mE, (o 73 (by decide)).1, hrw.1]
      rw [if_neg (fun q => by have := (ofN_le (i := rb.length) (j := i) (by omega) (by omega)).1 q; omega)]
      by_cases e : i = r
      · subst e
        rw [if_pos (Nat.le_refl _)]
        obtain ⟨S1, e1, o1⟩ := plcL (N := N) (rb := rb) (r := i) (x1 := x1) (K := fun (x1 : Int32) (x2 : Int32) (x3 : Int32) (x4 : Int32) => (f51_L4 N (fun (x1 : Int32) (x2 : Int32) (x3 : Int32) => (mret x2)) n x1 x2 (x3 + 1))) hN hr 8 0 N S' (by omega) (by omega) (RwS_fr hrw o) (by rw [(o 74 (by decide)).2.2.2.1]; exact (h74 i hr).2 rfl)
        obtain ⟨S2, e2, o2⟩ := ih (i + 1) n S1 (by omega) (by omega) (fun b hb => (o b hb).tr (o1 b hb))
        rw [if_neg (by omega)] at e2
        refine ⟨S2, e1.trans ?_, o2⟩
        rw [ofN_s]
        exact e2
      · obtain ⟨S2, e2, o2⟩ := ih (i + 1) n S' (by omega) (by omega) o
        refine ⟨S2, ?_, o2⟩
        have hne : ms_A S' 74 i ≠ x1 := by rw [(o 74 (by decide)).2.2.2.1]; exact fun q => e ((h74 i (by omega)).1 q)
        obtain ⟨n', hn'⟩ : ∃ q, N = q + 1 := ⟨N - 1, by omega⟩
        have e3 : ∀ (K : Int32 → Int32 → Int32 → Int32 → mM Int32) (x2 : Int32), f51_L15 N K N x1 x2 (Int32.ofNat i) 0 S' = K x1 x2 (Int32.ofNat i) 0 S' := by
          intro K x2
          have : f51_L15 N K (n' + 1) x1 x2 (Int32.ofNat i) 0 S' = K x1 x2 (Int32.ofNat i) 0 S' := by
            rw [f51_L15]
            simp only [mE, i1, i2]
            rw [if_neg (by decide), if_pos hne]
          rw [← hn'] at this
          exact this
        rw [e3, ofN_s]
        rw [show (if i + 1 ≤ r then 0 else bitsN (cdB (RB rb) r) 8) = (if i ≤ r then 0 else bitsN (cdB (RB rb) r) 8) by
          by_cases h : i ≤ r
          · rw [if_pos h, if_pos (by omega)]
          · rw [if_neg h, if_neg (by omega)]] at e2
        exact e2
  have := L rb.length 0 N S (by omega) (by omega) (fun _ _ => Eqc.rf)
  rw [if_pos (Nat.zero_le _)] at this
  exact this
end WAY
