/-! takeDay, arrange, openPlan, plan and goes: the class -/
/-- rows of a day's passages -/
def RwC (S : ms_S) (A : Ab) (L : List Nat) : Prop := ms_I S 64 6 = Int32.ofNat L.length ∧ ∀ p, p < L.length → ms_A S 65 p = Int32.ofNat (L.getD p 0) ∧ ms_A S 66 p = aX A 22 (L.getD p 0) ∧ ms_A S 67 p = Int32.ofNat (rdA A (L.getD p 0)) ∧ ms_A S 68 p = Int32.ofNat (thA A (L.getD p 0)) ∧ ms_A S 69 p = 0 ∧ ms_A S 70 p = Int32.ofNat p
def offT (S S1 : ms_S) : Prop := (∀ j, j ≠ 4 → j ≠ 6 → ms_I S1 64 j = ms_I S 64 j) ∧ ∀ b, ¬ (64 ≤ b ∧ b ≤ 70) → Eqc S S1 b
theorem getD_app {l : List Nat} {x p : Nat} : (l ++ [x]).getD p 0 = if p < l.length then l.getD p 0 else if p = l.length then x else 0 := by
  rw [List.getD_eq_getElem?_getD, List.getD_eq_getElem?_getD]
  by_cases h : p < l.length
  · rw [if_pos h, List.getElem?_append_left h]
  · rw [if_neg h, List.getElem?_append_right (by omega)]
    by_cases e : p = l.length
    · rw [if_pos e, e]; simp
    · rw [if_neg e, List.getElem?_eq_none (by simp; omega)]; rfl
section PLC
variable {N : Nat} {A : Ab}
set_option maxHeartbeats 1000000 in
theorem takeL {a s : Nat} {k d gv : Int32} (hN : 300 ≤ N) (hw : WF0 A) (oa : o_st a) (hgv : gv = if gF A = -1 then 0 else 1) : ∀ m i n (S : ms_S), m + i = aN A 4 → m < n → cBase S A → CLk S A s k → cStrAt S A a → ms_I S a 9 = gF A → ms_I S a 10 = gT A → ms_I S 64 1 = d → ms_I S 64 4 = gv → RwC S A (dayL A s k d i) → ∃ S1, f61_L17 N a (fun _ => mret ()) n (Int32.ofNat i) S = some ((), S1) ∧ RwC S1 A (dayN8 A s k d) ∧ ms_I S1 64 4 = gv ∧ offT S S1 := by
  have hn3 : aN A 3 ≤ 20 := hw.1.2.2.2.1
  have hn4 : aN A 4 ≤ 200 := hw.1.2.2.2.2.1
  intro m
  induction m with
  | zero =>
    intro i n S hi hn h hk hst h9 h10 hd h4 hr
    obtain ⟨n, rfl⟩ : ∃ q, n = q + 1 := ⟨n - 1, by omega⟩
    have e : i = aN A 4 := by omega
    subst e
    refine ⟨S, ?_, hr, h4, ⟨fun _ _ _ => rfl, fun _ _ => Eqc.rf⟩⟩
    rw [f61_L17]
    simp only [mE, h.2.2.2.2.1.1]
    rw [if_pos ((ofN_le (by omega) (by omega)).2 (Nat.le_refl _))]
  | succ m ih =>
    intro i n S hi hn h hk hst h9 h10 hd h4 hr
    obtain ⟨n, rfl⟩ : ∃ q, n = q + 1 := ⟨n - 1, by omega⟩
    have hil : i < aN A 4 := by omega
    have hge : ¬ Int32.ofNat i ≥ Int32.ofNat (aN A 4) := fun q => by have := (ofN_le (i := aN A 4) (j := i) (by omega) (by omega)).1 q; omega
    have i1 : inR (Int32.ofNat i) 200 := ofN_inR (by omega) (by omega)
    have i2 := ofN_cl (i := i) (by omega)
    have hlen8 := dayL_len (A := A) (s := s) (k := k) (d := d) i
    have r6 := hr.1
    obtain ⟨g1, g2, g3, _⟩ := h.2.2.2.2.1.2 i hil
    have g1 : ms_A S 41 i = aX A 20 i := g1
    have g2 : ms_A S 42 i = aX A 21 i := g2
    have g3 : ms_A S 43 i = aX A 22 i := g3
    have a59 : ms_A S 59 i = rsnA A s k i := (hk.2.2.2.2.1 i (by omega)).1
    rw [f61_L17]
    simp only [mE, h.2.2.2.2.1.1, if_neg hge, r6]
    by_cases h8 : (dayL A s k d i).length < 8
    · rw [if_neg (fun q => by have := (ofN_le (i := 8) (j := (dayL A s k d i).length) (by omega) (by omega)).1 q; omega)]
      simp only [mE, i1, i2, a59]
      have skip : ¬ dayP A s k d i = true → ∃ S1, f61_L17 N a (fun _ => mret ()) n (Int32.ofNat i + 1) S = some ((), S1) ∧ RwC S1 A (dayN8 A s k d) ∧ ms_I S1 64 4 = gv ∧ offT S S1 := by
        intro hno
        rw [ofN_s]
        refine ih (i + 1) n S (by omega) (by omega) h hk hst h9 h10 hd h4 ?_
        rw [show dayL A s k d (i + 1) = dayL A s k d i from if_neg (fun q => hno q.2)]
        exact hr
      by_cases hr0 : rsnA A s k i = 0
      · rw [if_neg (fun q => q hr0)]
        simp only [mE, i1, i2, g1, hd]
        by_cases hdd : aX A 20 i = d
        · rw [if_neg (fun q => q hdd)]
          have hdp : dayP A s k d i = true := decide_eq_true ⟨hr0, hdd⟩
          have hps := dayP_ps hw hdp
          obtain ⟨hsl, hse⟩ := shO_lt hw hil hps
          have wn := (hw.2.2.2.2.2.2.1 i hil).2.2.1
          generalize hc : (dayL A s k d i).length = c at *
          have c1 : inR (Int32.ofNat c) 8 := ofN_inR (by omega) (by omega)
          have c2 := ofN_cl (i := c) (by omega)
          have s1 : inR (Int32.ofNat (shO A i)) 20 := ofN_inR (by omega) (by omega)
          have s2 := ofN_cl (i := shO A i) (by omega)
          obtain ⟨t1, t2, t3⟩ := h.2.2.2.1
          simp only [mE, i1, i2, g2, hse]
          rw [ElQo s1 (by rw [s2]; exact t2 _ (by omega)) (isSh_o (by omega))]
          have X0 : ∃ X, X = ms_setA (ms_setA S 65 c (Int32.ofNat i)) 66 c (aX A 22 i) := ⟨_, rfl⟩
          obtain ⟨X, hX⟩ := X0
          have oX : ∀ b, b ≠ 65 → b ≠ 66 → Eqc S X b := fun b h1 h2 => by rw [hX]; exact (Eqc_A h1).tr (Eqc_A h2)
          have x66 : ms_A X 66 c = aX A 22 i := by rw [hX]; simp [mG]
          have e43 : ms_A (ms_setA S 65 c (Int32.ofNat i)) 43 i = aX A 22 i := by rw [(Eqc_A (by decide)).2.2.2.1]; exact g3
          have xI : ms_I X 64 = ms_I S 64 := (oX 64 (by decide) (by decide)).1
          have j6 : ms_I (ms_setA S 65 c (Int32.ofNat i)) 64 6 = Int32.ofNat c := by simp only [mGo]; exact r6
          simp only [mE, r6, c1, c2, j6, i1, i2, e43, vpb wn]
          rw [← hX]
          simp only [mE, xI, r6, h4]
          -- the rest, with its minutes
          have rest : ∀ (v1 v2 : Nat), v1 = rdA A i → v2 = thA A i → ∀ Y, Y = ms_setI (ms_setA (ms_setA (ms_setA (ms_setA X 67 c (Int32.ofNat v1)) 68 c (Int32.ofNat v2)) 69 c 0) 70 c (Int32.ofNat c)) 64 6 (Int32.ofNat (c + 1)) → ∃ S1, f61_L17 N a (fun _ => mret ()) n (Int32.ofNat (i + 1)) Y = some ((), S1) ∧ RwC S1 A (dayN8 A s k d) ∧ ms_I S1 64 4 = gv ∧ offT S S1 := by
            intro v1 v2 ev1 ev2 Y hY
            have oY : ∀ b, ¬ (64 ≤ b ∧ b ≤ 70) → Eqc S Y b := fun b hb => by rw [hY]; exact (oX b (by omega) (by omega)).tr (((((Eqc_A (by omega)).tr (Eqc_A (by omega))).tr (Eqc_A (by omega))).tr (Eqc_A (by omega))).tr (Eqc_I (by omega)))
            have yI : ∀ j, j ≠ 6 → ms_I Y 64 j = ms_I S 64 j := fun j hj => by rw [hY]; simp only [mG, true_and, if_neg hj, mGo, xI]
            obtain ⟨S1, e1, r1, k1, o1⟩ := ih (i + 1) n Y (by omega) (by omega) (cBase_led h hn3 (fun b hb => oY b (by omega))) (CLk_fr hk (fun j _ => by rw [(oY 57 (by omega)).1]) (by rw [(oY 57 (by omega)).2.2.1]) (fun b h1 h2 => (oY b (by omega)).2.2.2.1)) (cStrAt_fr hst (fun b h1 h2 => oY b (by rcases oa with rfl | rfl <;> omega))) (by rw [(oY a (by rcases oa with rfl | rfl <;> omega)).1]; exact h9) (by rw [(oY a (by rcases oa with rfl | rfl <;> omega)).1]; exact h10) (by rw [yI 1 (by decide)]; exact hd) (by rw [yI 4 (by decide)]; exact h4) (by
              rw [show dayL A s k d (i + 1) = dayL A s k d i ++ [i] from if_pos ⟨by omega, hdp⟩]
              refine ⟨?_, fun p hp => ?_⟩
              · rw [hY]; simp [mG, hc]
              · have hp : p < c + 1 := by simpa [hc] using hp
                rw [getD_app, hc]
                by_cases e : p = c
                · subst e
                  rw [if_neg (by omega), if_pos rfl, hY, ← ev1, ← ev2]
                  refine ⟨?_, ?_, ?_, ?_, ?_, ?_⟩
                  · simp [mG, mGo]; rw [hX]; simp [mG]
                  · simp [mG, mGo]; exact x66
                  · simp [mG, mGo]
                  · simp [mG, mGo]
                  · simp [mG, mGo]
                  · simp [mG, mGo]
                · rw [if_pos (by omega), hY]
                  obtain ⟨b1, b2, b3, b4, b5, b6⟩ := hr.2 p (by omega)
                  simp only [mG, mGo, e, and_false, if_false]
                  rw [hX]
                  simp only [mG, e, and_false, if_false]
                  exact ⟨b1, b2, b3, b4, b5, b6⟩)
            exact ⟨S1, e1, r1, k1, ⟨fun j h1 h2 => (o1.1 j h1 h2).trans (yI j h2), fun b hb => (oY b hb).tr (o1.2 b hb)⟩⟩
          by_cases hg : gF A = -1
          · have er : rdA A i = 0 := if_pos hg
            have et : thA A i = 0 := if_pos hg
            have g0 : gv = 0 := by rw [hgv, if_pos hg]
            rw [if_pos g0]
            have z6 : ms_I (ms_setA X 67 c 0) 64 6 = Int32.ofNat c := by simp only [mGo, xI]; exact r6
            have z4 : ms_I (ms_setA X 67 c 0) 64 4 = gv := by simp only [mGo, xI]; exact h4
            simp only [mE, c1, c2, z6, z4, mGo, xI, r6]
            rw [if_pos g0, ofN_s, ofN_s]
            exact rest 0 0 er.symm et.symm _ rfl
          · have g1 : gv ≠ 0 := by rw [hgv, if_neg hg]; decide
            rw [if_neg g1]
            have hlenX : ms_I X (111 + shO A i) 2 = aX A 12 (shO A i) := by rw [(oX (111 + shO A i) (by omega) (by omega)).1]; exact (t3 _ hsl).1 2 (by omega)
            obtain ⟨e80, _⟩ := q80 (N := N) (S := X) (A := A) (a := a) (f := i) (by omega) hw (cStrAt_fr hst (fun b h1 h2 => oX b (by rcases oa with rfl | rfl <;> omega) (by rcases oa with rfl | rfl <;> omega))) (by rw [(oX a (by rcases oa with rfl | rfl <;> omega) (by rcases oa with rfl | rfl <;> omega)).1]; exact h9) (by rw [(oX a (by rcases oa with rfl | rfl <;> omega) (by rcases oa with rfl | rfl <;> omega)).1]; exact h10) hil hps hlenX hg
            have m80 : ∀ {β : Type} {f' : Int32 → mM β}, mb (f80 N a (111 + shO A i) (aX A 22 i)) f' X = f' (Int32.ofNat (rdA A i)) X := by intro β f'; simp only [mb, e80]
            simp only [mE, xI, r6, c1, c2, x66]
            rw [m80]
            have Z0 : ∃ Z, Z = ms_setA X 67 c (Int32.ofNat (rdA A i)) := ⟨_, rfl⟩
            obtain ⟨Z, hZ⟩ := Z0
            have oZ : ∀ b, b ≠ 67 → Eqc X Z b := fun b h1 => by rw [hZ]; exact Eqc_A h1
            have oXZ : ∀ b, b ≠ 65 → b ≠ 66 → b ≠ 67 → Eqc S Z b := fun b h1 h2 h3 => (oX b h1 h2).tr (oZ b h3)
            have z6 : ms_I Z 64 6 = Int32.ofNat c := by rw [(oXZ 64 (by decide) (by decide) (by decide)).1]; exact r6
            have z4 : ms_I Z 64 4 = gv := by rw [(oXZ 64 (by decide) (by decide) (by decide)).1]; exact h4
            have z66 : ms_A Z 66 c = aX A 22 i := by rw [(oZ 66 (by decide)).2.2.2.1]; exact x66
            obtain ⟨_, e81⟩ := q80 (N := N) (S := Z) (A := A) (a := a) (f := i) (by omega) hw (cStrAt_fr hst (fun b h1 h2 => oXZ b (by rcases oa with rfl | rfl <;> omega) (by rcases oa with rfl | rfl <;> omega) (by rcases oa with rfl | rfl <;> omega))) (by rw [(oXZ a (by rcases oa with rfl | rfl <;> omega) (by rcases oa with rfl | rfl <;> omega) (by rcases oa with rfl | rfl <;> omega)).1]; exact h9) (by rw [(oXZ a (by rcases oa with rfl | rfl <;> omega) (by rcases oa with rfl | rfl <;> omega) (by rcases oa with rfl | rfl <;> omega)).1]; exact h10) hil hps (by rw [(oZ (111 + shO A i) (by omega)).1]; exact hlenX) hg
            have m81 : ∀ {β : Type} {f' : Int32 → mM β}, mb (f81 N a (111 + shO A i) (aX A 22 i)) f' Z = f' (Int32.ofNat (thA A i)) Z := by intro β f'; simp only [mb, e81]
            simp only [mE, c1, c2]
            rw [← hZ]
            simp only [mE, z6, z4, c1, c2, z66]
            rw [if_neg g1, m81]
            simp only [mE, c1, c2, mGo, z6]
            rw [ofN_s, ofN_s]
            exact rest (rdA A i) (thA A i) rfl rfl _ (by rw [hZ])
        · rw [if_pos hdd]
          exact skip (fun q => hdd (of_decide_eq_true q).2)
      · rw [if_pos hr0]
        exact skip (fun q => hr0 (of_decide_eq_true q).1)
    · rw [if_pos (show Int32.ofNat (dayL A s k d i).length ≥ 8 from (ofN_le (i := 8) (j := (dayL A s k d i).length) (by omega) (by omega)).2 (by omega))]
      refine ⟨S, rfl, ?_, h4, ⟨fun _ _ _ => rfl, fun _ _ => Eqc.rf⟩⟩
      have := dayL_full (A := A) (s := s) (k := k) (d := d) (i := i) (by omega) (aN A 4 - i)
      rw [show i + (aN A 4 - i) = aN A 4 by omega] at this
      unfold dayN8
      rw [this]
      exact hr
end PLC
