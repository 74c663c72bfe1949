/-! expressions: the class -/
def RC (S : ms_S) (a st : Nat) (kl : Bool) (kn ln : List (List Int32)) : Prop := ms_R S 38 0 = some 6 ∧ ms_R S 38 1 = some st ∧ ms_R S 38 2 = some a ∧ (∃ m, m ≤ 512 ∧ ms_I S a 1 = Int32.ofNat m) ∧ ms_I S a 5 = Int32.ofNat kn.length ∧ NLc S (a + 2) kn ∧ ms_I S st 7 = Int32.ofNat ln.length ∧ NLc S (st + 5) ln ∧ ms_I S 38 4 = (if kl = true then 1 else 0) ∧ ∃ u, u ≤ 100 ∧ ms_I S 38 3 = Int32.ofNat u
def CE (S : ms_S) (a c0 : Nat) (as0 : Int32) (kl : Bool) (q : Px) : Prop := ms_I S a 1 = Int32.ofNat (c0 + q.2.1.length) ∧ (∀ j, j < q.2.1.length → ms_A S (a + 1) (c0 + j) = enc (q.2.1.getD j (0, 0))) ∧ ms_I S 38 3 = Int32.ofNat q.2.2 ∧ ms_I S a 6 = if kl = true then as0 ||| askOf q.2.1 else as0
def offE (a : Nat) (S S1 : ms_S) : Prop := (∀ j, ¬ (5 ≤ j ∧ j ≤ 7) → ms_I S1 6 j = ms_I S 6 j) ∧ (∀ j, j ≠ 3 → ms_I S1 38 j = ms_I S 38 j) ∧ ms_R S1 38 = ms_R S 38 ∧ (∀ j, j ≠ 1 → j ≠ 6 → ms_I S1 a j = ms_I S a j) ∧ (∀ b, b ≠ 6 → b ≠ 38 → b ≠ a → b ≠ a + 1 → Eqc S S1 b) ∧ (∀ m, m ≤ 512 → ms_I S a 1 = Int32.ofNat m → ∃ m', m ≤ m' ∧ m' ≤ 512 ∧ ms_I S1 a 1 = Int32.ofNat m' ∧ ∀ i, i < m → ms_A S1 (a + 1) i = ms_A S (a + 1) i)
theorem offE.rf {a : Nat} {S : ms_S} : offE a S S := ⟨fun _ _ => rfl, fun _ _ => rfl, rfl, fun _ _ _ => rfl, fun _ _ _ _ _ => Eqc.rf, fun m hm h => ⟨m, Nat.le_refl _, hm, h, fun _ _ => rfl⟩⟩
theorem offE.tr {a : Nat} {S S1 S2 : ms_S} (h : offE a S S1) (q : offE a S1 S2) : offE a S S2 := by
  obtain ⟨h1, h2, h3, h4, h5, h6⟩ := h
  obtain ⟨q1, q2, q3, q4, q5, q6⟩ := q
  refine ⟨fun j hj => (q1 j hj).trans (h1 j hj), fun j hj => (q2 j hj).trans (h2 j hj), q3.trans h3, fun j a1 a2 => (q4 j a1 a2).trans (h4 j a1 a2), fun b a1 a2 a3 a4 => (h5 b a1 a2 a3 a4).tr (q5 b a1 a2 a3 a4), fun m hm hI => ?_⟩
  obtain ⟨m1, l1, l2, e1, p1⟩ := h6 m hm hI
  obtain ⟨m2, l3, l4, e2, p2⟩ := q6 m1 l2 e1
  exact ⟨m2, by omega, l4, e2, fun i hi => (p2 i (by omega)).trans (p1 i hi)⟩
theorem offX.e {a : Nat} (ha : a ≠ 6) (ha1 : a + 1 ≠ 6) {S S1 : ms_S} (h : offX S S1) : offE a S S1 := ⟨h.1, fun j _ => by rw [(h.2 38 (by decide)).1], by rw [(h.2 38 (by decide)).2.2.1], fun j _ _ => by rw [(h.2 a ha).1], fun b h1 _ _ _ => h.2 b h1, fun m hm hI => ⟨m, Nat.le_refl _, hm, by rw [(h.2 a ha).1]; exact hI, fun i _ => by rw [(h.2 (a + 1) ha1).2.2.2.1]⟩⟩
section EXC
variable {N : Nat} {X : Nat → Int32} {L : Nat} {a st c0 : Nat} {as0 : Int32} {kl : Bool} {kn ln : List (List Int32)}
theorem RC_off {S S1 : ms_S} (oa : o_cv a) (ost : o_st st) (h : RC S a st kl kn ln) (o : offE a S S1) (hu : ∃ u, u ≤ 100 ∧ ms_I S1 38 3 = Int32.ofNat u) : RC S1 a st kl kn ln := by
  obtain ⟨h0, h1, h2, ⟨m, hm, h3⟩, h4, h5, h6, h7, h8, _⟩ := h
  obtain ⟨o1, o2, o3, o4, o5, o6⟩ := o
  obtain ⟨m', l1, l2, e1, _⟩ := o6 m hm h3
  have hst : st ≠ 6 ∧ st ≠ 38 ∧ st ≠ a ∧ st ≠ a + 1 ∧ st + 5 ≠ 6 ∧ st + 5 ≠ 38 ∧ st + 5 ≠ a ∧ st + 5 ≠ a + 1 := by
    rcases ost with rfl | rfl <;> rcases oa with rfl | rfl | rfl | rfl | rfl <;> decide
  have ha2 : a + 2 ≠ 6 ∧ a + 2 ≠ 38 := by rcases oa with rfl | rfl | rfl | rfl | rfl <;> decide
  refine ⟨by rw [o3]; exact h0, by rw [o3]; exact h1, by rw [o3]; exact h2, ⟨m', l2, e1⟩, by rw [o4 5 (by decide) (by decide)]; exact h4, fun i hi => by rw [(o5 (a + 2) ha2.1 ha2.2 (by omega) (by omega)).2.2.2.2.1]; exact h5 i hi, by rw [(o5 st hst.1 hst.2.1 hst.2.2.1 hst.2.2.2.1).1]; exact h6, fun i hi => by rw [(o5 (st + 5) hst.2.2.2.2.1 hst.2.2.2.2.2.1 hst.2.2.2.2.2.2.1 hst.2.2.2.2.2.2.2).2.2.2.2.1]; exact h7 i hi, by rw [o2 4 (by decide)]; exact h8, hu⟩
/-- a code more -/
theorem q2 {S : ms_S} {ty : Nat} {v : Int32} {σ : Sg} (oa : o_cv a) (h : CS S X L σ) (hm : ∃ m, m ≤ 512 ∧ ms_I S a 1 = Int32.ofNat m) : ∃ S1, f2 N a (Int32.ofNat ty) v S = some ((), S1) ∧ CS S1 X L σ ∧ offE a S S1 ∧ ms_I S1 38 = ms_I S 38 ∧ ms_I S1 a 6 = ms_I S a 6 ∧ (∀ m, m < 512 → ms_I S a 1 = Int32.ofNat m → ms_I S1 a 1 = Int32.ofNat (m + 1) ∧ ms_A S1 (a + 1) m = enc (ty, v)) := by
  obtain ⟨m, hm, hI⟩ := hm
  have ha : a ≠ 6 ∧ a + 1 ≠ 6 ∧ a + 1 ≠ 8 ∧ a + 1 ≠ 9 ∧ a ≠ 38 ∧ a + 1 ≠ 38 := by rcases oa with rfl | rfl | rfl | rfl | rfl <;> decide
  unfold f2
  simp only [mE, hI]
  by_cases hfull : m = 512
  · have hge : Int32.ofNat m ≥ 512 := (ofN_le (i := 512) (by omega) (by omega)).2 (by omega)
    rw [if_pos hge]
    refine ⟨S, rfl, h, offE.rf, rfl, rfl, fun m' hm' hI' => ?_⟩
    have := (ofN_eq (i := m) (j := m') (by omega) (by omega)).1 hI'
    omega
  · rw [if_neg (fun q => by have := (ofN_le (i := 512) (j := m) (by omega) (by omega)).1 q; omega)]
    have i1 : inR (Int32.ofNat m) 512 := ofN_inR (by omega) (by omega)
    have i2 := ofN_cl (i := m) (by omega)
    have hI2 : ms_I (ms_setA S (a + 1) m (Int32.ofNat ty + v * 256)) a 1 = Int32.ofNat m := by simp only [mGo]; exact hI
    simp only [mE, i1, i2, hI2, ofN_s]
    have Y0 : ∃ Y, Y = ms_setI (ms_setA S (a + 1) m (Int32.ofNat ty + v * 256)) a 1 (Int32.ofNat (m + 1)) := ⟨_, rfl⟩
    obtain ⟨Y, hY⟩ := Y0
    have yI : ∀ b j, ¬ (b = a ∧ j = 1) → ms_I Y b j = ms_I S b j := fun b j hbj => by rw [hY]; simp only [mG]; rw [if_neg hbj]; simp only [mGo]
    have yA : ∀ i, ms_A Y (a + 1) i = if i = m then Int32.ofNat ty + v * 256 else ms_A S (a + 1) i := fun i => by rw [hY]; simp only [mGo]; simp only [mG, true_and]
    refine ⟨Y, by rw [hY], by rw [hY]; exact CS_I (CS_A h ha.2.2.1 ha.2.2.2.1) ha.1, ⟨fun j _ => yI 6 j (fun q => ha.1 q.1.symm), fun j _ => yI 38 j (fun q => ha.2.2.2.2.1 q.1.symm), by rw [hY]; simp only [mGo], fun j h1 _ => yI a j (fun q => h1 q.2), fun b h1 h2 h3 h4 => by rw [hY]; exact (Eqc_A h4).tr (Eqc_I h3), fun m' hm' hI' => ?_⟩, ?_, yI a 6 (by omega), fun m' hm' hI' => ?_⟩
    · rw [hI] at hI'
      have := (ofN_eq (i := m) (j := m') (by omega) (by omega)).1 hI'
      subst this
      refine ⟨m + 1, by omega, by omega, by rw [hY]; simp [mG], fun i hi => ?_⟩
      rw [yA i, if_neg (by omega)]
    · funext j; exact yI 38 j (fun q => ha.2.2.2.2.1 q.1.symm)
    · have := (ofN_eq (i := m) (j := m') (by omega) (by omega)).1 hI'
      subst this
      exact ⟨by rw [hY]; simp [mG], by rw [yA m, if_pos rfl]; rfl⟩
theorem askOf_app {l : List (Nat × Int32)} {c : Nat × Int32} : askOf (l ++ [c]) = if 100 ≤ c.1 ∧ c.1 < 111 then askOf l ||| (1 <<< Int32.ofNat (c.1 - 100)) else askOf l := by unfold askOf; rw [List.foldl_append]; rfl
/-- content behind a code more -/
theorem CE_app {S S1 : ms_S} {q : Px} {c : Nat × Int32} {σ' : Sg} {u' : Nat} (h : CE S a c0 as0 kl q) (ho : offE a S S1) (hlen : c0 + q.2.1.length < 512) (hI : ms_I S1 a 1 = Int32.ofNat (c0 + q.2.1.length + 1)) (hA : ms_A S1 (a + 1) (c0 + q.2.1.length) = enc c) (hu : ms_I S1 38 3 = Int32.ofNat u') (h6 : ms_I S1 a 6 = if kl = true then as0 ||| askOf (q.2.1 ++ [c]) else as0) : CE S1 a c0 as0 kl (σ', q.2.1 ++ [c], u') := by
  obtain ⟨h1, h2, h3, h4⟩ := h
  obtain ⟨_, _, _, _, p⟩ := ho.2.2.2.2.2 (c0 + q.2.1.length) (by omega) h1
  refine ⟨?_, fun j hj => ?_, hu, h6⟩
  · rw [hI]
    show _ = Int32.ofNat (c0 + (q.2.1 ++ [c]).length)
    rw [List.length_append]
    rfl
  · have hj : j < (q.2.1 ++ [c]).length := hj
    rw [List.length_append] at hj
    have hj : j < q.2.1.length + 1 := hj
    show ms_A S1 (a + 1) (c0 + j) = enc ((q.2.1 ++ [c]).getD j (0, 0))
    rw [getD_snoc]
    by_cases e : j = q.2.1.length
    · rw [e, if_neg (Nat.lt_irrefl _), if_pos rfl]; exact hA
    · rw [if_pos (show j < q.2.1.length by omega), p (c0 + j) (by omega)]
      exact h2 j (by omega)
end EXC
