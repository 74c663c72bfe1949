/-! ship -/
def okShip (A : Ab) (v : Nat → Int32) : Bool := decide (((0 ≤ v 0 ∧ v 0 ≤ Int32.ofNat (aN A 2) - 1) ∧ (0 ≤ v 1 ∧ v 1 ≤ 9999) ∧ (10 ≤ v 2 ∧ v 2 ≤ 400) ∧ (1 ≤ v 3 ∧ v 3 ≤ 30) ∧ (0 ≤ v 4 ∧ v 4 ≤ 20) ∧ (0 ≤ v 5 ∧ v 5 ≤ 5) ∧ (0 ≤ v 6 ∧ v 6 ≤ 9)) ∧ aN A 3 < 20)
def addS (A : Ab) (v : Nat → Int32) : Ab := (fun k => if k = 3 then aN A 3 + 1 else aN A k, fun q j => if (10 ≤ q ∧ q ≤ 17) ∧ j = aN A 3 then v (q - 10) else aX A q j, aM A, aE A)
def ansShip (A : Ab) (v : Nat → Int32) : Int32 := if okShip A v = true then Int32.ofNat (aN A 3) else -1
def nxtShip (A : Ab) (v : Nat → Int32) : Ab := if okShip A v = true then addS A v else A
theorem addS_q {A : Ab} {v : Nat → Int32} : AbQ (fun q => 10 ≤ q ∧ q ≤ 17) (fun k => k = 3) A (addS A v) := by
  refine ⟨fun k hk => if_neg hk, fun q hq => ?_, rfl, rfl⟩
  funext j
  exact if_neg (fun h => hq h.1)
theorem addS_X {A : Ab} {v : Nat → Int32} {i k : Nat} (hi : i < aN A 3 + 1) (hk : k < 8) : (i = aN A 3 ∧ aX (addS A v) (10 + k) i = v k) ∨ (i < aN A 3 ∧ aX (addS A v) (10 + k) i = aX A (10 + k) i) := by
  by_cases h : i = aN A 3
  · left
    refine ⟨h, ?_⟩
    show (if (10 ≤ 10 + k ∧ 10 + k ≤ 17) ∧ i = aN A 3 then v (10 + k - 10) else aX A (10 + k) i) = v k
    rw [if_pos ⟨⟨by omega, by omega⟩, h⟩, Nat.add_sub_cancel_left]
  · right
    exact ⟨by omega, if_neg (fun q => h q.2)⟩
def shW (S : ms_S) (a : Nat) (v : Nat → Int32) (w : Int32) : ms_S := ms_setI (ms_setI (ms_setI (ms_setI (ms_setI (ms_setI (ms_setI (ms_setI (ms_setI S a 0 (v 0)) a 1 (v 1)) a 2 (v 2)) a 3 (v 3)) a 4 (v 4)) a 5 (v 5)) a 6 (v 6)) a 7 (v 7)) a 8 w
def smW (S : ms_S) (n : Nat) (v : Nat → Int32) : ms_S := ms_setI (ms_setA (ms_setA (ms_setA (ms_setA (ms_setA (ms_setA (ms_setA (ms_setA S 158 n (v 0)) 159 n (v 1)) 160 n (v 2)) 161 n (v 3)) 162 n (v 4)) 163 n (v 5)) 164 n (v 6)) 165 n (v 7)) 131 50 (Int32.ofNat (n + 1))
theorem shW_I {S : ms_S} {a : Nat} {v : Nat → Int32} {w : Int32} {k : Nat} (hk : k < 9) : ms_I (shW S a v w) a k = if k = 8 then w else v k := by
  unfold shW
  simp only [mG]
  match k, hk with
  | 0, _ => simp
  | 1, _ => simp
  | 2, _ => simp
  | 3, _ => simp
  | 4, _ => simp
  | 5, _ => simp
  | 6, _ => simp
  | 7, _ => simp
  | 8, _ => simp
theorem shW_E {S : ms_S} {a b : Nat} {v : Nat → Int32} {w : Int32} (h : b ≠ a) : Eqc S (shW S a v w) b := by
  unfold shW
  exact ((((((((Eqc_I h).tr (Eqc_I h)).tr (Eqc_I h)).tr (Eqc_I h)).tr (Eqc_I h)).tr (Eqc_I h)).tr (Eqc_I h)).tr (Eqc_I h)).tr (Eqc_I h)
theorem smW_E {S : ms_S} {n b : Nat} {v : Nat → Int32} (h : ¬ (158 ≤ b ∧ b ≤ 165)) (h2 : b ≠ 131) : Eqc S (smW S n v) b := by
  unfold smW
  exact ((((((((Eqc_A (by omega)).tr (Eqc_A (by omega))).tr (Eqc_A (by omega))).tr (Eqc_A (by omega))).tr (Eqc_A (by omega))).tr (Eqc_A (by omega))).tr (Eqc_A (by omega))).tr (Eqc_A (by omega))).tr (Eqc_I (by omega))
theorem smW_A {S : ms_S} {n : Nat} {v : Nat → Int32} {k : Nat} (hk : k < 8) (i : Nat) : ms_A (smW S n v) (158 + k) i = if i = n then v k else ms_A S (158 + k) i := by
  unfold smW
  simp only [mG, mGo]
  match k, hk with
  | 0, _ => simp
  | 1, _ => simp
  | 2, _ => simp
  | 3, _ => simp
  | 4, _ => simp
  | 5, _ => simp
  | 6, _ => simp
  | 7, _ => simp
theorem E141 {N : Nat} {x lo hi : Int32} {β : Type} {f : Int32 → mM β} {S : ms_S} : mb (f141 N x lo hi) f S = f (if lo ≤ x ∧ x ≤ hi then 1 else 0) S := by simp only [mb, q141]
theorem E195 {N : Nat} {x lo hi : Int32} {β : Type} {f : Int32 → mM β} {S : ms_S} : mb (f195 N x lo hi) f S = f (if lo ≤ x ∧ x ≤ hi then 1 else 0) S := by simp only [mb, q195]
theorem EgRo {P : Nat → Bool} {a k r : Nat} {β : Type} {f : Nat → mM β} {S : ms_S} (hr : ms_R S a k = some r) (hP : P r = true) : mb (gRo P a k) f S = f r S := by simp only [mb, gRo, hr, if_pos hP]
theorem ElQo {P : Nat → Bool} {a n r : Nat} {i : Int32} {β : Type} {f : Nat → mM β} {S : ms_S} (hi : inR i n) (hr : ms_Q S a i.toNatClampNeg = some r) (hP : P r = true) : mb (lQo P a n i) f S = f r S := by
  have hi : mv_in i n := hi
  simp only [mb, lQo, if_pos hi, hr, if_pos hP]
section SHP
variable {N : Nat} {S : ms_S} {A : Ab}
theorem lt20 {n : Nat} (hn : n < 20) : Int32.ofNat n < 20 := (ofN_lt (j := 20) (by omega) (by omega)).2 hn
theorem ne20 {n : Nat} (hn : n < 20) : Int32.ofNat n ≠ 20 := fun q => by have := (ofN_eq (i := n) (j := 20) (by omega) (by omega)).1 q; omega
set_option maxHeartbeats 2000000 in
theorem C_ship {v : Nat → Int32} (h7 : v 7 = 0 ∨ v 7 = 1) (h : cBase S A) (hw : WF0 A) : CP (f116 N (v 0) (v 1) (v 2) (v 3) (v 4) (v 5) (v 6) (v 7)) S A (ansShip A v) (nxtShip A v) := by
  have hb := h
  obtain ⟨_, _, ⟨a, a2, e3, _, ho, ⟨_, hl7, _, _, hsh⟩, _⟩, ⟨s1, s2, s3⟩, _⟩ := h
  have oa : o_st a := by rcases ho with h | h; exact Or.inl h.1; exact Or.inr h.1
  have hn3 : aN A 3 ≤ 20 := hw.1.2.2.2.1
  have hn2 : aN A 2 ≤ 8 := hw.1.2.2.1
  unfold ansShip nxtShip
  by_cases hk : okShip A v = true
  · rw [if_pos hk, if_pos hk]
    obtain ⟨⟨k0, k1, k2, k3, k4, k5, k6⟩, kn⟩ := of_decide_eq_true hk
    obtain ⟨l, hll, el⟩ := i32_nat (x := v 0) (n := aN A 2) k0.1 (by omega) (by have := k0.2; have := k0.1; have := i32_of (aN A 2) (by omega); clear hw hb hsh s2 s3 hk; grind)
    have hv17 : aX A 5 l = 0 ∨ aX A 5 l = 1 := (hw.2.2.2.2.1 l hll).1
    have h1 : inR (Int32.ofNat (aN A 3)) 20 := ofN_inR kn (by omega)
    have h2 := ofN_cl (i := aN A 3) (by omega)
    have g1 : inR (v 0) 8 := by rw [el]; exact ofN_inR (by omega) (by omega)
    have g2 : (v 0).toNatClampNeg = l := by rw [el]; exact ofN_cl (by omega)
    have hA : a + 6 ≠ 111 + aN A 3 := by rcases oa with rfl | rfl <;> omega
    refine ⟨ms_setI (ms_setI (shW S (111 + aN A 3) v (aX A 5 l)) 4 9 (Int32.ofNat (aN A 3 + 1))) 4 20 (ms_I S 4 20 + 1), ?_, ?_, fun b h1 h2 => ((shW_E (by omega)).tr (Eqc_I (by omega))).tr (Eqc_I (by omega)), Or.inr (by simp [mG])⟩
    · unfold f116
      simp only [mE]
      rw [EgRo e3 (isSt_o oa)]
      simp only [mE, E141, hl7, if_pos k0, if_pos k1, if_pos k2, if_pos k3, if_pos k4, if_pos k5, if_pos k6, i10, if_false, s1, if_pos (lt20 kn)]
      rw [ElQo h1 (by rw [h2]; exact s2 _ kn) (isSh_o kn)]
      simp only [mE, h7]
      rw [EgRo (r := a) (by simp only [mGo]; exact e3) (isSt_o oa)]
      simp only [mE, g1, g2, mGo, hsh l hll, hv17]
      have i4 : ∀ k, ms_I (shW S (111 + aN A 3) v (aX A 5 l)) 4 k = ms_I S 4 k := fun k => by rw [(shW_E (by omega)).1]
      unfold shW at i4
      simp only [i4, s1, mG, ofN_s, and_self, if_true]
      have h4 : Int32.ofNat (aN A 3 + 1) - 1 = Int32.ofNat (aN A 3) := by rw [← ofN_s]; clear hb hw hsh s2 s3 hk; grind
      simp only [show ¬ ((9 : Nat) = 20) by decide, and_false, if_false, show ¬ ((20 : Nat) = 9) by decide, and_self, if_true, h4, i4, s1]
      rfl
    · refine cB_ship hb addS_q (fun k h9 h20 => ?_) ?_ (fun b h4 h5 => ((shW_E (by omega)).tr (Eqc_I h4)).tr (Eqc_I h4)) ?_
      · simp only [mG, h9, h20, and_false, if_false]
        rw [(shW_E (by omega)).1]
      · simp only [mGo]
        rw [(shW_E (by omega)).2.2.1]
      · refine ⟨by simp only [mG, show ¬ ((9 : Nat) = 20) by decide, and_false, if_false, and_self, if_true]; rfl, fun i hi => ?_, fun i hi => ?_⟩
        · simp only [mGo]
          rw [(shW_E (by omega)).2.2.2.2.2]
          exact s2 i hi
        · have hi : i < aN A 3 + 1 := hi
          have e4 : 111 + i ≠ 4 := by omega
          refine ⟨fun k hk => ?_, ?_⟩
          · simp only [mG, e4, false_and, if_false]
            rcases addS_X (v := v) hi hk with ⟨e, e1⟩ | ⟨hlt, e1⟩
            · rw [e1, e, shW_I (by omega), if_neg (by omega)]
            · rw [e1, (shW_E (by omega)).1]
              exact (s3 i hlt).1 k hk
          · simp only [mG, e4, false_and, if_false]
            have e5 : aX (addS A v) 5 = aX A 5 := addS_q.2.1 5 (by omega)
            rw [e5]
            rcases addS_X (v := v) (k := 0) hi (by omega) with ⟨e, e1⟩ | ⟨hlt, e1⟩
            · have e1 : aX (addS A v) 10 i = v 0 := e1
              rw [e1, g2, e, shW_I (by omega), if_pos rfl]
            · have e1 : aX (addS A v) 10 i = aX A 10 i := e1
              rw [e1, (shW_E (by omega)).1]
              exact (s3 i hlt).2
  · rw [if_neg hk, if_neg hk]
    refine CP_same hb ?_
    have hk2 := fun q => hk (decide_eq_true q)
    unfold f116
    simp only [mE]
    rw [EgRo e3 (isSt_o oa)]
    simp only [mE, E141, hl7]
    by_cases k0 : 0 ≤ v 0 ∧ v 0 ≤ Int32.ofNat (aN A 2) - 1
    · by_cases k1 : 0 ≤ v 1 ∧ v 1 ≤ 9999
      · by_cases k2 : 10 ≤ v 2 ∧ v 2 ≤ 400
        · by_cases k3 : 1 ≤ v 3 ∧ v 3 ≤ 30
          · by_cases k4 : 0 ≤ v 4 ∧ v 4 ≤ 20
            · by_cases k5 : 0 ≤ v 5 ∧ v 5 ≤ 5
              · by_cases k6 : 0 ≤ v 6 ∧ v 6 ≤ 9
                · have kn : ¬ aN A 3 < 20 := fun q => hk2 ⟨⟨k0, k1, k2, k3, k4, k5, k6⟩, q⟩
                  have e20 : ¬ Int32.ofNat (aN A 3) < 20 := fun q => kn ((ofN_lt (j := 20) (by omega) (by omega)).1 q)
                  simp only [if_pos k0, if_pos k1, if_pos k2, if_pos k3, if_pos k4, if_pos k5, if_pos k6, i10, if_false, s1, if_neg e20]
                · simp only [if_pos k0, if_pos k1, if_pos k2, if_pos k3, if_pos k4, if_pos k5, if_neg k6, i10, if_false, if_true]
              · simp only [if_pos k0, if_pos k1, if_pos k2, if_pos k3, if_pos k4, if_neg k5, i10, if_false, if_true]
            · simp only [if_pos k0, if_pos k1, if_pos k2, if_pos k3, if_neg k4, i10, if_false, if_true]
          · simp only [if_pos k0, if_pos k1, if_pos k2, if_neg k3, i10, if_false, if_true]
        · simp only [if_pos k0, if_pos k1, if_neg k2, i10, if_false, if_true]
      · simp only [if_pos k0, if_neg k1, i10, if_false, if_true]
    · simp only [if_neg k0, if_true]
set_option maxHeartbeats 2000000 in
theorem M_ship {v : Nat → Int32} (h7 : v 7 = 0 ∨ v 7 = 1) (h : mBase S A) (hw : WF0 A) : MP (f196 N (v 0) (v 1) (v 2) (v 3) (v 4) (v 5) (v 6) (v 7)) S (ansShip A v) (nxtShip A v) := by
  have hb := h
  obtain ⟨_, _, ⟨b, hb2, hB, ⟨_, hl7, _⟩⟩, ⟨s1, s2⟩, _⟩ := h
  have hn3 : aN A 3 ≤ 20 := hw.1.2.2.2.1
  have g1 : inR (Int32.ofNat b) 2 := ofN_inR hb2 (by omega)
  have g2 := ofN_cl (i := b) (by omega)
  unfold ansShip nxtShip
  by_cases hk : okShip A v = true
  · rw [if_pos hk, if_pos hk]
    obtain ⟨⟨k0, k1, k2, k3, k4, k5, k6⟩, kn⟩ := of_decide_eq_true hk
    have h1 : inR (Int32.ofNat (aN A 3)) 20 := ofN_inR kn (by omega)
    have h2 := ofN_cl (i := aN A 3) (by omega)
    have h4 : Int32.ofNat (aN A 3 + 1) - 1 = Int32.ofNat (aN A 3) := by rw [← ofN_s]; clear hb hw s2 hk; grind
    refine ⟨smW S (aN A 3) v, ?_, ?_, fun q hq => smW_E (by omega) (by omega)⟩
    · unfold f196
      simp only [mE, hB, g1, g2, hl7, E195, if_pos k0, if_pos k1, if_pos k2, if_pos k3, if_pos k4, if_pos k5, if_pos k6, i10, if_false, s1, if_pos (ne20 kn), h1, h2, mGo, vpb h7, mG, and_self, if_true, ofN_s]
      rw [h4]
      rfl
    · refine mB_gen (F := fun k => k = 50) (P := fun b => 158 ≤ b ∧ b ≤ 165) hb addS_q (fun k hk => by simp [smW, mG, mGo, hk]) (fun q h1 h2 => smW_E h2 (by omega)) (Or.inl ⟨by omega, by omega, by omega, by omega⟩) (Or.inl ⟨by omega, by omega, by omega, by omega, by omega, by omega⟩) ⟨by omega, by omega, fun q h1 h2 => by omega, by omega, fun c h1 h2 => by omega⟩ (by rw [addS_q.2.1 40 (by omega)]) (Or.inr ⟨by simp only [smW, mG, and_self, if_true]; rfl, fun i hi k hk => ?_⟩) (Or.inl ⟨fun q h1 h2 => by omega, by omega, by omega, fun c h1 h2 => by omega⟩) (Or.inl ⟨fun q h1 h2 => by omega, by omega, by omega, fun c h1 h2 => by omega⟩) ⟨fun q h1 h2 => by omega, fun k hk => by omega, fun c h1 h2 => by omega, by omega⟩
      have hi : i < aN A 3 + 1 := hi
      rw [smW_A hk]
      rcases addS_X (v := v) hi hk with ⟨e, e1⟩ | ⟨hlt, e1⟩
      · rw [e1, if_pos e]
      · rw [e1, if_neg (by omega)]
        exact s2 i hlt k hk
  · rw [if_neg hk, if_neg hk]
    refine MP_same hb ?_
    have hk2 := fun q => hk (decide_eq_true q)
    unfold f196
    simp only [mE, hB, g1, g2, hl7, E195]
    by_cases k0 : 0 ≤ v 0 ∧ v 0 ≤ Int32.ofNat (aN A 2) - 1
    · by_cases k1 : 0 ≤ v 1 ∧ v 1 ≤ 9999
      · by_cases k2 : 10 ≤ v 2 ∧ v 2 ≤ 400
        · by_cases k3 : 1 ≤ v 3 ∧ v 3 ≤ 30
          · by_cases k4 : 0 ≤ v 4 ∧ v 4 ≤ 20
            · by_cases k5 : 0 ≤ v 5 ∧ v 5 ≤ 5
              · by_cases k6 : 0 ≤ v 6 ∧ v 6 ≤ 9
                · have kn : ¬ aN A 3 < 20 := fun q => hk2 ⟨⟨k0, k1, k2, k3, k4, k5, k6⟩, q⟩
                  have e20 : Int32.ofNat (aN A 3) = 20 := by rw [show aN A 3 = 20 by omega]; rfl
                  simp only [if_pos k0, if_pos k1, if_pos k2, if_pos k3, if_pos k4, if_pos k5, if_pos k6, i10, if_false, s1, e20, ne_eq, not_true_eq_false]
                · simp only [if_pos k0, if_pos k1, if_pos k2, if_pos k3, if_pos k4, if_pos k5, if_neg k6, i10, if_false, if_true]
              · simp only [if_pos k0, if_pos k1, if_pos k2, if_pos k3, if_pos k4, if_neg k5, i10, if_false, if_true]
            · simp only [if_pos k0, if_pos k1, if_pos k2, if_pos k3, if_neg k4, i10, if_false, if_true]
          · simp only [if_pos k0, if_pos k1, if_pos k2, if_neg k3, i10, if_false, if_true]
        · simp only [if_pos k0, if_pos k1, if_neg k2, i10, if_false, if_true]
      · simp only [if_pos k0, if_neg k1, i10, if_false, if_true]
    · simp only [if_neg k0, if_true]
end SHP
