/-! readings and could: the reference -/
section RM3
variable {N : Nat} {A : Ab} {s : Nat} {k d : Int32}
theorem q243g {S : ms_S} {i : Nat} (hw : WF0 A) (h : mBase S A) (hi : i < aN A 5) : f243 N (Int32.ofNat i) k S = some (if cntA A 30 i k = true then 1 else 0, S) := by
  have hn5 : aN A 5 ≤ 60 := hw.1.2.2.2.2.2
  have i1 : inR (Int32.ofNat i) 60 := ofN_inR (by omega) (by omega)
  have i2 := ofN_cl (i := i) (by omega)
  obtain ⟨_, _, _, _, a193, a194⟩ := h.2.2.2.2.2.1.2 i hi
  have w35 := (hw.2.2.2.2.2.2.2 i hi).2.2.2.2.2.2.2.2
  have ec : cntA A 30 i k = decide (aX A 34 i ≤ k ∧ (aX A 35 i = -1 ∨ k < aX A 35 i)) := rfl
  have hneg : aX A 35 i < 0 ↔ aX A 35 i = -1 := by
    generalize aX A 35 i = z at w35
    clear hw h ec a193 a194
    rcases w35 with h | h
    · rw [h]; decide
    · constructor
      · intro q; grind
      · intro q; rw [q] at h; exact absurd h (by decide)
  unfold f243
  simp only [mE, i1, i2, a193, a194, true_or, or_true]
  by_cases h1 : aX A 34 i ≤ k
  · rw [if_neg (Int32.not_lt.mpr h1)]
    by_cases h2 : aX A 35 i = -1
    · rw [if_pos (hneg.2 h2), ec, decide_eq_true ⟨h1, Or.inl h2⟩, if_pos rfl]
    · rw [if_neg (fun q => h2 (hneg.1 q))]
      by_cases h3 : aX A 35 i ≤ k
      · rw [if_pos h3, ec, decide_eq_false (fun q => q.2.elim h2 (fun q => Int32.not_lt.mpr h3 q)), if_neg (by decide)]
      · rw [if_neg h3, ec, decide_eq_true ⟨h1, Or.inr (Int32.not_le.mp h3)⟩, if_pos rfl]
  · rw [if_pos (Int32.not_le.mp h1), ec, decide_eq_false (fun q => h1 q.1), if_neg (by decide)]
def SgM (S : ms_S) (L : List Nat) : Prop := ms_I S 131 106 = Int32.ofNat L.length ∧ ∀ j, j < L.length → ms_A S 195 j = Int32.ofNat (L.getD j 0) ∧ ms_A S 197 j = 0
def offT2 (S S1 : ms_S) : Prop := (∀ j, j ≠ 106 → ms_I S1 131 j = ms_I S 131 j) ∧ ∀ b, b ≠ 131 → b ≠ 195 → b ≠ 197 → Eqc S S1 b
theorem offT2_base {S S1 : ms_S} (h : mBase S A) (o : offT2 S S1) : mBase S1 A := mBase_fr h (fun j hj => o.1 j (by unfold tellM at hj; omega)) (fun b h1 h2 => o.2 b (by omega) (by unfold scrM at h2; omega) (by unfold scrM at h2; omega))
theorem sgML {x1 : Int32} {K : Int32 → Int32 → Int32 → Int32 → mM Unit} (hw : WF0 A) (hgg : WFg A) : ∀ m i n (S : ms_S), m + i = aN A 5 → m < n → mBase S A → SgM S (sgL A k d i) → ∃ S1, f245_L15 N K n x1 d k (Int32.ofNat i) S = K x1 d k (Int32.ofNat (aN A 5)) S1 ∧ SgM S1 (sgA A k d) ∧ offT2 S S1 := by
  have hn5 : aN A 5 ≤ 60 := hw.1.2.2.2.2.2
  intro m
  induction m with
  | zero =>
    intro i n S hi hn h hm
    obtain ⟨n, rfl⟩ : ∃ q, n = q + 1 := ⟨n - 1, by omega⟩
    have e : i = aN A 5 := by omega
    subst e
    refine ⟨S, ?_, hm, fun _ _ => rfl, fun _ _ _ _ => Eqc.rf⟩
    rw [f245_L15]
    simp only [mE, h.2.2.2.2.2.1.1]
    rw [if_pos ((ofN_le (by omega) (by omega)).2 (Nat.le_refl _))]
  | succ m ih =>
    intro i n S hi hn h hm
    obtain ⟨n, rfl⟩ : ∃ q, n = q + 1 := ⟨n - 1, by omega⟩
    have hil : i < aN A 5 := by omega
    have a190 := (h.2.2.2.2.2.1.2 i hil).1
    have i1 : inR (Int32.ofNat i) 60 := ofN_inR (by omega) (by omega)
    have i2 := ofN_cl (i := i) (by omega)
    have m243 : ∀ {β : Type} {f' : Int32 → mM β}, mb (f243 N (Int32.ofNat i) k) f' S = f' (if cntA A 30 i k = true then 1 else 0) S := by intro β f'; simp only [mb, q243g (N := N) hw h hil]
    have skip : sgP A k d i = false → ∃ S1, f245_L15 N K n x1 d k (Int32.ofNat i + 1) S = K x1 d k (Int32.ofNat (aN A 5)) S1 ∧ SgM S1 (sgA A k d) ∧ offT2 S S1 := by
      intro e
      rw [ofN_s]
      refine ih (i + 1) n S (by omega) (by omega) h ?_
      rw [show sgL A k d (i + 1) = sgL A k d i from if_neg (by rw [e]; decide)]
      exact hm
    rw [f245_L15]
    simp only [mE, h.2.2.2.2.2.1.1]
    rw [if_neg (fun q => by have := (ofN_le (i := aN A 5) (j := i) (by omega) (by omega)).1 q; omega)]
    simp only [mE, i1, i2, a190]
    by_cases hd : aX A 30 i = d
    · rw [if_neg (fun q => q hd), m243]
      by_cases hc : cntA A 30 i k = true
      · rw [if_pos hc, if_pos (by decide)]
        have hp : sgP A k d i = true := by unfold sgP; rw [decide_eq_true hd, hc]; rfl
        have eL : sgL A k d (i + 1) = sgL A k d i ++ [i] := if_pos hp
        have hlen : (sgL A k d i).length < 8 := by
          have h1 := sgL_mono (A := A) (k := k) (d := d) (i := i + 1) (aN A 5 - (i + 1))
          rw [show i + 1 + (aN A 5 - (i + 1)) = aN A 5 by omega, eL, List.length_append] at h1
          have h2 := sgA_len hgg (k := k) (d := d)
          unfold sgA at h2
          simp at h1
          omega
        have c0 : ∃ c, c = (sgL A k d i).length := ⟨_, rfl⟩
        obtain ⟨c, hc⟩ := c0
        obtain ⟨t106, tA⟩ := hm
        rw [← hc] at t106 tA hlen
        have c1 : inR (Int32.ofNat c) 8 := ofN_inR (by omega) (by omega)
        have c2 := ofN_cl (i := c) (by omega)
        have X0 : ∃ X, X = ms_setI (ms_setA (ms_setA S 195 c (Int32.ofNat i)) 197 c 0) 131 106 (Int32.ofNat (c + 1)) := ⟨_, rfl⟩
        obtain ⟨X, hX⟩ := X0
        have oX : offT2 S X := ⟨fun j hj => by rw [hX]; simp only [mG, true_and, if_neg hj]; rw [(Eqc_A (by decide)).1, (Eqc_A (by decide)).1], fun b h1 h2 h3 => by rw [hX]; exact ((Eqc_A h2).tr (Eqc_A h3)).tr (Eqc_I h1)⟩
        have t1 : ms_I (ms_setA S 195 c (Int32.ofNat i)) 131 106 = Int32.ofNat c := by rw [(Eqc_A (by decide)).1]; exact t106
        have t2 : ms_I (ms_setA (ms_setA S 195 c (Int32.ofNat i)) 197 c 0) 131 106 = Int32.ofNat c := by rw [(Eqc_A (by decide)).1]; exact t1
        simp only [mE, t106, t1, t2, c1, c2, ofN_s, ← hX]
        obtain ⟨S2, e2, r2, o2⟩ := ih (i + 1) n X (by omega) (by omega) (offT2_base h oX) (by
          rw [eL]
          refine ⟨by rw [hX, List.length_append, ← hc]; simp [mG], fun q hq => ?_⟩
          rw [List.length_append, ← hc] at hq
          have hq : q < c + 1 := hq
          rw [getD_app, ← hc]
          have x195 : ms_A X 195 q = if q = c then Int32.ofNat i else ms_A S 195 q := by rw [hX, (Eqc_I (by decide)).2.2.2.1]; simp only [mG, true_and, show ¬ ((195 : Nat) = 197) by decide, false_and, if_false]
          have x197 : ms_A X 197 q = if q = c then 0 else ms_A S 197 q := by rw [hX, (Eqc_I (by decide)).2.2.2.1]; simp only [mG, true_and, show ¬ ((197 : Nat) = 195) by decide, false_and, if_false]
          rw [x195, x197]
          by_cases e : q = c
          · subst e
            rw [if_pos rfl, if_pos rfl, if_neg (Nat.lt_irrefl _), if_pos rfl]
            exact ⟨rfl, rfl⟩
          · rw [if_pos (show q < c by omega), if_neg e, if_neg e]
            exact tA q (by omega))
        exact ⟨S2, e2, r2, fun j hj => (o2.1 j hj).trans (oX.1 j hj), fun b h1 h2 h3 => (oX.2 b h1 h2 h3).tr (o2.2 b h1 h2 h3)⟩
      · rw [if_neg hc, if_neg (fun q => q rfl)]
        refine skip ?_
        unfold sgP
        cases h : cntA A 30 i k with
        | true => exact absurd h hc
        | false => simp
    · rw [if_pos hd]
      exact skip (by unfold sgP; rw [decide_eq_false hd]; rfl)
theorem clr8 {x1 x2 x3 : Int32} {K : Int32 → Int32 → Int32 → Int32 → mM Unit} : ∀ m i n (S : ms_S), m + i = 8 → m < n → (∀ p, p < i → ms_A S 189 p = 0) → ∃ S1, f245_L88 N K n x1 x2 x3 (Int32.ofNat i) S = K x1 x2 x3 8 S1 ∧ (∀ p, p < 8 → ms_A S1 189 p = 0) ∧ ∀ b, b ≠ 189 → Eqc S S1 b := by
  intro m
  induction m with
  | zero =>
    intro i n S hi hn hd
    obtain ⟨n, rfl⟩ : ∃ q, n = q + 1 := ⟨n - 1, by omega⟩
    have e : i = 8 := by omega
    subst e
    refine ⟨S, ?_, hd, fun _ _ => Eqc.rf⟩
    rw [f245_L88]
    simp only [mE]
    rw [if_pos (by decide)]
    rfl
  | succ m ih =>
    intro i n S hi hn hd
    obtain ⟨n, rfl⟩ : ∃ q, n = q + 1 := ⟨n - 1, by omega⟩
    have i1 : inR (Int32.ofNat i) 8 := ofN_inR (by omega) (by omega)
    have i2 := ofN_cl (i := i) (by omega)
    obtain ⟨S1, e1, r1, o1⟩ := ih (i + 1) n (ms_setA S 189 i 0) (by omega) (by omega) (fun p hp => by
      simp only [mG, true_and]
      by_cases e : p = i
      · rw [if_pos e]
      · rw [if_neg e]; exact hd p (by omega))
    refine ⟨S1, ?_, r1, fun b hb => (Eqc_A hb).tr (o1 b hb)⟩
    rw [f245_L88]
    simp only [mE]
    rw [if_neg (fun q => by have := (ofN_le (i := 8) (j := i) (by omega) (by omega)).1 q; omega)]
    simp only [mE, i1, i2, vpb (Or.inl rfl), ofN_s]
    exact e1
/-- what the reference holds of the readings of a day -/
def MRk (S : ms_S) (A : Ab) (s : Nat) (k d : Int32) : Prop := ms_I S 131 106 = Int32.ofNat (sgA A k d).length ∧ ms_I S 131 107 = Int32.ofNat (cnt (rqA A s k d) 0) ∧ ∀ j, j < (sgA A k d).length → ms_A S 195 j = Int32.ofNat ((sgA A k d).getD j 0) ∧ ms_A S 197 j = Int32.ofNat (bitsN (cdB (rqA A s k d) j) 8)
theorem rq_lt : ∀ q ∈ rqA A s k d, ∀ p, q p = true → p < (dayN8 A s k d).length := by
  intro q hq p hp
  unfold rqA at hq
  obtain ⟨g, _, rfl⟩ := List.mem_map.mp hq
  rw [rowQ_fit] at hp
  exact of_decide_eq_true ((Bool.and_eq_true _ _).mp hp).1
theorem rd_bits {j : Nat} (hj : j < (sgA A k d).length) : (rdN (dayN8 A s k d).length (rqA A s k d) 0 [] (0, fun _ => 0)).2 j = bitsN (cdB (rqA A s k d) j) 8 := by
  have h8 : (dayN8 A s k d).length ≤ 8 := dayL_len _
  apply Nat.eq_of_testBit_eq
  intro p
  have h2 := rdN_2 (n := (dayN8 A s k d).length) h8 (i := j) (p := p) (rqA A s k d) 0 [] (0, fun _ => 0) rq_lt (by unfold rqA; rw [List.length_map]; simpa using hj)
  rw [bitsN_tb]
  by_cases hp : p < 8
  · rw [decide_eq_true hp, Bool.true_and, Bool.eq_iff_iff, h2, cdB_iff hp]
    refine ⟨fun h => ?_, fun h => Or.inr ?_⟩
    · rcases h with h | ⟨L, h1, h3⟩
      · simp at h
      · exact ⟨L, h1, by simpa using h3⟩
    · obtain ⟨L, h1, h3⟩ := h
      exact ⟨L, h1, by simpa using h3⟩
  · rw [decide_eq_false hp, Bool.false_and]
    have hlt := rdN_lt (n := (dayN8 A s k d).length) h8 (i := j) (rqA A s k d) 0 [] (0, fun _ => 0) rq_lt (fun a ha => by cases ha) (by show (0 : Nat) < 256; omega)
    exact Nat.testBit_lt_two_pow (Nat.lt_of_lt_of_le hlt (by rw [show (256 : Nat) = 2 ^ 8 from rfl]; exact Nat.pow_le_pow_right (by omega) (by omega)))
set_option maxHeartbeats 1000000 in
theorem q245 {S : ms_S} (hN : 30000000 ≤ N) (h : mBase S A) (hw : WF0 A) (hv : WFv A) (hgg : WFg A) (hs : s < 4) : ∃ S1, f245 N (Int32.ofNat s) d k S = some ((), S1) ∧ mBase S1 A ∧ MRk S1 A s k d ∧ keepM S S1 := by
  have hn5 : aN A 5 ≤ 60 := hw.1.2.2.2.2.2
  have h8 : (dayN8 A s k d).length ≤ 8 := dayL_len _
  have hs8 := sgA_len hgg (k := k) (d := d)
  obtain ⟨S1, e1, b1, p1, k1⟩ := q237 (N := N) (A := A) (S := S) (s := s) (d := d) (k := k) hN h hw hv hs
  have m237 : ∀ {β : Type} {f : Unit → mM β}, mb (f237 N (Int32.ofNat s) d k) f S = f () S1 := by intro β f; simp only [mb, e1]
  have X0 : ∃ X, X = ms_setI S1 131 106 0 := ⟨_, rfl⟩
  obtain ⟨X, hX⟩ := X0
  have xI : ∀ j, j ≠ 106 → ms_I X 131 j = ms_I S1 131 j := fun j hj => by rw [hX]; simp only [mG, true_and, if_neg hj]
  have oX : offT2 S1 X := ⟨xI, fun b h1 _ _ => by rw [hX]; exact Eqc_I h1⟩
  -- KL := fun (x1 : Int32) (x2 : Int32) (x3 : Int32) (x4 : Int32) => (f245_L88 N (fun (x1 : Int32) (x2 : Int32) (x3 : Int32) (x4 : Int32) => (mlet (fun (x1 : Int32) (x2 : Int32) (x3 : Int32) (x4 : Int32) (y1 : Int32) => (mlet (fun (x1 : Int32) (x2 : Int32) (x3 : Int32) (x4 : Int32) (y0 : Int32) => (mb (sA 196 8 0 (-1)) fun _ => f245_L146 N (fun (x1 : Int32) (x2 : Int32) (x3 : Int32) (x4 : Int32) => (mret ())) N x1 x2 x3 y0)) fun J137 => mb (pI 131 107 y1) fun _ => mb (gI 131 106) fun v66 => if v66 ≠ 0 then (J137 x1 x2 x3 x4 0) else (J137 x1 x2 x3 x4 (-1)))) fun J122 => mb (gI 131 106) fun v68 => if v68 ≠ 0 then (J122 x1 x2 x3 x4 0) else (J122 x1 x2 x3 x4 1))) N x1 x2 x3 0)
  obtain ⟨S2, e2, g2, o2⟩ := sgML (N := N) (A := A) (k := k) (d := d) (x1 := Int32.ofNat s) (K := fun (x1 : Int32) (x2 : Int32) (x3 : Int32) (x4 : Int32) => (f245_L88 N (fun (x1 : Int32) (x2 : Int32) (x3 : Int32) (x4 : Int32) => (mlet (fun (x1 : Int32) (x2 : Int32) (x3 : Int32) (x4 : Int32) (y1 : Int32) => (mlet (fun (x1 : Int32) (x2 : Int32) (x3 : Int32) (x4 : Int32) (y0 : Int32) => (mb (sA 196 8 0 (-1)) fun _ => f245_L146 N (fun (x1 : Int32) (x2 : Int32) (x3 : Int32) (x4 : Int32) => (mret ())) N x1 x2 x3 y0)) fun J137 => mb (pI 131 107 y1) fun _ => mb (gI 131 106) fun v66 => if v66 ≠ 0 then (J137 x1 x2 x3 x4 0) else (J137 x1 x2 x3 x4 (-1)))) fun J122 => mb (gI 131 106) fun v68 => if v68 ≠ 0 then (J122 x1 x2 x3 x4 0) else (J122 x1 x2 x3 x4 1))) N x1 x2 x3 0)) hw hgg (aN A 5) 0 N X (by omega) (by omega) (offT2_base b1 oX) ⟨by rw [hX]; simp [mG, sgL], fun j hj => absurd hj (by simp [sgL])⟩
  obtain ⟨S3, e3, u3, o3⟩ := clr8 (N := N) (x1 := Int32.ofNat s) (x2 := d) (x3 := k) (K := fun (x1 : Int32) (x2 : Int32) (x3 : Int32) (x4 : Int32) => (mlet (fun (x1 : Int32) (x2 : Int32) (x3 : Int32) (x4 : Int32) (y1 : Int32) => (mlet (fun (x1 : Int32) (x2 : Int32) (x3 : Int32) (x4 : Int32) (y0 : Int32) => (mb (sA 196 8 0 (-1)) fun _ => f245_L146 N (fun (x1 : Int32) (x2 : Int32) (x3 : Int32) (x4 : Int32) => (mret ())) N x1 x2 x3 y0)) fun J137 => mb (pI 131 107 y1) fun _ => mb (gI 131 106) fun v66 => if v66 ≠ 0 then (J137 x1 x2 x3 x4 0) else (J137 x1 x2 x3 x4 (-1)))) fun J122 => mb (gI 131 106) fun v68 => if v68 ≠ 0 then (J122 x1 x2 x3 x4 0) else (J122 x1 x2 x3 x4 1))) 8 0 N S2 (by omega) (by omega) (fun p hp => absurd hp (by omega))
  have V0 : ∃ v : Int32, v = if (sgA A k d).length = 0 then 1 else 0 := ⟨_, rfl⟩
  obtain ⟨v, hv1⟩ := V0
  have Y0 : ∃ Y, Y = ms_setA (ms_setI S3 131 107 v) 196 0 (-1) := ⟨_, rfl⟩
  obtain ⟨Y, hY⟩ := Y0
  have yI : ∀ j, j ≠ 107 → ms_I Y 131 j = ms_I S2 131 j := fun j hj => by rw [hY, (Eqc_A (by decide)).1]; simp only [mG, true_and, if_neg hj]; rw [(o3 131 (by decide)).1]
  have yE : ∀ b, b ≠ 131 → b ≠ 189 → b ≠ 196 → Eqc S2 Y b := fun b h1 h2 h3 => by rw [hY]; exact ((o3 b h2).tr (Eqc_I h1)).tr (Eqc_A h3)
  have s106 : ms_I S3 131 106 = Int32.ofNat (sgA A k d).length := by rw [(o3 131 (by decide)).1]; exact g2.1
  have t106 : ms_I (ms_setI S3 131 107 v) 131 106 = Int32.ofNat (sgA A k d).length := by simp [mG]; exact s106
  have allI : ∀ j, j ≠ 106 → j ≠ 107 → ms_I Y 131 j = ms_I S1 131 j := fun j h1 h2 => by rw [yI j h2, o2.1 j h1, xI j h1]
  have allE : ∀ b, b ≠ 131 → b ≠ 189 → ¬ (195 ≤ b ∧ b ≤ 197) → Eqc S1 Y b := fun b h1 h2 h3 => ((oX.2 b h1 (by omega) (by omega)).tr (o2.2 b h1 (by omega) (by omega))).tr (yE b h1 h2 (by omega))
  have bY : mBase Y A := mBase_fr b1 (fun j hj => allI j (by unfold tellM at hj; omega) (by unfold tellM at hj; omega)) (fun b h1 h2 => allE b (by omega) (by unfold scrM at h2; omega) (by unfold scrM at h2; omega))
  have rdY : RdS Y A s k d := ⟨bY, MPk_fr p1 (fun j h1 h2 => allI j (by omega) (by omega)) (fun b hb => (allE b (by omega) (by omega) (by omega)).2.2.2.1), by rw [yI 106 (by decide)]; exact g2.1, fun j hj => by rw [(yE 195 (by decide) (by decide) (by decide)).2.2.2.1]; exact (g2.2 j hj).1⟩
  have kY : ∀ b, b < 131 → Eqc S Y b := fun b hb => (k1 b hb).tr (allE b (by omega) (by omega) (by omega))
  have z1 : inR (0 : Int32) 8 := ofN_inR (i := 0) (by omega) (by omega)
  unfold f245
  rw [m237]
  by_cases hz : (sgA A k d).length = 0
  · have e0 : sgA A k d = [] := List.eq_nil_of_length_eq_zero hz
    have hv0 : v = 1 := by rw [hv1, if_pos hz]
    subst hv0
    refine ⟨Y, ?_, bY, ⟨rdY.2.2.1, ?_, fun j hj => absurd hj (by omega)⟩, kY⟩
    · simp only [mE, ← hX]
      refine e2.trans (e3.trans ?_)
      simp only [mE, s106]
      rw [if_neg (fun q => q (by rw [hz]; rfl))]
      simp only [mE, t106]
      rw [if_neg (fun q => q (by rw [hz]; rfl))]
      simp only [mE, z1, show (0 : Int32).toNatClampNeg = 0 from rfl, ← hY]
      obtain ⟨n, hn⟩ : ∃ q, N = q + 1 := ⟨N - 1, by omega⟩
      have : f245_L146 N (fun (x1 : Int32) (x2 : Int32) (x3 : Int32) (x4 : Int32) => (mret ())) (n + 1) (Int32.ofNat s) d k (-1) Y = some ((), Y) := by
        rw [L146_s, if_pos (by decide)]; rfl
      rw [← hn] at this
      exact this
    · rw [hY]
      unfold rqA
      rw [e0]
      simp [mG]
      rfl
  · obtain ⟨m, hm⟩ : ∃ m, (sgA A k d).length = m + 1 := ⟨(sgA A k d).length - 1, by omega⟩
    have hv0 : v = 0 := by rw [hv1, if_neg hz]
    subst hv0
    obtain ⟨T, S4, hT, e4, cf4, o4⟩ := (nodR_all (N := N) (A := A) (s := s) (k := k) (d := d) (by omega) hw hs8 m).1 (fun (x1 : Int32) (x2 : Int32) (x3 : Int32) (x4 : Int32) => (mret ())) (Int32.ofNat s) d k [] 0 (0, fun _ => 0) Y (by show 0 + (m + 1) = _; omega) (fun a ha => by cases ha) ⟨rdY, fun i hi => absurd hi (by simp), ⟨by omega, fun p hp => by rw [hY, (Eqc_A (by decide)).2.2.2.1, (Eqc_I (by decide)).2.2.2.1, u3 p hp, Nat.zero_testBit]; rfl⟩, ⟨by rw [hY, (Eqc_A (by decide)).1]; simp [mG], fun i hi => ⟨by rw [(yE 197 (by decide) (by decide) (by decide)).2.2.2.1]; exact (g2.2 i hi).2, by show (0 : Nat) < 256; omega⟩⟩⟩ (by rw [hY]; simp [mG])
    rw [show (rqA A s k d).drop ([] : List Nat).length = rqA A s k d from rfl] at cf4
    have hct := Ct_le (m + 1) (by omega)
    have eN : N = (N - T - 1 + 1) + T := by omega
    refine ⟨S4, ?_, cf4.1.1, ⟨cf4.1.2.2.1, ?_, fun j hj => ⟨cf4.1.2.2.2 j hj, ?_⟩⟩, fun b hb => (kY b hb).tr (o4.2 b (by omega) (by omega) (by omega))⟩
    · simp only [mE, ← hX]
      refine e2.trans (e3.trans ?_)
      simp only [mE, s106]
      have hne : Int32.ofNat (sgA A k d).length ≠ 0 := fun q => hz ((ofN_eq (j := 0) (by omega) (by omega)).1 q)
      rw [if_pos hne]
      simp only [mE, t106]
      rw [if_pos hne]
      simp only [mE, z1, show (0 : Int32).toNatClampNeg = 0 from rfl, ← hY]
      have e5 := e4 (N - T - 1 + 1)
      rw [← eN] at e5
      have e5 : f245_L146 N _ N (Int32.ofNat s) d k 0 Y = f245_L146 N _ (N - T - 1 + 1) (Int32.ofNat s) d k (0 + (-1)) S4 := e5
      rw [e5, L146_s, if_pos (by decide)]
      rfl
    · rw [cf4.2.2.2.1, rdN_1 h8 _ _ _ _ rq_lt]
      show Int32.ofNat (0 + _) = _
      rw [Nat.zero_add]
    · rw [(cf4.2.2.2.2 j hj).1, rd_bits hj]
theorem M_read {x : Int32} {S : ms_S} (hN : 30000000 ≤ N) (h : mBase S A) (hw : WF0 A) (hv : WFv A) (hgg : WFg A) : MP (f246 N x d k) S (ansRead A x d k) A := by
  have e176 : ∀ {z : Int32} {β : Type} {f : Int32 → mM β}, mb (f176 N z) f S = f (if 0 ≤ z ∧ z < 4 then 1 else 0) S := by intro z β f; simp only [mb, q176]
  have e211 : ∀ {z : Int32} {β : Type} {f : Int32 → mM β}, mb (f211 N z) f S = f (if 0 ≤ z ∧ z < 1000 then 1 else 0) S := by intro z β f; simp only [mb, q211]
  unfold ansRead
  by_cases hx : 0 ≤ x ∧ x < 4
  · by_cases hd : 0 ≤ d ∧ d < 1000
    · rw [if_pos ⟨hx, hd⟩]
      obtain ⟨s, hs, rfl⟩ := i32_nat (n := 4) hx.1 (by omega) hx.2
      rw [ofN_cl (by omega), rqA_RB]
      obtain ⟨S1, e1, b1, r1, k1⟩ := q245 (N := N) (A := A) (S := S) (s := s) (k := k) (d := d) hN h hw hv hgg hs
      have m245 : ∀ {β : Type} {f : Unit → mM β}, mb (f245 N (Int32.ofNat s) d k) f S = f () S1 := by intro β f; simp only [mb, e1]
      refine ⟨S1, ?_, b1, k1⟩
      unfold f246
      simp only [mE]
      rw [e176, if_pos hx, if_neg (by decide), e211, if_pos hd, if_pos (by decide), m245]
      simp only [mE, r1.2.1]
    · rw [if_neg (fun q => hd q.2)]
      refine MP_same h ?_
      unfold f246
      simp only [mE]
      rw [e176, if_pos hx, if_neg (by decide), e211, if_neg hd, if_neg (fun q => q rfl)]; rfl
  · rw [if_neg (fun q => hx q.1)]
    refine MP_same h ?_
    unfold f246
    simp only [mE]
    rw [e176, if_neg hx, if_pos rfl]; rfl
theorem findL {S : ms_S} {x1 x3 : Int32} {e : Nat} {K1 K2 : Int32 → Int32 → Int32 → Int32 → mM Int32} (hw : WF0 A) (hr : MRk S A s k d) (hs8 : (sgA A k d).length ≤ 8) (he : e < aN A 5) (hmem : e ∈ sgA A k d) : ∀ m i n, m + i = ixOf e (sgA A k d) → m < n → f247_L45 N K1 K2 n x1 (Int32.ofNat e) x3 (Int32.ofNat i) S = K1 x1 (Int32.ofNat e) x3 (Int32.ofNat (ixOf e (sgA A k d))) S := by
  have hn5 : aN A 5 ≤ 60 := hw.1.2.2.2.2.2
  obtain ⟨x1', x2'⟩ := ixOf_lt hmem
  intro m
  induction m with
  | zero =>
    intro i n hi hn
    obtain ⟨n, rfl⟩ : ∃ q, n = q + 1 := ⟨n - 1, by omega⟩
    have e0 : i = ixOf e (sgA A k d) := by omega
    subst e0
    have i1 : inR (Int32.ofNat (ixOf e (sgA A k d))) 8 := ofN_inR (by omega) (by omega)
    have i2 := ofN_cl (i := ixOf e (sgA A k d)) (by omega)
    rw [f247_L45]
    simp only [mE, hr.1]
    rw [if_neg (fun q => by have := (ofN_le (i := (sgA A k d).length) (j := ixOf e (sgA A k d)) (by omega) (by omega)).1 q; omega)]
    simp only [mE, i1, i2, (hr.2.2 _ x1').1, x2']
    rw [if_neg (fun q => q rfl)]
  | succ m ih =>
    intro i n hi hn
    obtain ⟨n, rfl⟩ : ∃ q, n = q + 1 := ⟨n - 1, by omega⟩
    have hil : i < (sgA A k d).length := by omega
    have i1 : inR (Int32.ofNat i) 8 := ofN_inR (by omega) (by omega)
    have i2 := ofN_cl (i := i) (by omega)
    have hjm := (sgL_lt _ _ (getD_mem (show i < (sgL A k d (aN A 5)).length from hil))).1
    rw [f247_L45]
    simp only [mE, hr.1]
    rw [if_neg (fun q => by have := (ofN_le (i := (sgA A k d).length) (j := i) (by omega) (by omega)).1 q; omega)]
    simp only [mE, i1, i2, (hr.2.2 i hil).1]
    rw [if_pos (fun q => by
      have q : (sgA A k d).getD i 0 = e := (ofN_eq (by unfold sgA; omega) (by omega)).1 q
      have := nd_getD (sgL_nodup _) hil x1' (q.trans x2'.symm)
      omega), ofN_s]
    exact ih (i + 1) n (by omega) (by omega)
theorem M_could {x e : Int32} {S : ms_S} (hN : 30000000 ≤ N) (h : mBase S A) (hw : WF0 A) (hv : WFv A) (hgg : WFg A) : MP (f247 N x e k) S (ansCould A x e k) A := by
  have hn5 : aN A 5 ≤ 60 := hw.1.2.2.2.2.2
  have e176 : ∀ {z : Int32} {β : Type} {f : Int32 → mM β}, mb (f176 N z) f S = f (if 0 ≤ z ∧ z < 4 then 1 else 0) S := by intro z β f; simp only [mb, q176]
  unfold ansCould
  by_cases hx : 0 ≤ x ∧ x < 4
  · by_cases he : 0 ≤ e ∧ e < Int32.ofNat (aN A 5)
    · obtain ⟨i, hi, rfl⟩ := i32_nat he.1 (by omega) he.2
      have i1 : inR (Int32.ofNat i) 60 := ofN_inR (by omega) (by omega)
      have i2 := ofN_cl (i := i) (by omega)
      rw [i2]
      have a190 := (h.2.2.2.2.2.1.2 i hi).1
      have m243 : ∀ {β : Type} {f' : Int32 → mM β}, mb (f243 N (Int32.ofNat i) k) f' S = f' (if cntA A 30 i k = true then 1 else 0) S := by intro β f'; simp only [mb, q243g (N := N) hw h hi]
      have hnl : ¬ Int32.ofNat i < 0 := ofN_nl (by omega)
      have hge : ¬ Int32.ofNat i ≥ Int32.ofNat (aN A 5) := fun q => by have := (ofN_le (i := aN A 5) (j := i) (by omega) (by omega)).1 q; omega
      by_cases hc : cntA A 30 i k = true
      · rw [if_pos ⟨hx, he, hc⟩]
        obtain ⟨s, hs, rfl⟩ := i32_nat (n := 4) hx.1 (by omega) hx.2
        rw [ofN_cl (by omega)]
        have D0 : ∃ d, d = aX A 30 i := ⟨_, rfl⟩
        obtain ⟨d, hd⟩ := D0
        obtain ⟨S1, e1, b1, r1, k1⟩ := q245 (N := N) (A := A) (S := S) (s := s) (k := k) (d := d) hN h hw hv hgg hs
        have m245 : ∀ {β : Type} {f : Unit → mM β}, mb (f245 N (Int32.ofNat s) d k) f S = f () S1 := by intro β f; simp only [mb, e1]
        have hmem : i ∈ sgA A k d := sgL_mem _ _ hi (by unfold sgP; rw [decide_eq_true hd.symm, hc]; rfl)
        obtain ⟨x1, x2⟩ := ixOf_lt hmem
        have hs8 := sgA_len hgg (k := k) (d := d)
        refine ⟨S1, ?_, b1, k1⟩
        have j1 : inR (Int32.ofNat (ixOf i (sgA A k d))) 8 := ofN_inR (by omega) (by omega)
        have j2 := ofN_cl (i := ixOf i (sgA A k d)) (by omega)
        unfold f247
        simp only [mE]
        rw [e176, if_pos hx, if_neg (by decide)]
        simp only [mE, if_neg hnl, h.2.2.2.2.2.1.1, if_neg hge]
        rw [m243, if_pos hc, if_pos (by decide)]
        simp only [mE, i1, i2, a190, ← hd]
        rw [m245]
        refine (findL (N := N) (A := A) (s := s) (k := k) (d := d) hw r1 hs8 hi hmem (ixOf i (sgA A k d)) 0 N (by omega) (by omega)).trans ?_
        simp only [mE, j1, j2, (r1.2.2 _ x1).2]
        unfold cdN
        rw [← hd, rqA_RB]
      · rw [if_neg (fun q => hc q.2.2)]
        refine MP_same h ?_
        unfold f247
        simp only [mE]
        rw [e176, if_pos hx, if_neg (by decide)]
        simp only [mE, if_neg hnl, h.2.2.2.2.2.1.1, if_neg hge]
        rw [m243, if_neg hc, if_neg (fun q => q rfl)]; rfl
    · rw [if_neg (fun q => he q.2.1)]
      refine MP_same h ?_
      unfold f247
      simp only [mE]
      rw [e176, if_pos hx, if_neg (by decide)]
      simp only [mE, h.2.2.2.2.2.1.1]
      by_cases h0 : e < 0
      · rw [if_pos h0]
      · rw [if_neg h0, if_pos (Int32.not_lt.mp (fun q => he ⟨Int32.not_lt.mp h0, q⟩))]
  · rw [if_neg (fun q => hx q.1)]
    refine MP_same h ?_
    unfold f247
    simp only [mE]
    rw [e176, if_neg hx, if_pos rfl]; rfl
end RM3
