/-! a strait's text: the reference -/
def StM (S : ms_S) (b : Nat) (cs : List Cl) (ls : List Ld) (n : Nat) : Prop := ms_A S 135 b = Int32.ofNat cs.length ∧ ms_A S 136 b = Int32.ofNat ls.length ∧ ms_A S 134 b = Int32.ofNat n
  ∧ (∀ i, i < cs.length → ms_A S 137 (20 * b + i) = (cs.getD i zC).1 ∧ ms_A S 138 (20 * b + i) = (cs.getD i zC).2.1 ∧ ms_A S 139 (20 * b + i) = (cs.getD i zC).2.2.1 ∧ ms_A S 140 (20 * b + i) = (cs.getD i zC).2.2.2)
  ∧ (∀ i, i < ls.length → ms_A S 141 (8 * b + i) = (ls.getD i zL).2 ∧ ms_L S 142 (8 * b + i) = pk8 (ls.getD i zL).1 ∧ ltw (ls.getD i zL).1)
def offB (b : Nat) (S S1 : ms_S) : Prop := (∀ j, ¬ (4 ≤ j ∧ j ≤ 9) → ms_I S1 131 j = ms_I S 131 j) ∧ (∀ c, c ≠ 131 → ¬ (134 ≤ c ∧ c ≤ 142) → Eqc S S1 c) ∧ (∀ c i, 134 ≤ c → c ≤ 136 → i ≠ b → ms_A S1 c i = ms_A S c i) ∧ (∀ c i, 137 ≤ c → c ≤ 140 → ¬ (20 * b ≤ i ∧ i < 20 * b + 20) → ms_A S1 c i = ms_A S c i) ∧ (∀ i, ¬ (8 * b ≤ i ∧ i < 8 * b + 8) → ms_A S1 141 i = ms_A S 141 i ∧ ms_L S1 142 i = ms_L S 142 i)
theorem offB.rf {b : Nat} {S : ms_S} : offB b S S := ⟨fun _ _ => rfl, fun _ _ _ => Eqc.rf, fun _ _ _ _ _ => rfl, fun _ _ _ _ _ => rfl, fun _ _ => ⟨rfl, rfl⟩⟩
theorem offB.tr {b : Nat} {S S1 S2 : ms_S} (h : offB b S S1) (q : offB b S1 S2) : offB b S S2 := ⟨fun j hj => (q.1 j hj).trans (h.1 j hj), fun c h1 h2 => (h.2.1 c h1 h2).tr (q.2.1 c h1 h2), fun c i h1 h2 h3 => (q.2.2.1 c i h1 h2 h3).trans (h.2.2.1 c i h1 h2 h3), fun c i h1 h2 h3 => (q.2.2.2.1 c i h1 h2 h3).trans (h.2.2.2.1 c i h1 h2 h3), fun i hi => ⟨((q.2.2.2.2 i hi).1).trans (h.2.2.2.2 i hi).1, ((q.2.2.2.2 i hi).2).trans (h.2.2.2.2 i hi).2⟩⟩
theorem offM.b {b : Nat} {S S1 : ms_S} (h : offM S S1) : offB b S S1 := ⟨h.1, fun c h1 _ => h.2 c h1, fun c i h1 h2 _ => by rw [(h.2 c (by omega)).2.2.2.1], fun c i h1 h2 _ => by rw [(h.2 c (by omega)).2.2.2.1], fun i _ => ⟨by rw [(h.2 141 (by decide)).2.2.2.1], by rw [(h.2 142 (by decide)).2.2.2.2.1]⟩⟩
theorem offB.A {b k i : Nat} {S : ms_S} {v : Int32} (h : (134 ≤ k ∧ k ≤ 136 ∧ i = b) ∨ (137 ≤ k ∧ k ≤ 140 ∧ 20 * b ≤ i ∧ i < 20 * b + 20) ∨ (k = 141 ∧ 8 * b ≤ i ∧ i < 8 * b + 8)) : offB b S (ms_setA S k i v) := by
  refine ⟨fun j _ => by simp only [mGo], fun c h1 h2 => Eqc_A (by omega), fun c q h1 h2 h3 => ?_, fun c q h1 h2 h3 => ?_, fun q h3 => ⟨?_, by simp only [mGo]⟩⟩
  · simp only [mG]; rw [if_neg (by omega)]
  · simp only [mG]; rw [if_neg (by omega)]
  · simp only [mG]; rw [if_neg (by omega)]
theorem offB.L {b i : Nat} {S : ms_S} {v : Int64} (h : 8 * b ≤ i ∧ i < 8 * b + 8) : offB b S (ms_setL S 142 i v) := by
  refine ⟨fun j _ => by simp only [mGo], fun c h1 h2 => Eqc_L (by omega), fun c q h1 h2 h3 => by simp only [mGo], fun c q h1 h2 h3 => by simp only [mGo], fun q h3 => ⟨by simp only [mGo], ?_⟩⟩
  simp only [mG]; rw [if_neg (by omega)]
section SM1
variable {N : Nat} {X : Nat → Int32} {L : Nat} {b : Nat}
theorem TkM_A {S : ms_S} {t : Tk} {k i : Nat} {v : Int32} (h : TkM S t) : TkM (ms_setA S k i v) t := by
  unfold TkM at *
  simp only [mGo]
  exact h
theorem TkM_L {S : ms_S} {t : Tk} {k i : Nat} {v : Int64} (h : TkM S t) : TkM (ms_setL S k i v) t := by
  unfold TkM at *
  simp only [mGo]
  exact h
theorem MS_A {S : ms_S} {σ : Sg} {k i : Nat} {v : Int32} (h : MS S X L σ) (hk : k ≠ 133) : MS (ms_setA S k i v) X L σ := by
  obtain ⟨h1, h2⟩ := h
  refine ⟨?_, ?_⟩
  · unfold TxM at *
    simp only [mGo]
    rw [(Eqc_A (show (133 : Nat) ≠ k from fun q => hk q.symm)).2.2.2.1]
    exact h1
  · cases σ with
    | inr j => simp only [mGo]; exact ⟨h2.1, TkM_A h2.2.1, h2.2.2⟩
    | inl e =>
      obtain ⟨⟨t, t1, t2⟩, h3⟩ := h2
      simp only [mGo]
      exact ⟨⟨t, t1, TkM_A t2⟩, h3⟩
theorem MS_L {S : ms_S} {σ : Sg} {k i : Nat} {v : Int64} (h : MS S X L σ) : MS (ms_setL S k i v) X L σ := by
  obtain ⟨h1, h2⟩ := h
  refine ⟨?_, ?_⟩
  · unfold TxM at *
    simp only [mGo]
    exact h1
  · cases σ with
    | inr j => simp only [mGo]; exact ⟨h2.1, TkM_L h2.2.1, h2.2.2⟩
    | inl e =>
      obtain ⟨⟨t, t1, t2⟩, h3⟩ := h2
      simp only [mGo]
      exact ⟨⟨t, t1, TkM_L t2⟩, h3⟩
theorem MS_I {S : ms_S} {σ : Sg} {j : Nat} {v : Int32} (h : MS S X L σ) (hj : ¬ (3 ≤ j ∧ j ≤ 9)) : MS (ms_setI S 131 j v) X L σ := by
  have eI : ∀ q, (3 ≤ q ∧ q ≤ 9) → ms_I (ms_setI S 131 j v) 131 q = ms_I S 131 q := fun q hq => by simp only [mG, true_and, if_neg (show ¬ q = j by omega)]
  have tk : ∀ t, TkM S t → TkM (ms_setI S 131 j v) t := fun t ht => by
    unfold TkM at *
    rw [eI 6 (by omega), eI 7 (by omega), eI 8 (by omega), eI 9 (by omega)]
    simp only [mGo]
    exact ht
  obtain ⟨h1, h2⟩ := h
  refine ⟨?_, ?_⟩
  · unfold TxM at *
    rw [eI 3 (by omega)]
    simp only [mGo]
    exact h1
  · cases σ with
    | inr i => simp only [eI 4 (by omega), eI 5 (by omega)]; exact ⟨h2.1, tk _ h2.2.1, h2.2.2⟩
    | inl e =>
      obtain ⟨⟨t, t1, t2⟩, h3⟩ := h2
      simp only [eI 4 (by omega), eI 5 (by omega)]
      exact ⟨⟨t, t1, tk t t2⟩, h3⟩
/-- must(isWord) -/
theorem mustW {S : ms_S} {σ : Sg} {i : Nat} (hN : 1300 ≤ N) (hb : TxB X L) (hi : i < 31) (h : MS S X L σ) : ∃ v S1, f160 N (K8I i) S = some (v, S) ∧ f162 N v S = some ((), S1) ∧ MS S1 X L (dm X L (100 + i) σ) ∧ offM S S1 := by
  obtain ⟨v, e1, _, e2⟩ := q160 (N := N) hb hi h
  obtain ⟨S1, e3, m1, o1⟩ := q162 (N := N) (ty := 100 + i) hN hb h (by omega) e2
  exact ⟨v, S1, e1, e3, m1, o1⟩
theorem mustS {S : ms_S} {σ : Sg} {c : Nat} (hN : 1300 ≤ N) (hb : TxB X L) (hc : 40 ≤ c ∧ c ≤ 62) (h : MS S X L σ) : ∃ v S1, f159 N (Int32.ofNat c) S = some (v, S) ∧ f162 N v S = some ((), S1) ∧ MS S1 X L (dm X L c σ) ∧ offM S S1 := by
  obtain ⟨v, e1, _, e2⟩ := q159 (N := N) hb hc h
  obtain ⟨S1, e3, m1, o1⟩ := q162 (N := N) (ty := c) hN hb h (by omega) e2
  exact ⟨v, S1, e1, e3, m1, o1⟩
set_option maxHeartbeats 2000000 in
theorem q167 {S : ms_S} {j n : Nat} {cs : List Cl} {ls : List Ld} (hN : 1300 ≤ N) (hb2 : b < 2) (hB : ms_I S 131 21 = Int32.ofNat b) (hb : TxB X L) (h : MS S X L (.inr (j + 1))) (hc : cs.length < 20) (hs : StM S b cs ls n) : ∃ S1, f167 N S = some ((), S1) ∧ MS S1 X L (ac X L 121 (c7 X L (.inr j))) ∧ (gd (c9 X L (.inr j)) = true → StM S1 b (cs ++ [cellV X L (.inr j)]) ls n) ∧ ms_A S1 134 b = Int32.ofNat n ∧ offB b S S1 := by
  obtain ⟨s5, s6, s4, sAr, sLr⟩ := hs
  have C0 : ∃ c, c = cs.length := ⟨_, rfl⟩
  obtain ⟨c, hcc⟩ := C0
  rw [← hcc] at s5 sAr hc
  have B1 : inR (Int32.ofNat b) 2 := ofN_inR (by omega) (by omega)
  have B2 := ofN_cl (i := b) (by omega)
  have e20 : 20 * Int32.ofNat b + Int32.ofNat c = Int32.ofNat (20 * b + c) := by rw [show (20 : Int32) = Int32.ofNat 20 from rfl, ofN_mul, ofN_add]
  have k1 : inR (Int32.ofNat (20 * b + c)) 40 := ofN_inR (by omega) (by omega)
  have k2 := ofN_cl (i := 20 * b + c) (by omega)
  have h : MS S X L (nx (.inr j)) := h
  -- depth
  obtain ⟨v1, S1, e1, e2, q1, o1⟩ := mustW (N := N) (i := 17) hN hb (by omega) h
  have q1 : MS S1 X L (c2 X L (.inr j)) := q1
  obtain ⟨v3, S3, e3, p3, q3, o3⟩ := q163 (N := N) (lo := 1) (hi := 99) hN hb q1
  have W1e : ∃ W, W = ms_setA S3 137 (20 * b + c) v3 := ⟨_, rfl⟩
  obtain ⟨W1, hW1⟩ := W1e
  have q3 : MS W1 X L (nb X L 1 99 (c2 X L (.inr j))) := by rw [hW1]; exact MS_A q3 (by omega)
  have g1 : offM S S3 := o1.tr o3
  -- bend
  obtain ⟨v4, S4, e4, e5, q4, o4⟩ := mustW (N := N) (i := 18) hN hb (by omega) q3
  have q4 : MS S4 X L (c4 X L (.inr j)) := q4
  obtain ⟨v6, S6, e6, p6, q6, o6⟩ := q163 (N := N) (lo := 0) (hi := 9) hN hb q4
  have W2e : ∃ W, W = ms_setA S6 138 (20 * b + c) v6 := ⟨_, rfl⟩
  obtain ⟨W2, hW2⟩ := W2e
  have q6 : MS W2 X L (c5 X L (.inr j)) := by rw [hW2]; exact MS_A q6 (by omega)
  have g2 : offM W1 S6 := o4.tr o6
  -- flow or back
  obtain ⟨vf, ef, vf01, pf⟩ := q160 (N := N) (i := 19) hb (by omega) q6
  obtain ⟨vb, eb, vb01, pb⟩ := q160 (N := N) (i := 20) hb (by omega) q6
  have key : ∃ S7, f162 N (if vf ≠ 0 then 1 else if vb = 0 then 0 else 1) W2 = some ((), S7) ∧ MS S7 X L (c6 X L (.inr j)) ∧ offM W2 S7 := by
    unfold c6
    by_cases h120 : isT X L 120 (c5 X L (.inr j)) = true
    · rw [if_pos h120]
      obtain ⟨S7, e7, q7, o7⟩ := q162 (N := N) (ty := 120) (v := if vf ≠ 0 then 1 else if vb = 0 then 0 else 1) hN hb q6 (by omega) (fun i hi => by
        have hty : tTy (tkJ X L i) = 120 := by rw [hi] at h120; exact of_decide_eq_true h120
        have := pb i hi
        rw [if_pos hty] at this
        rw [if_pos hty, this]
        split <;> rfl)
      refine ⟨S7, e7, ?_, o7⟩
      unfold dm at q7
      rw [if_pos h120] at q7
      exact q7
    · rw [if_neg h120]
      obtain ⟨S7, e7, q7, o7⟩ := q162 (N := N) (ty := 119) (v := if vf ≠ 0 then 1 else if vb = 0 then 0 else 1) hN hb q6 (by omega) (fun i hi => by
        have hty : tTy (tkJ X L i) ≠ 120 := fun q => h120 (by rw [hi]; exact decide_eq_true q)
        have e1 := pf i hi
        have e2 := pb i hi
        rw [if_neg hty] at e2
        rw [e1, e2]
        by_cases h19 : tTy (tkJ X L i) = 100 + 19
        · rw [if_pos h19]; decide
        · rw [if_neg h19]; decide)
      exact ⟨S7, e7, q7, o7⟩
  obtain ⟨S7, e7, q7, o7⟩ := key
  obtain ⟨v8, S8, e8, p8, q8, o8⟩ := q163 (N := N) (lo := 0) (hi := 9) hN hb q7
  have V0 : ∃ v : Int32, v = if vf = 0 then -v8 else v8 := ⟨_, rfl⟩
  obtain ⟨vc, hvc⟩ := V0
  have W3e : ∃ W, W = ms_setA S8 139 (20 * b + c) vc := ⟨_, rfl⟩
  obtain ⟨W3, hW3⟩ := W3e
  have q8 : MS W3 X L (c7 X L (.inr j)) := by rw [hW3]; exact MS_A q8 (by omega)
  have g3 : offM W2 S8 := o7.tr o8
  -- narrow
  have N0 : ∃ v : Int32, v = if isT X L 121 (c7 X L (.inr j)) = true then 1 else 0 := ⟨_, rfl⟩
  obtain ⟨vn, hvn⟩ := N0
  have vn01 : vn = 0 ∨ vn = 1 := by rw [hvn]; split <;> simp
  have W4e : ∃ W, W = ms_setA W3 140 (20 * b + c) vn := ⟨_, rfl⟩
  obtain ⟨W4, hW4⟩ := W4e
  have q9 : MS W4 X L (c7 X L (.inr j)) := by rw [hW4]; exact MS_A q8 (by omega)
  have a140 : ms_A W4 140 (20 * b + c) = vn := by rw [hW4]; simp [mG]
  have key2 : ∃ S9, (if vn = 0 then (some ((), W4) : Option (Unit × ms_S)) else f158 N W4) = some ((), S9) ∧ MS S9 X L (ac X L 121 (c7 X L (.inr j))) ∧ offM W4 S9 := by
    unfold ac
    by_cases h121 : isT X L 121 (c7 X L (.inr j)) = true
    · rw [if_pos h121] at hvn
      rw [if_pos h121, if_neg (by rw [hvn]; decide)]
      cases hq : c7 X L (.inr j) with
      | inl e => rw [hq] at h121; exact absurd (of_decide_eq_true h121) (by show ¬ ((0 : Nat) = 121); decide)
      | inr i =>
        rw [hq] at q9 h121
        have hty : tTy (tkJ X L i) = 121 := of_decide_eq_true h121
        obtain ⟨S9, e9, m9, o9⟩ := qnext (N := N) hN hb q9 (by omega) (by omega)
        exact ⟨S9, e9, m9, o9⟩
    · rw [if_neg h121] at hvn
      rw [if_neg h121, if_pos hvn]
      exact ⟨W4, rfl, q9, offM.rf⟩
  obtain ⟨S9, e9, q10, o9⟩ := key2
  have bI : ∀ {S' S'' : ms_S}, offM S' S'' → ms_I S'' 131 21 = ms_I S' 131 21 := fun o => o.1 21 (by omega)
  have w1B : ms_I W1 131 21 = Int32.ofNat b := by rw [hW1]; simp only [mGo]; rw [bI g1]; exact hB
  have w2B : ms_I W2 131 21 = Int32.ofNat b := by rw [hW2]; simp only [mGo]; rw [bI g2]; exact w1B
  have w3B : ms_I W3 131 21 = Int32.ofNat b := by rw [hW3]; simp only [mGo]; rw [bI g3]; exact w2B
  have w4B : ms_I W4 131 21 = Int32.ofNat b := by rw [hW4]; simp only [mGo]; exact w3B
  have s9B : ms_I S9 131 21 = Int32.ofNat b := by rw [bI o9]; exact w4B
  have xA : ∀ k, 134 ≤ k → k ≤ 141 → ∀ i, ms_A S9 k i = if k = 137 ∧ i = 20 * b + c then v3 else if k = 138 ∧ i = 20 * b + c then v6 else if k = 139 ∧ i = 20 * b + c then vc else if k = 140 ∧ i = 20 * b + c then vn else ms_A S k i := by
    intro k hk1 hk2 i
    rw [(o9.2 k (by omega)).2.2.2.1, hW4]
    simp only [mG]
    rw [hW3]
    simp only [mG]
    rw [(g3.2 k (by omega)).2.2.2.1, hW2]
    simp only [mG]
    rw [(g2.2 k (by omega)).2.2.2.1, hW1]
    simp only [mG]
    rw [(g1.2 k (by omega)).2.2.2.1]
    by_cases hi : i = 20 * b + c
    · by_cases h37 : k = 137
      · subst h37; simp [hi]
      · by_cases h38 : k = 138
        · subst h38; simp [hi]
        · by_cases h39 : k = 139
          · subst h39; simp [hi]
          · by_cases h40 : k = 140
            · subst h40; simp [hi]
            · simp [h37, h38, h39, h40]
    · simp only [hi, and_false, if_false]
  have xL : ms_L S9 142 = ms_L S 142 := by
    rw [(o9.2 142 (by decide)).2.2.2.2.1, hW4]
    simp only [mGo]
    rw [hW3]
    simp only [mGo]
    rw [(g3.2 142 (by decide)).2.2.2.2.1, hW2]
    simp only [mGo]
    rw [(g2.2 142 (by decide)).2.2.2.2.1, hW1]
    simp only [mGo]
    rw [(g1.2 142 (by decide)).2.2.2.2.1]
  have x135 : ms_A S9 135 b = Int32.ofNat c := by rw [xA 135 (by omega) (by omega), if_neg (by omega), if_neg (by omega), if_neg (by omega), if_neg (by omega)]; exact s5
  refine ⟨ms_setA S9 135 b (Int32.ofNat (c + 1)), ?_, MS_A q10 (by decide), fun hg => ?_, ?_, ?_⟩
  · have m1 : ∀ {β : Type} {f' : Int32 → mM β}, mb (f160 N 431198598248) f' S = f' v1 S := by intro β f'; have e1 : f160 N 431198598248 S = _ := e1; simp only [mb, e1]
    have m2 : ∀ {β : Type} {f' : Unit → mM β}, mb (f162 N v1) f' S = f' () S1 := by intro β f'; simp only [mb, e2]
    have m3 : ∀ {β : Type} {f' : Int32 → mM β}, mb (f163 N 1 99) f' S1 = f' v3 S3 := by intro β f'; simp only [mb, e3]
    have m4 : ∀ {β : Type} {f' : Int32 → mM β}, mb (f160 N 1650814564) f' W1 = f' v4 W1 := by intro β f'; have e4 : f160 N 1650814564 W1 = _ := e4; simp only [mb, e4]
    have m5 : ∀ {β : Type} {f' : Unit → mM β}, mb (f162 N v4) f' W1 = f' () S4 := by intro β f'; simp only [mb, e5]
    have m6 : ∀ {β : Type} {f' : Int32 → mM β}, mb (f163 N 0 9) f' S4 = f' v6 S6 := by intro β f'; simp only [mb, e6]
    have mf : ∀ {β : Type} {f' : Int32 → mM β}, mb (f160 N 1718382455) f' W2 = f' vf W2 := by intro β f'; have ef : f160 N 1718382455 W2 = _ := ef; simp only [mb, ef]
    have mbk : ∀ {β : Type} {f' : Int32 → mM β}, mb (f160 N 1650549611) f' W2 = f' vb W2 := by intro β f'; have eb : f160 N 1650549611 W2 = _ := eb; simp only [mb, eb]
    have m8 : ∀ {β : Type} {f' : Int32 → mM β}, mb (f163 N 0 9) f' S7 = f' v8 S8 := by intro β f'; simp only [mb, e8]
    have tail : ∀ (x2 : Int32), x2 = vf → ∀ y1, f162 N y1 W2 = some ((), S7) → (mb (f162 N y1) fun _ => mb (f163 N 0 9) fun v16 => if x2 = 0 then (mb (sA 139 40 (Int32.ofNat (20 * b + c)) (-v16)) fun _ => mb (f155 N) fun v11 => if v11 = 0 then (mb (sB 140 40 (Int32.ofNat (20 * b + c)) 0) fun _ => mb (lA 140 40 (Int32.ofNat (20 * b + c))) fun v7 => if v7 = 0 then (mb (gI 131 21) fun v1 => mb (lA 135 2 v1) fun v3 => mb (sA 135 2 v1 (v3 + 1)) fun _ => mret ()) else (mb (f158 N) fun _ => (mb (gI 131 21) fun v1 => mb (lA 135 2 v1) fun v3 => mb (sA 135 2 v1 (v3 + 1)) fun _ => mret ()))) else (mb (f160 N 121364810985335) fun v13 => if v13 = 0 then (mb (sB 140 40 (Int32.ofNat (20 * b + c)) 0) fun _ => mb (lA 140 40 (Int32.ofNat (20 * b + c))) fun v7 => if v7 = 0 then (mb (gI 131 21) fun v1 => mb (lA 135 2 v1) fun v3 => mb (sA 135 2 v1 (v3 + 1)) fun _ => mret ()) else (mb (f158 N) fun _ => (mb (gI 131 21) fun v1 => mb (lA 135 2 v1) fun v3 => mb (sA 135 2 v1 (v3 + 1)) fun _ => mret ()))) else (mb (sB 140 40 (Int32.ofNat (20 * b + c)) 1) fun _ => mb (lA 140 40 (Int32.ofNat (20 * b + c))) fun v7 => if v7 = 0 then (mb (gI 131 21) fun v1 => mb (lA 135 2 v1) fun v3 => mb (sA 135 2 v1 (v3 + 1)) fun _ => mret ()) else (mb (f158 N) fun _ => (mb (gI 131 21) fun v1 => mb (lA 135 2 v1) fun v3 => mb (sA 135 2 v1 (v3 + 1)) fun _ => mret ()))))) else (mb (sA 139 40 (Int32.ofNat (20 * b + c)) v16) fun _ => mb (f155 N) fun v11 => if v11 = 0 then (mb (sB 140 40 (Int32.ofNat (20 * b + c)) 0) fun _ => mb (lA 140 40 (Int32.ofNat (20 * b + c))) fun v7 => if v7 = 0 then (mb (gI 131 21) fun v1 => mb (lA 135 2 v1) fun v3 => mb (sA 135 2 v1 (v3 + 1)) fun _ => mret ()) else (mb (f158 N) fun _ => (mb (gI 131 21) fun v1 => mb (lA 135 2 v1) fun v3 => mb (sA 135 2 v1 (v3 + 1)) fun _ => mret ()))) else (mb (f160 N 121364810985335) fun v13 => if v13 = 0 then (mb (sB 140 40 (Int32.ofNat (20 * b + c)) 0) fun _ => mb (lA 140 40 (Int32.ofNat (20 * b + c))) fun v7 => if v7 = 0 then (mb (gI 131 21) fun v1 => mb (lA 135 2 v1) fun v3 => mb (sA 135 2 v1 (v3 + 1)) fun _ => mret ()) else (mb (f158 N) fun _ => (mb (gI 131 21) fun v1 => mb (lA 135 2 v1) fun v3 => mb (sA 135 2 v1 (v3 + 1)) fun _ => mret ()))) else (mb (sB 140 40 (Int32.ofNat (20 * b + c)) 1) fun _ => mb (lA 140 40 (Int32.ofNat (20 * b + c))) fun v7 => if v7 = 0 then (mb (gI 131 21) fun v1 => mb (lA 135 2 v1) fun v3 => mb (sA 135 2 v1 (v3 + 1)) fun _ => mret ()) else (mb (f158 N) fun _ => (mb (gI 131 21) fun v1 => mb (lA 135 2 v1) fun v3 => mb (sA 135 2 v1 (v3 + 1)) fun _ => mret ())))))) W2 = some ((), ms_setA S9 135 b (Int32.ofNat (c + 1))) := by
      intro x2 hx2 y1 hy1
      subst hx2
      have m7 : ∀ {β : Type} {f' : Unit → mM β}, mb (f162 N y1) f' W2 = f' () S7 := by intro β f'; simp only [mb, hy1]
      rw [m7, m8]
      -- behind the current
      have fin : (mb (f155 N) fun v11 => if v11 = 0 then (mb (sB 140 40 (Int32.ofNat (20 * b + c)) 0) fun _ => mb (lA 140 40 (Int32.ofNat (20 * b + c))) fun v7 => if v7 = 0 then (mb (gI 131 21) fun v1 => mb (lA 135 2 v1) fun v3 => mb (sA 135 2 v1 (v3 + 1)) fun _ => mret ()) else (mb (f158 N) fun _ => (mb (gI 131 21) fun v1 => mb (lA 135 2 v1) fun v3 => mb (sA 135 2 v1 (v3 + 1)) fun _ => mret ()))) else (mb (f160 N 121364810985335) fun v13 => if v13 = 0 then (mb (sB 140 40 (Int32.ofNat (20 * b + c)) 0) fun _ => mb (lA 140 40 (Int32.ofNat (20 * b + c))) fun v7 => if v7 = 0 then (mb (gI 131 21) fun v1 => mb (lA 135 2 v1) fun v3 => mb (sA 135 2 v1 (v3 + 1)) fun _ => mret ()) else (mb (f158 N) fun _ => (mb (gI 131 21) fun v1 => mb (lA 135 2 v1) fun v3 => mb (sA 135 2 v1 (v3 + 1)) fun _ => mret ()))) else (mb (sB 140 40 (Int32.ofNat (20 * b + c)) 1) fun _ => mb (lA 140 40 (Int32.ofNat (20 * b + c))) fun v7 => if v7 = 0 then (mb (gI 131 21) fun v1 => mb (lA 135 2 v1) fun v3 => mb (sA 135 2 v1 (v3 + 1)) fun _ => mret ()) else (mb (f158 N) fun _ => (mb (gI 131 21) fun v1 => mb (lA 135 2 v1) fun v3 => mb (sA 135 2 v1 (v3 + 1)) fun _ => mret ()))))) W3 = some ((), ms_setA S9 135 b (Int32.ofNat (c + 1))) := by
        have last : (mb (sB 140 40 (Int32.ofNat (20 * b + c)) vn) fun _ => mb (lA 140 40 (Int32.ofNat (20 * b + c))) fun v7 => if v7 = 0 then (mb (gI 131 21) fun v1 => mb (lA 135 2 v1) fun v3 => mb (sA 135 2 v1 (v3 + 1)) fun _ => mret ()) else (mb (f158 N) fun _ => (mb (gI 131 21) fun v1 => mb (lA 135 2 v1) fun v3 => mb (sA 135 2 v1 (v3 + 1)) fun _ => mret ()))) W3 = some ((), ms_setA S9 135 b (Int32.ofNat (c + 1))) := by
          simp only [mE, k1, k2, vpb vn01, ← hW4, a140]
          by_cases h0 : vn = 0
          · rw [if_pos h0] at e9 ⊢
            have e9 : W4 = S9 := by simpa using e9
            rw [e9]
            simp only [mE, s9B, B1, B2, x135, ofN_s]
          · rw [if_neg h0] at e9 ⊢
            have m9 : ∀ {β : Type} {f' : Unit → mM β}, mb (f158 N) f' W4 = f' () S9 := by intro β f'; simp only [mb, e9]
            rw [m9]
            simp only [mE, s9B, B1, B2, x135, ofN_s]
        rw [E155 q8]
        cases hq : c7 X L (.inr j) with
        | inl e =>
          have : vn = 0 := by rw [hvn, hq]; rfl
          rw [this] at last
          rw [show gd (.inl e) = false from rfl]
          exact last
        | inr i =>
          rw [show gd (.inr i) = true from rfl, if_pos rfl, if_neg (by decide)]
          obtain ⟨vw, ew, vw01, pw⟩ := q160 (N := N) (i := 21) hb (by omega) q8
          have mw : ∀ {β : Type} {f' : Int32 → mM β}, mb (f160 N 121364810985335) f' W3 = f' vw W3 := by intro β f'; have ew : f160 N 121364810985335 W3 = _ := ew; simp only [mb, ew]
          have hvw : vw = vn := by
            rw [pw i hq, hvn, hq]
            by_cases h21 : tTy (tkJ X L i) = 121
            · rw [if_pos h21, if_pos (show isT X L 121 (.inr i) = true from decide_eq_true h21)]
            · rw [if_neg h21, if_neg (show ¬ isT X L 121 (.inr i) = true from fun q => h21 (of_decide_eq_true q))]
          rw [mw, hvw]
          rcases vn01 with h0 | h1
          · rw [h0] at last ⊢
            rw [if_pos rfl]
            exact last
          · rw [h1] at last ⊢
            rw [if_neg (by decide)]
            exact last
      by_cases hf0 : x2 = 0
      · rw [if_pos hf0] at hvc ⊢
        simp only [mE, k1, k2, ← hvc, ← hW3]
        exact fin
      · rw [if_neg hf0] at hvc ⊢
        simp only [mE, k1, k2, ← hvc, ← hW3]
        exact fin
    unfold f167
    simp only [mE, hB, B1, B2, s5, e20]
    rw [m1, m2, m3]
    simp only [mE, k1, k2, ← hW1]
    rw [m4, m5, m6]
    simp only [mE, k1, k2, ← hW2]
    rw [mf]
    by_cases hf0 : vf ≠ 0
    · rw [if_pos hf0] at e7 ⊢
      exact tail vf rfl 1 e7
    · rw [if_neg hf0] at e7 ⊢
      rw [mbk]
      by_cases hb0 : vb = 0
      · rw [if_pos hb0] at e7 ⊢
        exact tail vf rfl 0 e7
      · rw [if_neg hb0] at e7 ⊢
        exact tail vf rfl 1 e7
  · obtain ⟨_, g3', g5', g8', _, _, _, gc7⟩ := gd_c9 hg
    have h3 := gd_nb (show gd (nb X L 0 9 (c6 X L (.inr j))) = true from gc7)
    have h4 := gd_c6 h3.1
    have h5 := gd_nb (show gd (nb X L 0 9 (c4 X L (.inr j))) = true from h4.1)
    have h6 := gd_dm (show gd (dm X L 118 (nb X L 1 99 (c2 X L (.inr j)))) = true from h5.1)
    have ing : ∀ {σ : Sg}, gd σ = true → ∃ i, σ = .inr i := fun {σ} hg => by cases σ with | inl e => cases hg | inr i => exact ⟨i, rfl⟩
    obtain ⟨i3, hi3⟩ := ing h6.1
    obtain ⟨i5, hi5⟩ := ing h4.1
    obtain ⟨i7, hi7⟩ := ing gc7
    have ev3 := p3 i3 hi3
    have ev6 := p6 i5 hi5
    have ev8 := p8 i7 hi7
    have evc : vc = if isT X L 120 (c5 X L (.inr j)) = true then -(nuV X L (c6 X L (.inr j))) else nuV X L (c6 X L (.inr j)) := by
      rw [hvc, ev8]
      have ef := pf i5 hi5
      by_cases h120 : isT X L 120 (c5 X L (.inr j)) = true
      · have hty : tTy (tkJ X L i5) = 120 := by rw [hi5] at h120; exact of_decide_eq_true h120
        rw [if_neg (by rw [hty]; decide)] at ef
        rw [if_pos ef, if_pos h120]
      · rw [if_neg h120]
        have h119 : isT X L 119 (c5 X L (.inr j)) = true := by
          have := h3.1
          unfold c6 at this
          rw [if_neg h120] at this
          exact (gd_dm this).2.1
        have hty : tTy (tkJ X L i5) = 119 := by rw [hi5] at h119; exact of_decide_eq_true h119
        rw [if_pos (show tTy (tkJ X L i5) = 100 + 19 from hty)] at ef
        rw [if_neg (by rw [ef]; decide)]
    have eV : cellV X L (.inr j) = (v3, v6, vc, vn) := by
      rw [evc, hvn, ev3, ev6]
      rfl
    have yA : ∀ k, 134 ≤ k → k ≤ 141 → ∀ i, ms_A (ms_setA S9 135 b (Int32.ofNat (c + 1))) k i = if k = 135 ∧ i = b then Int32.ofNat (c + 1) else ms_A S9 k i := fun k _ _ i => by simp only [mG]
    refine ⟨?_, ?_, ?_, fun i hi => ?_, fun i hi => ?_⟩
    · rw [yA 135 (by omega) (by omega), if_pos ⟨rfl, rfl⟩, List.length_append, ← hcc]; rfl
    · rw [yA 136 (by omega) (by omega), if_neg (by omega), xA 136 (by omega) (by omega), if_neg (by omega), if_neg (by omega), if_neg (by omega), if_neg (by omega)]; exact s6
    · rw [yA 134 (by omega) (by omega), if_neg (by omega), xA 134 (by omega) (by omega), if_neg (by omega), if_neg (by omega), if_neg (by omega), if_neg (by omega)]; exact s4
    · rw [List.length_append, ← hcc] at hi
      have hi : i < c + 1 := hi
      rw [yA 137 (by omega) (by omega), yA 138 (by omega) (by omega), yA 139 (by omega) (by omega), yA 140 (by omega) (by omega), if_neg (by omega), if_neg (by omega), if_neg (by omega), if_neg (by omega), xA 137 (by omega) (by omega), xA 138 (by omega) (by omega), xA 139 (by omega) (by omega), xA 140 (by omega) (by omega), getD_snoc, ← hcc]
      by_cases e : i = c
      · subst e
        rw [if_neg (Nat.lt_irrefl _), if_pos rfl, eV]
        refine ⟨?_, ?_, ?_, ?_⟩ <;> simp
      · rw [if_pos (show i < c by omega)]
        rw [if_neg (by omega), if_neg (by omega), if_neg (by omega), if_neg (by omega), if_neg (by omega), if_neg (by omega), if_neg (by omega), if_neg (by omega), if_neg (by omega), if_neg (by omega), if_neg (by omega), if_neg (by omega), if_neg (by omega), if_neg (by omega), if_neg (by omega), if_neg (by omega)]
        exact sAr i (by omega)
    · rw [yA 141 (by omega) (by omega), if_neg (by omega), xA 141 (by omega) (by omega), if_neg (by omega), if_neg (by omega), if_neg (by omega), if_neg (by omega)]
      simp only [mGo]
      rw [xL]
      exact sLr i hi
  · simp only [mG]
    rw [if_neg (by omega), xA 134 (by omega) (by omega), if_neg (by omega), if_neg (by omega), if_neg (by omega), if_neg (by omega)]
    exact s4
  · have f1 : offB b S W1 := by rw [hW1]; exact g1.b.tr (offB.A (by omega))
    have f2 : offB b W1 W2 := by rw [hW2]; exact g2.b.tr (offB.A (by omega))
    have f3 : offB b W2 W3 := by rw [hW3]; exact g3.b.tr (offB.A (by omega))
    have f4 : offB b W3 W4 := by rw [hW4]; exact offB.A (by omega)
    exact ((((f1.tr f2).tr f3).tr f4).tr o9.b).tr (offB.A (by omega))
end SM1
