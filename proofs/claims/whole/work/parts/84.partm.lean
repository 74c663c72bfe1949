/-! part in the reference -/
section PRM
variable {N : Nat} {A : Ab} {a b : Nat}
theorem parted_env {S : ms_S} {t g d w : Nat} (h : mBase S A) (hw : WF0 A) : mEnv (askW S (Int32.ofNat t) 100 5 (Int32.ofNat g) (Int32.ofNat d) 0 (Int32.ofNat w) (landP A)) (fun j => if j < 8 then Gp A t g d w j else ms_I S 131 (51 + j)) (landP A) := by
  obtain ⟨_, _, ⟨bk, hb, hB, ⟨_, _, _, _, hld⟩⟩, _⟩ := h
  refine ⟨fun j hj hj7 => ?_, by simp [askW, mG], bk, hb, by rw [askW_I (by omega)]; exact hB, ?_⟩
  · by_cases h8 : j < 8
    · simp only [if_pos h8]
      unfold Gp askW
      simp only [mG]
      match j, h8, hj7 with
      | 0, _, _ => simp
      | 1, _, _ => simp
      | 2, _, _ => simp
      | 3, _, _ => simp
      | 4, _, _ => simp
      | 5, _, _ => simp
      | 6, _, _ => simp
      | j + 7, h8, h7 => exact absurd h8 (by omega)
    · simp only [if_neg h8]
      rw [askW_I (by omega)]
  · unfold landP
    have e7 : (fun j => if j < 8 then Gp A t g d w j else ms_I S 131 (51 + j)) 7 = shP A := rfl
    rw [e7]
    unfold shP
    by_cases hz : aN A 2 = 0
    · left; rw [if_pos hz, if_pos hz]; exact ⟨rfl, rfl⟩
    · right
      rw [if_neg hz, if_neg hz]
      refine ⟨0, by omega, rfl, ?_⟩
      rw [(askW_E (by decide)).2.2.2.1, (hld 0 (by omega)).1]
      rcases (hw.2.2.2.2.1 0 (by omega)).1 with w | w <;> rw [w] <;> rfl
theorem q250 {S : ms_S} {t g d w : Nat} (hN : 1300 ≤ N) (h : mBase S A) (hw : WF0 A) (hv : WFv A) (ha : a < 4) (hb : b < 4) : ∃ S1, f250 N (Int32.ofNat a) (Int32.ofNat b) (Int32.ofNat t) (Int32.ofNat g) (Int32.ofNat d) (Int32.ofNat w) S = some (if kdP A a t g d w = kdP A b t g d w then 0 else 1, S1) ∧ ms_I S1 131 110 = kdP A a t g d w ∧ ms_I S1 131 111 = kdP A b t g d w ∧ (∀ k, (k < 51 ∨ 58 < k) → k ≠ 110 → k ≠ 111 → ms_I S1 131 k = ms_I S 131 k) ∧ ∀ c, c ≠ 131 → c ≠ 154 → c ≠ 166 → Eqc S S1 c := by
  have hb0 := h
  have hEnv := parted_env (t := t) (g := g) (d := d) (w := w) h hw
  obtain ⟨_, _, ⟨bk, hbk, hB, ⟨_, h136, _⟩⟩, _, _, _, cv⟩ := h
  have hn2 := hw.1.2.2.1
  obtain ⟨S1, e1, k1⟩ := q208 (N := N) (s := a) hN (mCvAt_fr (cv a ha) (fun c h1 h2 => askW_E (by omega)) (askW_E (by decide))) hv ha hEnv
  rw [kindG (G' := Gp A t g d w) hv ha (fun j hj => if_pos hj)] at e1
  have I1 : ∀ k, k ≠ 110 → ms_I (ms_setI S1 131 110 (kdP A a t g d w)) 131 k = ms_I (askW S (Int32.ofNat t) 100 5 (Int32.ofNat g) (Int32.ofNat d) 0 (Int32.ofNat w) (landP A)) 131 k := fun k hk => by
    simp only [mG, hk, and_false, if_false]
    rw [(k1 131 (by decide) (by decide)).1]
  have E1 : ∀ c, c ≠ 131 → c ≠ 154 → c ≠ 166 → Eqc S (ms_setI S1 131 110 (kdP A a t g d w)) c := fun c h1 h2 h3 => ((askW_E h1).tr (k1 c h2 h3)).tr (Eqc_I h1)
  have hEnv2 : mEnv (ms_setI S1 131 110 (kdP A a t g d w)) (fun j => if j < 8 then Gp A t g d w j else ms_I S 131 (51 + j)) (landP A) := by
    obtain ⟨g1, g2, b', hb', hB', hs'⟩ := hEnv
    refine ⟨fun j hj hj7 => by rw [I1 _ (by omega)]; exact g1 j hj hj7, by rw [I1 _ (by omega)]; exact g2, b', hb', by rw [I1 _ (by omega)]; exact hB', ?_⟩
    have e141 : ms_A (ms_setI S1 131 110 (kdP A a t g d w)) 141 = ms_A (askW S (Int32.ofNat t) 100 5 (Int32.ofNat g) (Int32.ofNat d) 0 (Int32.ofNat w) (landP A)) 141 := by
      simp only [mGo]
      exact (k1 141 (by decide) (by decide)).2.2.2.1
    rw [e141]; exact hs'
  obtain ⟨S2, e2, k2⟩ := q208 (N := N) (s := b) hN (mCvAt_fr (cv b hb) (fun c h1 h2 => E1 c (by omega) (by omega) (by omega)) (E1 156 (by decide) (by decide) (by decide))) hv hb hEnv2
  rw [kindG (G' := Gp A t g d w) hv hb (fun j hj => if_pos hj)] at e2
  have v110 : ms_I (ms_setI S2 131 111 (kdP A b t g d w)) 131 110 = kdP A a t g d w := by
    simp only [mG, show ¬ ((110 : Nat) = 111) by decide, and_false, if_false]
    rw [(k2 131 (by decide) (by decide)).1]
    simp [mG]
  have v111 : ms_I (ms_setI S2 131 111 (kdP A b t g d w)) 131 111 = kdP A b t g d w := by simp [mG]
  refine ⟨ms_setI S2 131 111 (kdP A b t g d w), ?_, v110, v111, fun k hk h1 h2 => ?_, fun c h1 h2 h3 => ((E1 c h1 h2 h3).tr (k2 c h2 h3)).tr (Eqc_I h1)⟩
  · have m1 : ∀ {β : Type} {f : Int32 → mM β}, mb (f208 N (Int32.ofNat a)) f (askW S (Int32.ofNat t) 100 5 (Int32.ofNat g) (Int32.ofNat d) 0 (Int32.ofNat w) (landP A)) = f (kdP A a t g d w) S1 := by intro β f; simp only [mb, e1]; rfl
    have m2 : ∀ {β : Type} {f : Int32 → mM β}, mb (f208 N (Int32.ofNat b)) f (ms_setI S1 131 110 (kdP A a t g d w)) = f (kdP A b t g d w) S2 := by intro β f; simp only [mb, e2]; rfl
    have i1 : inR (Int32.ofNat bk) 2 := ofN_inR hbk (by omega)
    have tail : (mb (f208 N (Int32.ofNat a)) fun v2 => mb (pI 131 110 v2) fun _ => mb (f208 N (Int32.ofNat b)) fun v5 => mb (pI 131 111 v5) fun _ => mb (gI 131 110) fun v8 => mb (gI 131 111) fun v10 => if v8 = v10 then (mretZ 0) else (mretZ 1)) (askW S (Int32.ofNat t) 100 5 (Int32.ofNat g) (Int32.ofNat d) 0 (Int32.ofNat w) (landP A)) = some (if kdP A a t g d w = kdP A b t g d w then 0 else 1, ms_setI S2 131 111 (kdP A b t g d w)) := by
      rw [m1]
      simp only [mE, m2, v110, v111]
      by_cases hk : kdP A a t g d w = kdP A b t g d w
      · rw [if_pos hk, if_pos hk]; simp only [mE, true_or]
      · rw [if_neg hk, if_neg hk]; simp only [mE, or_true]
    unfold f250
    simp only [mE]
    have r20 : ms_I (ms_setI (ms_setI (ms_setI (ms_setI (ms_setI (ms_setI (ms_setI S 131 51 (Int32.ofNat t)) 131 52 100) 131 53 5) 131 54 (Int32.ofNat g)) 131 55 (Int32.ofNat d)) 131 56 0) 131 57 (Int32.ofNat w)) 131 20 = Int32.ofNat bk := by
      simp only [mG]
      simp
      exact hB
    rw [r20]
    simp only [mE, i1, ofN_cl (i := bk) (by omega), mGo, h136]
    unfold askW landP at tail
    by_cases hz : aN A 2 = 0
    · have hle : Int32.ofNat (aN A 2) ≤ 0 := by rw [hz]; decide
      rw [if_pos hle]
      rw [if_pos hz] at tail
      exact tail
    · have hle : ¬ Int32.ofNat (aN A 2) ≤ 0 := fun q => by have := (ofN_le (i := aN A 2) (j := 0) (by omega) (by omega)).1 q; omega
      rw [if_neg hle]
      rw [if_neg hz] at tail
      exact tail
  · simp only [mG, h2, and_false, if_false]
    rw [(k2 131 (by decide) (by decide)).1, I1 k h1, askW_I hk]
theorem partL_M {wh : Int32} (hN : 1300 ≤ N) (hw : WF0 A) (hv : WFv A) (ha : a < 4) (hb : b < 4) : ∀ m i n (S : ms_S), m + i = 25200 → m < n → mBase S A → ∃ S1, f251_L29 N (fun (x1 : Int32) (x2 : Int32) (x3 : Int32) (x4 : Int32) (x5 : Int32) (x6 : Int32) (x7 : Int32) (x8 : Int32) => (mlet (fun (x1 : Int32) (x2 : Int32) (x3 : Int32) (x4 : Int32) (x5 : Int32) (x6 : Int32) (x7 : Int32) (x8 : Int32) (y0 : Int32) => (mret y0)) fun J145 => if x3 ≠ 0 then (if x3 ≠ 1 then (if x3 ≠ 2 then (if x3 ≠ 3 then (if x3 ≠ 4 then (mb (gI 131 111) fun v21 => J145 x1 x2 x3 x4 x5 x6 x7 x8 v21) else (mb (gI 131 110) fun v23 => J145 x1 x2 x3 x4 x5 x6 x7 x8 v23)) else (J145 x1 x2 x3 x4 x5 x6 x7 x8 x5)) else (J145 x1 x2 x3 x4 x5 x6 x7 x8 x6)) else (J145 x1 x2 x3 x4 x5 x6 x7 x8 x7)) else (J145 x1 x2 x3 x4 x5 x6 x7 x8 x8))) (fun (x1 : Int32) (x2 : Int32) (x3 : Int32) (x4 : Int32) => (mret (-2))) n (Int32.ofNat a) (Int32.ofNat b) wh (Int32.ofNat i) S = some (pickP A a b (srch (fV A a b) m i) wh, S1) ∧ mBase S1 A ∧ ∀ c, c ≠ 131 → c ≠ 154 → c ≠ 166 → Eqc S S1 c := by
  intro m
  induction m with
  | zero =>
    intro i n S hi hn h
    obtain ⟨n, rfl⟩ : ∃ q, n = q + 1 := ⟨n - 1, by omega⟩
    have e : i = 25200 := by omega
    subst e
    refine ⟨S, ?_, h, fun _ _ _ _ => Eqc.rf⟩
    rw [f251_L29, if_pos (by decide)]; rfl
  | succ m ih =>
    intro i n S hi hn h
    obtain ⟨n, rfl⟩ : ∃ q, n = q + 1 := ⟨n - 1, by omega⟩
    have hge : ¬ Int32.ofNat i ≥ 25200 := fun q => by
      rw [show (25200 : Int32) = Int32.ofNat 25200 from rfl] at q
      have := (ofN_le (i := 25200) (j := i) (by omega) (by omega)).1 q
      omega
    have hd2 : i / 2 < 2147483648 := by omega
    have hd12 : i / 12 < 2147483648 := by omega
    obtain ⟨S1, e1, v110, v111, k1, k2⟩ := q250 (N := N) (S := S) (a := a) (b := b) (t := i / 252) (g := i / 12 % 21) (d := i / 2 % 6) (w := i % 2) hN h hw hv ha hb
    have hb1 : mBase S1 A := mBase_fr h (fun k hk => k1 k (by unfold tellM at hk; omega) (by unfold tellM at hk; omega) (by unfold tellM at hk; omega)) (fun c h1 h2 => k2 c (by omega) (by unfold scrM at h2; omega) (by unfold scrM at h2; omega))
    have m1 : ∀ {β : Type} {f : Int32 → mM β}, mb (f250 N (Int32.ofNat a) (Int32.ofNat b) (Int32.ofNat (i / 252)) (Int32.ofNat (i / 12 % 21)) (Int32.ofNat (i / 2 % 6)) (Int32.ofNat (i % 2))) f S = f (if kdP A a (i / 252) (i / 12 % 21) (i / 2 % 6) (i % 2) = kdP A b (i / 252) (i / 12 % 21) (i / 2 % 6) (i % 2) then 0 else 1) S1 := by intro β f; simp only [mb, e1]
    have n2 : (2 : Int32) ≠ 0 := by decide
    have n6 : (6 : Int32) ≠ 0 := by decide
    have n12 : (12 : Int32) ≠ 0 := by decide
    have n21 : (21 : Int32) ≠ 0 := by decide
    have n252 : (252 : Int32) ≠ 0 := by decide
    have r2 : Int32.ofNat i - Int32.ofNat i / 2 * 2 = Int32.ofNat (i % 2) := ofN_rem (k := 2) (by omega) (by omega)
    have d2 : Int32.ofNat i / 2 = Int32.ofNat (i / 2) := ofN_div (k := 2) (by omega) (by omega)
    have r6 : Int32.ofNat (i / 2) - Int32.ofNat (i / 2) / 6 * 6 = Int32.ofNat (i / 2 % 6) := ofN_rem (k := 6) hd2 (by omega)
    have d12 : Int32.ofNat i / 12 = Int32.ofNat (i / 12) := ofN_div (k := 12) (by omega) (by omega)
    have r21 : Int32.ofNat (i / 12) - Int32.ofNat (i / 12) / 21 * 21 = Int32.ofNat (i / 12 % 21) := ofN_rem (k := 21) hd12 (by omega)
    have d252 : Int32.ofNat i / 252 = Int32.ofNat (i / 252) := ofN_div (k := 252) (by omega) (by omega)
    rw [f251_L29, if_neg hge, Erem n2, r2, Ediv2 n2, d2, Erem n6, r6, Ediv2 n12, d12, Erem n21, r21, Ediv2 n252, d252, m1]
    by_cases hk : kdP A a (i / 252) (i / 12 % 21) (i / 2 % 6) (i % 2) = kdP A b (i / 252) (i / 12 % 21) (i / 2 % 6) (i % 2)
    · rw [if_pos hk, if_neg (by simp), ofN_s]
      obtain ⟨S2, e2, b2, g2⟩ := ih (i + 1) n S1 (by omega) (by omega) hb1
      refine ⟨S2, ?_, b2, fun c h1 h2 h3 => (k2 c h1 h2 h3).tr (g2 c h1 h2 h3)⟩
      rw [srch, show fV A a b i = none from fW_none.2 hk]
      exact e2
    · rw [if_neg hk, if_pos (by decide)]
      refine ⟨S1, ?_, hb1, k2⟩
      have hs : srch (fV A a b) (m + 1) i = some (i / 252, i / 12 % 21, i / 2 % 6, i % 2) := by
        rw [srch]
        have : fV A a b i = some (i / 252, i / 12 % 21, i / 2 % 6, i % 2) := by unfold fV fW; rw [if_neg hk]
        rw [this]
      rw [hs]
      simp only [mlet, pickP]
      by_cases w0 : wh = 0
      · simp only [w0, ne_eq, not_true_eq_false, if_false, if_true]; rfl
      · by_cases w1 : wh = 1
        · simp only [w1, ne_eq, not_true_eq_false, i10, not_false_eq_true, if_false, if_true]; rfl
        · by_cases w2 : wh = 2
          · rw [if_pos w0, if_pos w1, if_neg (fun q => q w2), if_neg w0, if_neg w1, if_pos w2]; rfl
          · by_cases w3 : wh = 3
            · rw [if_pos w0, if_pos w1, if_pos w2, if_neg (fun q => q w3), if_neg w0, if_neg w1, if_neg w2, if_pos w3]; rfl
            · by_cases w4 : wh = 4
              · rw [if_pos w0, if_pos w1, if_pos w2, if_pos w3, if_neg (fun q => q w4), if_neg w0, if_neg w1, if_neg w2, if_neg w3, if_pos w4]
                simp only [mE, v110]
              · rw [if_pos w0, if_pos w1, if_pos w2, if_pos w3, if_pos w4, if_neg w0, if_neg w1, if_neg w2, if_neg w3, if_neg w4]
                simp only [mE, v111]
theorem M_part {S : ms_S} {x y w : Int32} (hN : 30000 ≤ N) (h : mBase S A) (hw : WF0 A) (hv : WFv A) : MP (f251 N x y w) S (ansPart A x y w) A := by
  have e176 : ∀ {z : Int32} {β : Type} {f : Int32 → mM β}, mb (f176 N z) f S = f (if 0 ≤ z ∧ z < 4 then 1 else 0) S := by intro z β f; simp only [mb, q176]
  by_cases hx : 0 ≤ x ∧ x < 4
  · by_cases hy : 0 ≤ y ∧ y < 4
    · by_cases hz : 0 ≤ w ∧ w ≤ 5
      · obtain ⟨a, ha, rfl⟩ := i32_nat (n := 4) hx.1 (by omega) hx.2
        obtain ⟨b, hb4, rfl⟩ := i32_nat (n := 4) hy.1 (by omega) hy.2
        have hans : ansPart A (Int32.ofNat a) (Int32.ofNat b) w = pickP A a b (partM A a b) w := by
          unfold ansPart
          rw [if_pos ⟨hx, hy, hz⟩, ofN_cl (by omega), ofN_cl (by omega)]
        obtain ⟨S1, e1, b1, k1⟩ := partL_M (N := N) (a := a) (b := b) (wh := w) (by omega) hw hv ha hb4 25200 0 N S (by omega) (by omega) h
        refine ⟨S1, ?_, b1, fun c hc => k1 c (by omega) (by omega) (by omega)⟩
        unfold f251
        simp only [mlet]
        rw [e176, if_pos hx, if_neg (by decide), e176, if_pos hy, if_neg (by decide), E195, if_pos hz, if_pos (by decide), hans]
        exact e1
      · have hA : ansPart A x y w = -2 := by unfold ansPart; rw [if_neg (fun q => hz q.2.2)]
        rw [hA]
        refine MP_same h ?_
        unfold f251
        simp only [mlet]
        rw [e176, if_pos hx, if_neg (by decide), e176, if_pos hy, if_neg (by decide), E195, if_neg hz, if_neg (by decide)]; rfl
    · have hA : ansPart A x y w = -2 := by unfold ansPart; rw [if_neg (fun q => hy q.2.1)]
      rw [hA]
      refine MP_same h ?_
      unfold f251
      simp only [mlet]
      rw [e176, if_pos hx, if_neg (by decide), e176, if_neg hy, if_pos rfl]; rfl
  · have hA : ansPart A x y w = -2 := by unfold ansPart; rw [if_neg (fun q => hx q.1)]
    rw [hA]
    refine MP_same h ?_
    unfold f251
    simp only [mlet]
    rw [e176, if_neg hx, if_pos rfl]; rfl
end PRM
