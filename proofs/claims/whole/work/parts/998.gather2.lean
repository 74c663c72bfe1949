/-! the reference gathers a day's passages, whole -/
section GA2
variable {N : Nat} {A : Ab}
theorem q234 {p f : Nat} {S : ms_S} (hN : 100 ≤ N) (hw : WF0 A) (hp : p < 8) (hf : f < aN A 4) (hps : isPs A f = true) (h : mBase S A) (h92 : ms_I S 131 92 = gF A) (h93 : ms_I S 131 93 = gT A) (h180 : ms_A S 180 p = Int32.ofNat f) (h188 : ms_A S 188 p = aX A 22 f) : ∃ S1, f234 N (Int32.ofNat p) S = some ((), S1) ∧ ms_A S1 181 p = Int32.ofNat (rdA A f) ∧ ms_A S1 182 p = Int32.ofNat (thA A f) ∧ (∀ q, q ≠ p → ms_A S1 181 q = ms_A S 181 q ∧ ms_A S1 182 q = ms_A S 182 q) ∧ ∀ b, b ≠ 181 → b ≠ 182 → Eqc S S1 b := by
  have hn1 : aN A 1 ≤ 20 := hw.1.2.1
  have hn4 : aN A 4 ≤ 200 := hw.1.2.2.2.2.1
  obtain ⟨hs, es⟩ := shO_lt hw hf hps
  have p1 : inR (Int32.ofNat p) 8 := ofN_inR (by omega) (by omega)
  have p2 := ofN_cl (i := p) (by omega)
  have f1 : inR (Int32.ofNat f) 200 := ofN_inR (by omega) (by omega)
  have f2 := ofN_cl (i := f) (by omega)
  have a167 : ms_A S 167 f = Int32.ofNat (shO A f) := by
    rw [(h.2.2.2.2.1.2 f hf).2.2.1, if_neg (of_decide_eq_true hps)]; exact es
  have X0 : ∃ X, X = ms_setA (ms_setA S 181 p 0) 182 p 0 := ⟨_, rfl⟩
  obtain ⟨X, hX⟩ := X0
  have oX : ∀ b, b ≠ 181 → b ≠ 182 → Eqc S X b := fun b h1 h2 => by rw [hX]; exact (Eqc_A h1).tr (Eqc_A h2)
  have x181 : ms_A X 181 p = 0 := by rw [hX]; simp [mG]
  have x182 : ms_A X 182 p = 0 := by rw [hX]; simp [mG]
  have xq : ∀ q, q ≠ p → ms_A X 181 q = ms_A S 181 q ∧ ms_A X 182 q = ms_A S 182 q := fun q hq => by rw [hX]; simp [mG, hq]
  have x92 : ms_I X 131 92 = gF A := by rw [(oX 131 (by decide) (by decide)).1]; exact h92
  have x93 : ms_I X 131 93 = gT A := by rw [(oX 131 (by decide) (by decide)).1]; exact h93
  have hbX : mBase X A := mBase_fr h (fun j _ => by rw [(oX 131 (by decide) (by decide)).1]) (fun b h1 h2 => oX b (by unfold scrM at h2; omega) (by unfold scrM at h2; omega))
  have key : ∃ S1, f234_L36 N (fun _ _ _ _ => mret ()) N (Int32.ofNat p) (Int32.ofNat (shO A f)) (aX A 22 f) 0 X = some ((), S1) ∧ ms_A S1 181 p = Int32.ofNat (rdA A f) ∧ ms_A S1 182 p = Int32.ofNat (thA A f) ∧ (∀ q, q ≠ p → ms_A S1 181 q = ms_A X 181 q ∧ ms_A S1 182 q = ms_A X 182 q) ∧ ∀ b, b ≠ 181 → b ≠ 182 → Eqc X S1 b := by
    by_cases hg : gF A = -1
    · refine ⟨X, ?_, ?_, ?_, fun _ _ => ⟨rfl, rfl⟩, fun _ _ _ => Eqc.rf⟩
      · obtain ⟨n, rfl⟩ : ∃ q, N = q + 1 := ⟨N - 1, by omega⟩
        obtain ⟨_, _, ⟨b, hb, hB, hst⟩, _⟩ := hbX
        have m170 : ∀ {β : Type} {f' : Int32 → mM β}, mb (f170 (n + 1)) f' X = f' (Int32.ofNat (aN A 1)) X := by intro β f'; simp only [mb, q170 hb hB, hst.1]
        rw [f234_L36, m170]
        simp only [mE, x92]
        rw [if_pos (show gF A < 0 by rw [hg]; decide)]
        split <;> rfl
      · unfold rdA; rw [if_pos hg]; exact x181
      · unfold thA; rw [if_pos hg]; exact x182
    · exact comesL (N := N) hw hp hf hps hg (aN A 1) 0 N X (by omega) (by omega) hbX x92 x93 (by rw [x181]; rfl) (by rw [x182]; rfl)
  obtain ⟨S1, e1, r1, r2, k1, o1⟩ := key
  refine ⟨S1, ?_, r1, r2, fun q hq => ⟨((k1 q hq).1).trans (xq q hq).1, ((k1 q hq).2).trans (xq q hq).2⟩, fun b h1 h2 => (oX b h1 h2).tr (o1 b h1 h2)⟩
  unfold f234
  simp only [mE, p1, p2, h180, f1, f2, a167, h188]
  rw [← hX]
  exact e1
def offGa (S S1 : ms_S) : Prop := (∀ k, tellM k ∨ k = 92 ∨ k = 93 → ms_I S1 131 k = ms_I S 131 k) ∧ ∀ b, b ≠ 131 → b ≠ 154 → b ≠ 166 → ¬ (180 ≤ b ∧ b ≤ 182) → ¬ (187 ≤ b ∧ b ≤ 188) → Eqc S S1 b
theorem offGa.rf {S : ms_S} : offGa S S := ⟨fun _ _ => rfl, fun _ _ _ _ _ _ => Eqc.rf⟩
theorem offGa.tr {S S1 S2 : ms_S} (h : offGa S S1) (k : offGa S1 S2) : offGa S S2 := ⟨fun j hj => (k.1 j hj).trans (h.1 j hj), fun b h1 h2 h3 h4 h5 => (h.2 b h1 h2 h3 h4 h5).tr (k.2 b h1 h2 h3 h4 h5)⟩
theorem offGa_base {S S1 : ms_S} (h : mBase S A) (o : offGa S S1) : mBase S1 A := mBase_fr h (fun j hj => o.1 j (Or.inl hj)) (fun b h1 h2 => o.2 b (by omega) (by unfold scrM at h2; omega) (by unfold scrM at h2; omega) (by unfold scrM at h2; omega) (by unfold scrM at h2; omega))
set_option maxHeartbeats 1000000 in
theorem gathL {s : Nat} {d k : Int32} (hN : 1300 ≤ N) (hw : WF0 A) (hv : WFv A) (hs : s < 4) : ∀ m i n (S : ms_S), m + i = aN A 4 → m < n → mBase S A → ms_I S 131 92 = gF A → ms_I S 131 93 = gT A → (∀ j, j < aN A 4 → ms_A S 174 j = (ledM A s k d).2.2.1 j) → RwM S A s (dayL A s k d i) → ∃ S1, f235_L19 N (fun _ _ _ _ => mret ()) n (Int32.ofNat s) d k (Int32.ofNat i) S = some ((), S1) ∧ RwM S1 A s (dayN8 A s k d) ∧ offGa S S1 := by
  have hn3 : aN A 3 ≤ 20 := hw.1.2.2.2.1
  have hn4 : aN A 4 ≤ 200 := hw.1.2.2.2.2.1
  intro m
  induction m with
  | zero =>
    intro i n S hi hn h h92 h93 h174 hr
    obtain ⟨n, rfl⟩ : ∃ q, n = q + 1 := ⟨n - 1, by omega⟩
    have e : i = aN A 4 := by omega
    subst e
    refine ⟨S, ?_, hr, offGa.rf⟩
    rw [f235_L19]
    simp only [mE, h.2.2.2.2.1.1]
    rw [if_pos ((ofN_le (by omega) (by omega)).2 (Nat.le_refl _))]
  | succ m ih =>
    intro i n S hi hn h h92 h93 h174 hr
    obtain ⟨n, rfl⟩ : ∃ q, n = q + 1 := ⟨n - 1, by omega⟩
    have hil : i < aN A 4 := by omega
    have hge : ¬ Int32.ofNat i ≥ Int32.ofNat (aN A 4) := fun q => by have := (ofN_le (i := aN A 4) (j := i) (by omega) (by omega)).1 q; omega
    have i1 : inR (Int32.ofNat i) 200 := ofN_inR (by omega) (by omega)
    have i2 := ofN_cl (i := i) (by omega)
    have h8 := dayL_len (A := A) (s := s) (k := k) (d := d) i
    obtain ⟨r90, rA⟩ := hr
    obtain ⟨a168, a172, a167, a173, _⟩ := h.2.2.2.2.1.2 i hil
    rw [f235_L19]
    simp only [mE, h.2.2.2.2.1.1, if_neg hge, r90]
    by_cases hfull : 8 ≤ (dayL A s k d i).length
    · rw [if_pos (show Int32.ofNat (dayL A s k d i).length ≥ 8 from (ofN_le (i := 8) (by omega) (by omega)).2 hfull)]
      refine ⟨S, rfl, ?_, offGa.rf⟩
      have := dayL_full hfull (aN A 4 - i)
      rw [show i + (aN A 4 - i) = aN A 4 by omega] at this
      unfold dayN8
      rw [this]
      exact ⟨r90, rA⟩
    · rw [if_neg (show ¬ Int32.ofNat (dayL A s k d i).length ≥ 8 from fun q => hfull ((ofN_le (i := 8) (by omega) (by omega)).1 q))]
      have skip : dayP A s k d i = false → ∃ S1, f235_L19 N (fun _ _ _ _ => mret ()) n (Int32.ofNat s) d k (Int32.ofNat i + 1) S = some ((), S1) ∧ RwM S1 A s (dayN8 A s k d) ∧ offGa S S1 := by
        intro e
        rw [ofN_s]
        refine ih (i + 1) n S (by omega) (by omega) h h92 h93 h174 ?_
        rw [show dayL A s k d (i + 1) = dayL A s k d i from if_neg (fun q => by rw [e] at q; cases q.2)]
        exact ⟨r90, rA⟩
      simp only [mE, i1, i2, a172]
      by_cases hps : isPs A i = true
      · have hne := of_decide_eq_true hps
        rw [if_neg hne] at a167 ⊢
        rw [if_neg (by decide)]
        simp only [mE, i1, i2, a168]
        by_cases hday : aX A 20 i = d
        · rw [if_neg (fun q => q hday)]
          simp only [mE, i1, i2, h174 i hil, (rsn_pre (s := s) (k := k) hw (up := d) (y := i) (by rw [hday]; exact Int32.le_refl d)).1]
          by_cases hrs : rsnA A s k i = 0
          · rw [if_pos hrs]
            have hdp : dayP A s k d i = true := decide_eq_true ⟨hrs, hday⟩
            have eL : dayL A s k d (i + 1) = dayL A s k d i ++ [i] := if_pos ⟨by omega, hdp⟩
            obtain ⟨hsh, esh⟩ := shO_lt hw hil hps
            have wn := (hw.2.2.2.2.2.2.1 i hil).2.2.1
            have c0 : ∃ c, c = (dayL A s k d i).length := ⟨_, rfl⟩
            obtain ⟨c, hc⟩ := c0
            rw [← hc] at r90 rA hfull h8
            have c1 : inR (Int32.ofNat c) 8 := ofN_inR (by omega) (by omega)
            have c2 := ofN_cl (i := c) (by omega)
            have X0 : ∃ X, X = ms_setA (ms_setA S 180 c (Int32.ofNat i)) 188 c (aX A 22 i) := ⟨_, rfl⟩
            obtain ⟨X, hX⟩ := X0
            have oX : ∀ b, b ≠ 180 → b ≠ 188 → Eqc S X b := fun b h1 h2 => by rw [hX]; exact (Eqc_A h1).tr (Eqc_A h2)
            have x180 : ∀ q, ms_A X 180 q = if q = c then Int32.ofNat i else ms_A S 180 q := by intro q; rw [hX]; simp only [mG, true_and, show ¬ ((180 : Nat) = 188) by decide, false_and, if_false]
            have x188 : ∀ q, ms_A X 188 q = if q = c then aX A 22 i else ms_A S 188 q := by intro q; rw [hX]; simp only [mG, true_and, show ¬ ((188 : Nat) = 180) by decide, false_and, if_false]
            have y173 : ms_A (ms_setA S 180 c (Int32.ofNat i)) 173 i = aX A 22 i := by rw [(Eqc_A (by decide)).2.2.2.1]; exact a173
            have y90 : ms_I (ms_setA S 180 c (Int32.ofNat i)) 131 90 = Int32.ofNat c := by rw [(Eqc_A (by decide)).1]; exact r90
            have x167 : ms_A X 167 i = Int32.ofNat (shO A i) := by rw [(oX 167 (by decide) (by decide)).2.2.2.1, a167]; exact esh
            have hbX : mBase X A := mBase_fr h (fun j _ => by rw [(oX 131 (by decide) (by decide)).1]) (fun b h1 h2 => oX b (by unfold scrM at h2; omega) (by unfold scrM at h2; omega))
            obtain ⟨S1, e1, _, k62, kI, oS⟩ := q209 (N := N) (S := X) (A := A) (s := s) (i := shO A i) hN hbX hw hv hs hsh
            have m209 : ∀ {β : Type} {f' : Unit → mM β}, mb (f209 N (Int32.ofNat s) (Int32.ofNat (shO A i))) f' X = f' () S1 := by intro β f'; simp only [mb, e1]
            have oI : ∀ j, tellM j ∨ j = 90 ∨ j = 92 ∨ j = 93 → ms_I S1 131 j = ms_I S 131 j := fun j hj => by
              rw [kI j (by unfold tellM at hj; omega) (by unfold tellM at hj; omega), (oX 131 (by decide) (by decide)).1]
            have s90 : ms_I S1 131 90 = Int32.ofNat c := by rw [oI 90 (Or.inr (by omega))]; exact r90
            have Y0 : ∃ Y, Y = ms_setA S1 187 c (kdA A s i) := ⟨_, rfl⟩
            obtain ⟨Y, hY⟩ := Y0
            have oY : ∀ b, b ≠ 187 → Eqc S1 Y b := fun b h1 => by rw [hY]; exact Eqc_A h1
            have yI : ∀ j, tellM j ∨ j = 90 ∨ j = 92 ∨ j = 93 → ms_I Y 131 j = ms_I S 131 j := fun j hj => by rw [(oY 131 (by decide)).1]; exact oI j hj
            have yE : ∀ b, b ≠ 131 → b ≠ 154 → b ≠ 166 → b ≠ 180 → b ≠ 187 → b ≠ 188 → Eqc S Y b := fun b h1 h2 h3 h4 h5 h6 => ((oX b h4 h6).tr (oS b h1 h2 h3)).tr (oY b h5)
            have hbY : mBase Y A := mBase_fr h (fun j hj => yI j (Or.inl hj)) (fun b h1 h2 => yE b (by omega) (by unfold scrM at h2; omega) (by unfold scrM at h2; omega) (by unfold scrM at h2; omega) (by unfold scrM at h2; omega) (by unfold scrM at h2; omega))
            have y180 : ∀ q, ms_A Y 180 q = if q = c then Int32.ofNat i else ms_A S 180 q := by intro q; rw [(oY 180 (by decide)).2.2.2.1, (oS 180 (by decide) (by decide) (by decide)).2.2.2.1]; exact x180 q
            have y188 : ∀ q, ms_A Y 188 q = if q = c then aX A 22 i else ms_A S 188 q := by intro q; rw [(oY 188 (by decide)).2.2.2.1, (oS 188 (by decide) (by decide) (by decide)).2.2.2.1]; exact x188 q
            have y187 : ∀ q, ms_A Y 187 q = if q = c then kdA A s i else ms_A S 187 q := by
              intro q
              rw [hY]
              simp only [mG, true_and]
              rw [(oS 187 (by decide) (by decide) (by decide)).2.2.2.1, (oX 187 (by decide) (by decide)).2.2.2.1]
            have yy90 : ms_I Y 131 90 = Int32.ofNat c := by rw [yI 90 (Or.inr (by omega))]; exact r90
            obtain ⟨S2, e2, t1, t2, tq, oT⟩ := q234 (N := N) (A := A) (S := Y) (p := c) (f := i) (by omega) hw (by omega) hil hps hbY (by rw [yI 92 (Or.inr (by omega))]; exact h92) (by rw [yI 93 (Or.inr (by omega))]; exact h93) (by rw [y180, if_pos rfl]) (by rw [y188, if_pos rfl])
            have m234 : ∀ {β : Type} {f' : Unit → mM β}, mb (f234 N (Int32.ofNat c)) f' Y = f' () S2 := by intro β f'; simp only [mb, e2]
            have z90 : ms_I S2 131 90 = Int32.ofNat c := by rw [(oT 131 (by decide) (by decide)).1]; exact yy90
            have Z0 : ∃ Z, Z = ms_setI S2 131 90 (Int32.ofNat (c + 1)) := ⟨_, rfl⟩
            obtain ⟨Z, hZ⟩ := Z0
            have oZ : ∀ b, b ≠ 131 → Eqc S2 Z b := fun b h1 => by rw [hZ]; exact Eqc_I h1
            have zI : ∀ j, tellM j ∨ j = 92 ∨ j = 93 → ms_I Z 131 j = ms_I S 131 j := fun j hj => by
              have hj9 : j ≠ 90 := by unfold tellM at hj; omega
              rw [hZ]; simp only [mG, true_and, if_neg hj9]
              rw [(oT 131 (by decide) (by decide)).1]
              exact yI j (hj.elim Or.inl (fun h => Or.inr (Or.inr h)))
            have oF : offGa S Z := ⟨zI, fun b h1 h2 h3 h4 h5 => ((yE b h1 h2 h3 (by omega) (by omega) (by omega)).tr (oT b (by omega) (by omega))).tr (oZ b h1)⟩
            have nx := ih (i + 1) n Z (by omega) (by omega) (offGa_base h oF) (by rw [zI 92 (Or.inr (by omega))]; exact h92) (by rw [zI 93 (Or.inr (by omega))]; exact h93) (fun j hj => by rw [(oF.2 174 (by decide) (by decide) (by decide) (by decide) (by decide)).2.2.2.1]; exact h174 j hj) (by
              rw [eL]
              refine ⟨by rw [hZ, List.length_append, ← hc]; simp [mG], fun q hq => ?_⟩
              rw [List.length_append, ← hc] at hq
              have hq : q < c + 1 := hq
              rw [getD_app, ← hc]
              rw [(oZ 180 (by decide)).2.2.2.1, (oZ 181 (by decide)).2.2.2.1, (oZ 182 (by decide)).2.2.2.1, (oZ 187 (by decide)).2.2.2.1, (oZ 188 (by decide)).2.2.2.1]
              rw [(oT 180 (by decide) (by decide)).2.2.2.1, (oT 187 (by decide) (by decide)).2.2.2.1, (oT 188 (by decide) (by decide)).2.2.2.1, y180, y187, y188]
              by_cases e : q = c
              · subst e
                rw [if_pos rfl, if_pos rfl, if_pos rfl, if_neg (Nat.lt_irrefl _), if_pos rfl]
                exact ⟨rfl, rfl, t1, t2, rfl⟩
              · rw [if_pos (show q < c by omega), if_neg e, if_neg e, if_neg e, (tq q e).1, (tq q e).2, (yE 181 (by decide) (by decide) (by decide) (by decide) (by decide) (by decide)).2.2.2.1, (yE 182 (by decide) (by decide) (by decide) (by decide) (by decide) (by decide)).2.2.2.1]
                exact rA q (by omega))
            obtain ⟨S3, e3, r3, o3⟩ := nx
            refine ⟨S3, ?_, r3, oF.tr o3⟩
            simp only [mE, r90, c1, c2, y90, i1, i2, y173, vpb wn, ← hX, x167]
            rw [m209]
            simp only [mE, s90, k62, c1, c2]
            rw [show kindL (aE A s) (shipG A (shO A i)) (aX A 10 (shO A i)) (aN A (10 + s)) 0 = kdA A s i from rfl, ← hY]
            simp only [mE, yy90]
            rw [m234]
            simp only [mE, z90, ofN_s, ← hZ]
            exact e3
          · rw [if_neg hrs]
            exact skip (decide_eq_false (fun q => hrs q.1))
        · rw [if_pos hday]
          exact skip (decide_eq_false (fun q => hday q.2))
      · have hm : aX A 21 i = -1 := by
          by_cases e : aX A 21 i = -1
          · exact e
          · exact absurd (decide_eq_true e) hps
        rw [if_pos hm, if_pos rfl]
        refine skip ?_
        cases e : dayP A s k d i with
        | false => rfl
        | true => exact absurd (dayP_ps hw e) hps
theorem q235 {s : Nat} {d k : Int32} {S : ms_S} (hN : 1300 ≤ N) (h : mBase S A) (hw : WF0 A) (hv : WFv A) (hs : s < 4) : ∃ S1, f235 N (Int32.ofNat s) d k S = some ((), S1) ∧ mBase S1 A ∧ RwM S1 A s (dayN8 A s k d) ∧ ms_I S1 131 92 = gF A ∧ ms_I S1 131 93 = gT A ∧ keepM S S1 := by
  obtain ⟨S1, e1, b1, l1, _, _, k1⟩ := q225 (N := N) (S := S) (A := A) (s := s) (k := k) (up := d) hN h hw hv hs
  obtain ⟨S2, e2, g1, g2, kI, o2⟩ := q233 (N := N) (A := A) (S := S1) (by omega) hw b1
  have X0 : ∃ X, X = ms_setI S2 131 90 0 := ⟨_, rfl⟩
  obtain ⟨X, hX⟩ := X0
  have oX : ∀ b, b ≠ 131 → Eqc S1 X b := fun b h1 => by rw [hX]; exact (o2 b h1).tr (Eqc_I h1)
  have xI : ∀ j, j ≠ 90 → j ≠ 92 → j ≠ 93 → ms_I X 131 j = ms_I S1 131 j := fun j h1 h2 h3 => by rw [hX]; simp only [mG, true_and, if_neg h1]; exact kI j h2 h3
  have hbX : mBase X A := mBase_fr b1 (fun j hj => xI j (by unfold tellM at hj; omega) (by unfold tellM at hj; omega) (by unfold tellM at hj; omega)) (fun b h1 _ => oX b (by omega))
  have x92 : ms_I X 131 92 = gF A := by rw [hX]; simp [mG]; exact g1
  have x93 : ms_I X 131 93 = gT A := by rw [hX]; simp [mG]; exact g2
  obtain ⟨S3, e3, r3, o3⟩ := gathL (N := N) (A := A) (s := s) (d := d) (k := k) hN hw hv hs (aN A 4) 0 N X (by omega) (by have := hw.1.2.2.2.2.1; omega) hbX x92 x93 (fun j hj => by rw [(oX 174 (by decide)).2.2.2.1]; exact (l1.2 j hj).1) ⟨by rw [hX]; simp [mG, dayL], fun p hp => absurd hp (by simp [dayL])⟩
  refine ⟨S3, ?_, offGa_base hbX o3, r3, by rw [o3.1 92 (Or.inr (by omega))]; exact x92, by rw [o3.1 93 (Or.inr (by omega))]; exact x93, fun b hb => ((k1 b hb).tr (oX b (by omega))).tr (o3.2 b (by omega) (by omega) (by omega) (by omega) (by omega))⟩
  unfold f235
  have m225 : ∀ {β : Type} {f' : Unit → mM β}, mb (f225 N (Int32.ofNat s) d k) f' S = f' () S1 := by intro β f'; simp only [mb, e1]
  have m233 : ∀ {β : Type} {f' : Unit → mM β}, mb (f233 N) f' S1 = f' () S2 := by intro β f'; simp only [mb, e2]
  rw [m225, m233]
  simp only [mE, ← hX]
  exact e3
end GA2
