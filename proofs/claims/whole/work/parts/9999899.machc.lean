/-! the reference's machine, as it is kept -/
def PKs (S : ms_S) : List Ek → Prop
  | [] => True
  | e :: s => ms_A S 152 s.length = Int32.ofNat e.1 ∧ (e.1 ≤ 6 → ms_A S 153 s.length = mCh 0 e.2 ∧ e.2 ≠ 111) ∧ PKs S s
def PK (S : ms_S) (st : List Ek) : Prop := ms_I S 131 40 = Int32.ofNat st.length ∧ PKs S st
def CK (S : ms_S) (line c0 : Nat) (c : Cd) (u d : Nat) : Prop := ms_I S 131 37 = Int32.ofNat (c0 + c.length) ∧ ms_I S 131 38 = Int32.ofNat u ∧ ms_I S 131 39 = Int32.ofNat d ∧ ∀ j, j < c.length → ms_A S 150 (4800 + c0 + j) = mCh line (c.getD j (0, 0)).1 ∧ ms_A S 151 (4800 + c0 + j) = (c.getD j (0, 0)).2
def NK (S : ms_S) (b : Nat) (kn ln : List (List Int32)) : Prop := ms_A S 144 4 = Int32.ofNat kn.length ∧ (∀ i, i < kn.length → ms_L S 157 (24 + i) = pk8 (kn.getD i []) ∧ ltw (kn.getD i [])) ∧ ms_I S 131 20 = Int32.ofNat b ∧ ms_A S 136 b = Int32.ofNat ln.length ∧ ∀ i, i < ln.length → ms_L S 142 (8 * b + i) = pk8 (ln.getD i []) ∧ ltw (ln.getD i [])
def offK (c0 : Nat) (S S1 : ms_S) : Prop := (∀ j, ¬ (4 ≤ j ∧ j ≤ 9) → ¬ (37 ≤ j ∧ j ≤ 40) → ms_I S1 131 j = ms_I S 131 j) ∧ (∀ b, b ≠ 131 → ¬ (150 ≤ b ∧ b ≤ 153) → Eqc S S1 b) ∧ ∀ i, i < 4800 + c0 → ms_A S1 150 i = ms_A S 150 i ∧ ms_A S1 151 i = ms_A S 151 i
theorem offK.rf {c0 : Nat} {S : ms_S} : offK c0 S S := ⟨fun _ _ _ => rfl, fun _ _ _ => Eqc.rf, fun _ _ => ⟨rfl, rfl⟩⟩
theorem offK.tr {c0 : Nat} {S S1 S2 : ms_S} (h : offK c0 S S1) (q : offK c0 S1 S2) : offK c0 S S2 := ⟨fun j h1 h2 => (q.1 j h1 h2).trans (h.1 j h1 h2), fun b h1 h2 => (h.2.1 b h1 h2).tr (q.2.1 b h1 h2), fun i hi => ⟨((q.2.2 i hi).1).trans (h.2.2 i hi).1, ((q.2.2 i hi).2).trans (h.2.2 i hi).2⟩⟩
theorem offM.k {c0 : Nat} {S S1 : ms_S} (h : offM S S1) : offK c0 S S1 := ⟨fun j h1 _ => h.1 j h1, fun b h1 _ => h.2 b h1, fun i _ => ⟨by rw [(h.2 150 (by decide)).2.2.2.1], by rw [(h.2 151 (by decide)).2.2.2.1]⟩⟩
theorem offK.wI {c0 j : Nat} {v : Int32} {S : ms_S} (hj : 37 ≤ j ∧ j ≤ 40) : offK c0 S (ms_setI S 131 j v) := ⟨fun i _ h2 => by simp only [mG, true_and, if_neg (show ¬ i = j by omega)], fun b h1 _ => Eqc_I h1, fun i _ => ⟨by simp only [mGo], by simp only [mGo]⟩⟩
theorem offK.wA {c0 b i : Nat} {v : Int32} {S : ms_S} (h : ((b = 150 ∨ b = 151) ∧ 4800 + c0 ≤ i) ∨ b = 152 ∨ b = 153) : offK c0 S (ms_setA S b i v) := by
  refine ⟨fun j _ _ => by simp only [mGo], fun k h1 h2 => Eqc_A (by omega), fun k hk => ⟨?_, ?_⟩⟩
  · simp only [mG]; rw [if_neg (by omega)]
  · simp only [mG]; rw [if_neg (by omega)]
theorem PKs_fr {S S1 : ms_S} : ∀ st, PKs S st → (∀ i, i < st.length → ms_A S1 152 i = ms_A S 152 i ∧ ms_A S1 153 i = ms_A S 153 i) → PKs S1 st := by
  intro st
  induction st with
  | nil => intro _ _; trivial
  | cons e s ih =>
    intro ⟨h1, h2, h3⟩ hE
    obtain ⟨a1, a2⟩ := hE s.length (by show s.length < s.length + 1; omega)
    exact ⟨a1.trans h1, fun h6 => ⟨a2.trans (h2 h6).1, (h2 h6).2⟩, ih h3 (fun i hi => hE i (by show i < s.length + 1; omega))⟩
theorem PK_m {S S1 : ms_S} {st : List Ek} (h : PK S st) (o : offM S S1) : PK S1 st := ⟨by rw [o.1 40 (by omega)]; exact h.1, PKs_fr st h.2 (fun i _ => ⟨by rw [(o.2 152 (by decide)).2.2.2.1], by rw [(o.2 153 (by decide)).2.2.2.1]⟩)⟩
theorem CK_m {S S1 : ms_S} {line c0 u d : Nat} {c : Cd} (h : CK S line c0 c u d) (o : offM S S1) : CK S1 line c0 c u d := ⟨by rw [o.1 37 (by omega)]; exact h.1, by rw [o.1 38 (by omega)]; exact h.2.1, by rw [o.1 39 (by omega)]; exact h.2.2.1, fun j hj => by rw [(o.2 150 (by decide)).2.2.2.1, (o.2 151 (by decide)).2.2.2.1]; exact h.2.2.2 j hj⟩
theorem NK_k {S S1 : ms_S} {b c0 : Nat} {kn ln : List (List Int32)} (h : NK S b kn ln) (o : offK c0 S S1) : NK S1 b kn ln := by
  unfold NK at *
  rw [(o.2.1 144 (by decide) (by decide)).2.2.2.1, (o.2.1 157 (by decide) (by decide)).2.2.2.2.1, o.1 20 (by omega) (by omega), (o.2.1 136 (by decide) (by decide)).2.2.2.1, (o.2.1 142 (by decide) (by decide)).2.2.2.2.1]
  exact h
theorem mCh_ne {line t : Nat} (h : t ≠ 111) : mCh 0 t = mCh line t := by
  unfold mCh
  rw [if_neg h, if_neg h]
theorem PK_I {S : ms_S} {st : List Ek} {j : Nat} {v : Int32} (h : PK S st) (hj : j ≠ 40) : PK (ms_setI S 131 j v) st := ⟨by simp only [mG, true_and, if_neg (show ¬ 40 = j from fun z => hj z.symm)]; exact h.1, PKs_fr st h.2 (fun i _ => ⟨by simp only [mGo], by simp only [mGo]⟩)⟩
section MCC
variable {N : Nat} {X : Nat → Int32} {L : Nat} {line c0 : Nat}
/-- a code more -/
theorem q186 {S : ms_S} {c : Cd} {u d t : Nat} {v : Int32} (h : CK S line c0 c u d) (hl : c0 + c.length < 1200) : ∃ S1, f186 N (mCh line t) v S = some ((), S1) ∧ CK S1 line c0 (c ++ [(t, v)]) u d ∧ (∀ {σ : Sg}, MS S X L σ → MS S1 X L σ) ∧ (∀ {st : List Ek}, PK S st → PK S1 st) ∧ offK c0 S S1 := by
  obtain ⟨h1, h2, h3, h4⟩ := h
  have e1 : 4800 + Int32.ofNat (c0 + c.length) = Int32.ofNat (4800 + c0 + c.length) := by rw [show (4800 : Int32) = Int32.ofNat 4800 from rfl, ofN_add, Nat.add_assoc]
  have i1 : inR (Int32.ofNat (4800 + c0 + c.length)) 6000 := ofN_inR (by omega) (by omega)
  have i2 := ofN_cl (i := 4800 + c0 + c.length) (by omega)
  have Y0 : ∃ Y, Y = ms_setA S 150 (4800 + c0 + c.length) (mCh line t) := ⟨_, rfl⟩
  obtain ⟨Y, hY⟩ := Y0
  have Z0 : ∃ Z, Z = ms_setA Y 151 (4800 + c0 + c.length) v := ⟨_, rfl⟩
  obtain ⟨Z, hZ⟩ := Z0
  have W0 : ∃ W, W = ms_setI Z 131 37 (Int32.ofNat (c0 + c.length + 1)) := ⟨_, rfl⟩
  obtain ⟨W, hW⟩ := W0
  have y37 : ms_I Y 131 37 = Int32.ofNat (c0 + c.length) := by rw [hY]; simp only [mGo]; exact h1
  have z37 : ms_I Z 131 37 = Int32.ofNat (c0 + c.length) := by rw [hZ]; simp only [mGo]; exact y37
  have wI : ∀ j, j ≠ 37 → ms_I W 131 j = ms_I S 131 j := fun j hj => by rw [hW]; simp only [mG, true_and, if_neg hj]; rw [hZ, hY]; simp only [mGo]
  have w150 : ∀ i, ms_A W 150 i = if i = 4800 + c0 + c.length then mCh line t else ms_A S 150 i := fun i => by rw [hW]; simp only [mGo]; rw [hZ, (Eqc_A (by decide)).2.2.2.1, hY]; simp only [mG, true_and]
  have w151 : ∀ i, ms_A W 151 i = if i = 4800 + c0 + c.length then v else ms_A S 151 i := fun i => by rw [hW]; simp only [mGo]; rw [hZ]; simp only [mG, true_and]; rw [hY, (Eqc_A (by decide)).2.2.2.1]
  have wE : ∀ b, b ≠ 131 → b ≠ 150 → b ≠ 151 → Eqc S W b := fun b g1 g2 g3 => by rw [hW, hZ, hY]; exact ((Eqc_A g2).tr (Eqc_A g3)).tr (Eqc_I g1)
  refine ⟨W, ?_, ⟨?_, by rw [wI 38 (by decide)]; exact h2, by rw [wI 39 (by decide)]; exact h3, fun j hj => ?_⟩, fun {σ} hm => ?_, fun {st} hp => ⟨by rw [wI 40 (by decide)]; exact hp.1, PKs_fr st hp.2 (fun i _ => ⟨by rw [(wE 152 (by decide) (by decide) (by decide)).2.2.2.1], by rw [(wE 153 (by decide) (by decide) (by decide)).2.2.2.1]⟩)⟩, ?_⟩
  · unfold f186
    simp only [mE, h1, e1, i1, i2, ← hY, y37, ← hZ, z37, ofN_s, ← hW]
  · rw [hW]; simp only [mG, and_self, if_true]
    rw [List.length_append]; rfl
  · rw [List.length_append] at hj
    have hj : j < c.length + 1 := hj
    rw [w150, w151, getD_snoc]
    by_cases e : j = c.length
    · subst e
      rw [if_pos rfl, if_pos rfl, if_neg (Nat.lt_irrefl _), if_pos rfl]
      exact ⟨rfl, rfl⟩
    · rw [if_neg (show ¬ 4800 + c0 + j = 4800 + c0 + c.length by omega), if_neg (show ¬ 4800 + c0 + j = 4800 + c0 + c.length by omega), if_pos (show j < c.length by omega)]
      exact h4 j (by omega)
  · rw [hW]
    refine MS_I ?_ (by omega)
    rw [hZ, hY]
    exact MS_A (MS_A hm (by decide)) (by decide)
  · rw [hW, hZ, hY]
    exact ((offK.wA (by omega)).tr (offK.wA (by omega))).tr (offK.wI (by omega))
/-- one more that waits -/
theorem q187 {S : ms_S} {st : List Ek} {e : Ek} {v : Int32} (h : PK S st) (hl : st.length < 80) (hv : e.1 ≤ 6 → v = mCh 0 e.2 ∧ e.2 ≠ 111) : ∃ S1, f187 N (Int32.ofNat e.1) v S = some ((), S1) ∧ PK S1 (e :: st) ∧ (∀ {σ : Sg}, MS S X L σ → MS S1 X L σ) ∧ (∀ {c : Cd} {u d : Nat}, CK S line c0 c u d → CK S1 line c0 c u d) ∧ offK c0 S S1 := by
  obtain ⟨h1, h2⟩ := h
  have i1 : inR (Int32.ofNat st.length) 80 := ofN_inR (by omega) (by omega)
  have i2 := ofN_cl (i := st.length) (by omega)
  have Y0 : ∃ Y, Y = ms_setA S 152 st.length (Int32.ofNat e.1) := ⟨_, rfl⟩
  obtain ⟨Y, hY⟩ := Y0
  have Z0 : ∃ Z, Z = ms_setA Y 153 st.length v := ⟨_, rfl⟩
  obtain ⟨Z, hZ⟩ := Z0
  have W0 : ∃ W, W = ms_setI Z 131 40 (Int32.ofNat (st.length + 1)) := ⟨_, rfl⟩
  obtain ⟨W, hW⟩ := W0
  have y40 : ms_I Y 131 40 = Int32.ofNat st.length := by rw [hY]; simp only [mGo]; exact h1
  have z40 : ms_I Z 131 40 = Int32.ofNat st.length := by rw [hZ]; simp only [mGo]; exact y40
  have wI : ∀ j, j ≠ 40 → ms_I W 131 j = ms_I S 131 j := fun j hj => by rw [hW]; simp only [mG, true_and, if_neg hj]; rw [hZ, hY]; simp only [mGo]
  have w152 : ∀ i, ms_A W 152 i = if i = st.length then Int32.ofNat e.1 else ms_A S 152 i := fun i => by rw [hW]; simp only [mGo]; rw [hZ, (Eqc_A (by decide)).2.2.2.1, hY]; simp only [mG, true_and]
  have w153 : ∀ i, ms_A W 153 i = if i = st.length then v else ms_A S 153 i := fun i => by rw [hW]; simp only [mGo]; rw [hZ]; simp only [mG, true_and]; rw [hY, (Eqc_A (by decide)).2.2.2.1]
  have wE : ∀ b, b ≠ 131 → b ≠ 152 → b ≠ 153 → Eqc S W b := fun b g1 g2 g3 => by rw [hW, hZ, hY]; exact ((Eqc_A g2).tr (Eqc_A g3)).tr (Eqc_I g1)
  refine ⟨W, ?_, ⟨?_, ?_, fun h6 => ?_, PKs_fr st h2 (fun i hi => ?_)⟩, fun {σ} hm => ?_, fun {c u d} hc => ?_, ?_⟩
  · unfold f187
    simp only [mE, h1, i1, i2, ← hY, y40, ← hZ, z40, ofN_s, ← hW]
  · rw [hW]; simp only [mG, and_self, if_true]; rfl
  · rw [w152, if_pos rfl]
  · rw [w153, if_pos rfl]; exact hv h6
  · rw [w152, w153, if_neg (by omega), if_neg (by omega)]; exact ⟨rfl, rfl⟩
  · rw [hW]
    refine MS_I ?_ (by omega)
    rw [hZ, hY]
    exact MS_A (MS_A hm (by decide)) (by decide)
  · exact ⟨by rw [wI 37 (by decide)]; exact hc.1, by rw [wI 38 (by decide)]; exact hc.2.1, by rw [wI 39 (by decide)]; exact hc.2.2.1, fun j hj => by rw [(wE 150 (by decide) (by decide) (by decide)).2.2.2.1, (wE 151 (by decide) (by decide) (by decide)).2.2.2.1]; exact hc.2.2.2 j hj⟩
  · rw [hW, hZ, hY]
    exact ((offK.wA (by omega)).tr (offK.wA (by omega))).tr (offK.wI (by omega))
theorem ofN_p {i : Nat} : Int32.ofNat (i + 1) - 1 = Int32.ofNat i := by
  rw [show (1 : Int32) = Int32.ofNat 1 from rfl, ofN_sub (by omega)]
  rfl
theorem ofN_m {i : Nat} : Int32.ofNat (i + 1) + (-1) = Int32.ofNat i := by
  rw [← ofN_p (i := i)]
  generalize Int32.ofNat (i + 1) = x
  grind
/-- is one compared already? -/
theorem q193L {S : ms_S} : ∀ (st : List Ek) n, WFs st → dpE st ≤ 7 → st ≠ [] → st.length < n → PKs S st → f193_L7 N (fun (x1 : Int32) => (mlet (fun (x1 : Int32) (y0 : Int32) => (mretZ y0)) fun J49 => mb (lA 152 80 x1) fun v7 => if v7 ≠ 4 then (J49 x1 0) else (J49 x1 1))) n (Int32.ofNat (st.length - 1)) S = some (if cmpd st = true then 1 else 0, S) := by
  intro st
  induction st with
  | nil => intro n _ _ h; exact absurd rfl h
  | cons e s ih =>
    intro n hw hd _ hn hp
    have hlen := wfs_60 hw hd
    have hlen : s.length + 1 ≤ 56 := hlen
    have hn : s.length + 1 < n := hn
    obtain ⟨n, rfl⟩ : ∃ q, n = q + 1 := ⟨n - 1, by omega⟩
    obtain ⟨p1, p2, p3⟩ := hp
    obtain ⟨w1, w2, w3⟩ := hw
    have he8 : e.1 ≤ 8 := by
      by_cases hs : s = []
      · have := w1 hs; omega
      · have := w2 hs; omega
    have i1 : inR (Int32.ofNat s.length) 80 := ofN_inR (by omega) (by omega)
    have i2 := ofN_cl (i := s.length) (by omega)
    show f193_L7 N _ (n + 1) (Int32.ofNat s.length) S = _
    rw [f193_L7]
    simp only [mE, i1, i2, p1]
    have c5 : (Int32.ofNat e.1 = 5) ↔ e.1 = 5 := ofN_eq (j := 5) (by omega) (by omega)
    have c6 : (Int32.ofNat e.1 = 6) ↔ e.1 = 6 := ofN_eq (j := 6) (by omega) (by omega)
    have c4 : (Int32.ofNat e.1 = 4) ↔ e.1 = 4 := ofN_eq (j := 4) (by omega) (by omega)
    have ec : cmpd (e :: s) = if e.1 = 5 ∨ e.1 = 6 then cmpd s else decide (e.1 = 4) := rfl
    have dn : (e.1 = 5 ∨ e.1 = 6) → f193_L7 N (fun (x1 : Int32) => (mlet (fun (x1 : Int32) (y0 : Int32) => (mretZ y0)) fun J49 => mb (lA 152 80 x1) fun v7 => if v7 ≠ 4 then (J49 x1 0) else (J49 x1 1))) n (Int32.ofNat s.length + (-1)) S = some (if cmpd (e :: s) = true then 1 else 0, S) := fun h => by
      have hs : s ≠ [] := fun z => by have := w1 z; omega
      have hds : dpE s ≤ 7 := by have : (if e.1 = 3 ∨ e.1 = 7 then 1 else 0) + dpE s ≤ 7 := hd; omega
      rw [ec, if_pos h, ← ih n w3 hds hs (by omega) p3]
      obtain ⟨k, hk⟩ : ∃ k, s.length = k + 1 := ⟨s.length - 1, by have : s.length ≠ 0 := fun z => hs (List.length_eq_zero_iff.1 z); omega⟩
      rw [hk, ofN_m]
      rfl
    have dn' := dn
    simp only [mE] at dn'
    by_cases h5 : e.1 = 5
    · rw [if_pos (c5.2 h5)]; exact dn' (Or.inl h5)
    · rw [if_neg (fun z => h5 (c5.1 z))]
      by_cases h6 : e.1 = 6
      · rw [if_neg (fun z => z (c6.2 h6))]; exact dn' (Or.inr h6)
      · have ec2 : cmpd (e :: s) = decide (e.1 = 4) := by rw [ec, if_neg (show ¬ (e.1 = 5 ∨ e.1 = 6) by omega)]
        rw [if_pos (fun z => h6 (c6.1 z)), ec2]
        by_cases h4 : e.1 = 4
        · rw [if_neg (show ¬ Int32.ofNat e.1 ≠ 4 from fun z => z (c4.2 h4)), decide_eq_true h4, if_pos rfl]
          rfl
        · rw [if_pos (show Int32.ofNat e.1 ≠ 4 from fun z => h4 (c4.1 z)), decide_eq_false h4, if_neg (show ¬ false = true by decide)]
          rfl
theorem q193 {S : ms_S} {st : List Ek} (hN : 100 ≤ N) (hw : WFs st) (hd : dpE st ≤ 7) (hs : st ≠ []) (hp : PK S st) : f193 N S = some (if cmpd st = true then 1 else 0, S) := by
  have hlen := wfs_60 hw hd
  unfold f193
  rw [show (mb (gI 131 40) fun v1 => f193_L7 N (fun (x1 : Int32) => (mlet (fun (x1 : Int32) (y0 : Int32) => (mretZ y0)) fun J49 => mb (lA 152 80 x1) fun v7 => if v7 ≠ 4 then (J49 x1 0) else (J49 x1 1))) N (v1 - 1)) S = f193_L7 N (fun (x1 : Int32) => (mlet (fun (x1 : Int32) (y0 : Int32) => (mretZ y0)) fun J49 => mb (lA 152 80 x1) fun v7 => if v7 ≠ 4 then (J49 x1 0) else (J49 x1 1))) N (ms_I S 131 40 - 1) S from rfl]
  rw [← q193L (N := N) st N hw hd hs (by omega) hp.2, hp.1]
  cases st with
  | nil => exact absurd rfl hs
  | cons e s => rw [show (e :: s).length = s.length + 1 from rfl, ofN_p]; rfl
/-- what binds as tight is taken off -/
theorem reduK {K : Int32 → mM Int32} {r u : Nat} {σ : Sg} (hr : r ≤ 6) : ∀ (st : List Ek) (c : Cd) (d n : Nat) (S : ms_S), WFs st → d = dpE st → d ≤ 7 → st ≠ [] → st.length < n → c0 + c.length + st.length ≤ 1201 → MS S X L σ → PK S st → CK S line c0 c u d → ∃ S1, f194_L23 N K n (Int32.ofNat r) S = K (Int32.ofNat r) S1 ∧ MS S1 X L σ ∧ PK S1 (redu r st c d).1 ∧ CK S1 line c0 (redu r st c d).2.1 u (redu r st c d).2.2 ∧ offK c0 S S1 := by
  intro st
  induction st with
  | nil => intro c d n S _ _ _ h; exact absurd rfl h
  | cons e s ih =>
    intro c d n S hw hd hd7 _ hn hcl hm hp hc
    have hlen := wfs_60 hw (by omega)
    have hlen : s.length + 1 ≤ 56 := hlen
    have hn : s.length + 1 < n := hn
    have hcl : c0 + c.length + (s.length + 1) ≤ 1201 := hcl
    obtain ⟨n, rfl⟩ : ∃ q, n = q + 1 := ⟨n - 1, by omega⟩
    have hp' := hp
    obtain ⟨p0, p1, p2, p3⟩ := hp
    have p0 : ms_I S 131 40 = Int32.ofNat (s.length + 1) := p0
    obtain ⟨w1, w2, w3⟩ := hw
    have he8 : e.1 ≤ 8 := by
      by_cases hs : s = []
      · have := w1 hs; omega
      · have := w2 hs; omega
    have i1 : inR (Int32.ofNat s.length) 80 := ofN_inR (by omega) (by omega)
    have i2 := ofN_cl (i := s.length) (by omega)
    have er : redu r (e :: s) c d = (if e.1 ≤ 6 ∧ r ≤ e.1 then redu r s (c ++ [(e.2, 0)]) (if e.1 = 3 then d - 1 else d) else (e :: s, c, d)) := rfl
    have hd : d = (if e.1 = 3 ∨ e.1 = 7 then 1 else 0) + dpE s := hd
    rw [f194_L23]
    simp only [mE, p0, ofN_p, i1, i2, p1]
    by_cases h6 : e.1 ≤ 6
    · rw [if_neg (show ¬ Int32.ofNat e.1 > 6 from fun z => by have := (ofN_lt (i := 6) (by omega) (by omega)).1 z; omega)]
      by_cases hre : r ≤ e.1
      · rw [if_neg (show ¬ Int32.ofNat e.1 < Int32.ofNat r from fun z => by have := (ofN_lt (by omega) (by omega)).1 z; omega), er, if_pos ⟨h6, hre⟩]
        have hs : s ≠ [] := fun z => by have := w1 z; omega
        have hs1 : s.length ≠ 0 := fun z => hs (List.length_eq_zero_iff.1 z)
        obtain ⟨p4, p5⟩ := p2 h6
        have Y0 : ∃ Y, Y = ms_setI S 131 40 (Int32.ofNat s.length) := ⟨_, rfl⟩
        obtain ⟨Y, hY⟩ := Y0
        have y40 : ms_I Y 131 40 = Int32.ofNat s.length := by rw [hY]; simp only [mG, and_self, if_true]
        have yI : ∀ j, j ≠ 40 → ms_I Y 131 j = ms_I S 131 j := fun j hj => by rw [hY]; simp only [mG, true_and, if_neg hj]
        have yA : ∀ b, ms_A Y b = ms_A S b := fun b => by rw [hY]; simp only [mGo]
        have pY : PK Y s := ⟨y40, PKs_fr s p3 (fun i _ => ⟨by rw [yA], by rw [yA]⟩)⟩
        have mY : MS Y X L σ := by rw [hY]; exact MS_I hm (by omega)
        have oY : offK c0 S Y := by rw [hY]; exact offK.wI (by omega)
        have cY : CK Y line c0 c u d := ⟨by rw [yI 37 (by decide)]; exact hc.1, by rw [yI 38 (by decide)]; exact hc.2.1, by rw [yI 39 (by decide)]; exact hc.2.2.1, fun j hj => by rw [yA, yA]; exact hc.2.2.2 j hj⟩
        have key : ∀ (Z : ms_S) (d' : Nat), d' = dpE s → d' ≤ 7 → PK Z s → MS Z X L σ → CK Z line c0 c u d' → ms_A Z 153 s.length = mCh 0 e.2 → offK c0 S Z → ∃ S1, (mb (gI 131 40) fun v9 => mb (lA 153 80 v9) fun v11 => mb (f186 N v11 0) fun _ => f194_L23 N K n (Int32.ofNat r)) Z = K (Int32.ofNat r) S1 ∧ MS S1 X L σ ∧ PK S1 (redu r s (c ++ [(e.2, 0)]) d').1 ∧ CK S1 line c0 (redu r s (c ++ [(e.2, 0)]) d').2.1 u (redu r s (c ++ [(e.2, 0)]) d').2.2 ∧ offK c0 S S1 := by
          intro Z d' hd' hd7' pZ mZ cZ aZ oZ
          obtain ⟨S1, e1, c1, m1, k1, o1⟩ := q186 (N := N) (X := X) (L := L) (t := e.2) (v := 0) cZ (by omega)
          rw [← mCh_ne p5] at e1
          have m186 : ∀ {β : Type} {f' : Unit → mM β}, mb (f186 N (mCh 0 e.2) 0) f' Z = f' () S1 := by intro β f'; simp only [mb, e1]
          obtain ⟨S2, e2, m2, k2, c2, o2⟩ := ih (c ++ [(e.2, 0)]) d' n S1 w3 hd' hd7' hs (by omega) (by rw [List.length_append]; show c0 + (c.length + 1) + s.length ≤ 1201; omega) (m1 mZ) (k1 pZ) c1
          refine ⟨S2, ?_, m2, k2, c2, (oZ.tr o1).tr o2⟩
          simp only [mE, pZ.1, i1, i2, aZ]
          rw [m186]
          exact e2
        have aY : ms_A Y 153 s.length = mCh 0 e.2 := by rw [yA]; exact p4
        have y152 : ms_A Y 152 s.length = Int32.ofNat e.1 := by rw [yA]; exact p1
        rw [← hY]
        simp only [mE, y40, i1, i2, y152]
        have c3 : (Int32.ofNat e.1 = 3) ↔ e.1 = 3 := ofN_eq (j := 3) (by omega) (by omega)
        by_cases h3 : e.1 = 3
        · rw [if_neg (fun z => z (c3.2 h3)), if_pos h3]
          rw [if_pos (Or.inl h3)] at hd
          have Z0 : ∃ Z, Z = ms_setI Y 131 39 (Int32.ofNat (d - 1)) := ⟨_, rfl⟩
          obtain ⟨Z, hZ⟩ := Z0
          have ed : Int32.ofNat d - 1 = Int32.ofNat (d - 1) := by
            obtain ⟨k, rfl⟩ : ∃ k, d = k + 1 := ⟨d - 1, by omega⟩
            rw [ofN_p]; rfl
          have zI : ∀ j, j ≠ 39 → ms_I Z 131 j = ms_I Y 131 j := fun j hj => by rw [hZ]; simp only [mG, true_and, if_neg hj]
          have z39 : ms_I Z 131 39 = Int32.ofNat (d - 1) := by rw [hZ]; simp only [mG, and_self, if_true]
          have zA : ∀ b, ms_A Z b = ms_A Y b := fun b => by rw [hZ]; simp only [mGo]
          obtain ⟨S1, e1, r1⟩ := key Z (d - 1) (by omega) (by omega) (by rw [hZ]; exact PK_I pY (by decide)) (by rw [hZ]; exact MS_I mY (by omega)) ⟨by rw [zI 37 (by decide)]; exact cY.1, by rw [zI 38 (by decide)]; exact cY.2.1, z39, fun j hj => by rw [zA, zA]; exact cY.2.2.2 j hj⟩ (by rw [zA]; exact aY) (by rw [hZ]; exact oY.tr (offK.wI (by omega)))
          refine ⟨S1, ?_, r1⟩
          simp only [mE] at e1
          simp only [mE, cY.2.2.1, ed, ← hZ]
          exact e1
        · have hne : Int32.ofNat e.1 ≠ 3 := fun z => h3 (c3.1 z)
          rw [if_pos hne, if_neg h3]
          rw [if_neg (by omega)] at hd
          obtain ⟨S1, e1, r1⟩ := key Y d (by omega) hd7 pY mY cY aY oY
          refine ⟨S1, ?_, r1⟩
          simp only [mE, y40, i1, i2] at e1
          exact e1
      · rw [if_pos (show Int32.ofNat e.1 < Int32.ofNat r from (ofN_lt (by omega) (by omega)).2 (by omega)), er, if_neg (fun z => hre z.2)]
        exact ⟨S, rfl, hm, hp', hc, offK.rf⟩
    · rw [if_pos (show Int32.ofNat e.1 > 6 from (ofN_lt (i := 6) (by omega) (by omega)).2 (by omega)), er, if_neg (fun z => h6 z.1)]
      exact ⟨S, rfl, hm, hp', hc, offK.rf⟩
end MCC
