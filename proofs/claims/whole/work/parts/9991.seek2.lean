/-! the reference's search, its stack -/
section SK2
variable {N : Nat} {P : PP}
/-- behind the test against the best -/
def e237 (N : Nat) (K : Int32 → Int32 → Int32 → Int32 → Int32 → mM Unit) (n : Nat) (x1 x2 x3 x4 x5 x6 : Int32) : mM Unit := (mb (gI 131 90) fun v46 => if (x4 + 1) ≥ v46 then (mb (pI 131 91 x5) fun _ => f237_L318 N (fun (x1 : Int32) (x2 : Int32) (x3 : Int32) (x4 : Int32) (x5 : Int32) (x6 : Int32) (x7 : Int32) => (f237_L90 N K n x1 x2 x3 x4 x5)) N x1 x2 x3 x4 x5 x6 0) else (mb (sA 185 8 (x4 + 1) (-1)) fun _ => f237_L90 N K n x1 x2 x3 (x4 + 1) x5))
/-- behind the search for the next that is free -/
def c237 (N : Nat) (K : Int32 → Int32 → Int32 → Int32 → Int32 → mM Unit) (n : Nat) (x1 x2 x3 x4 x5 : Int32) : mM Unit := (mb (lA 185 8 x4) fun v28 => mb (gI 131 90) fun v30 => if v28 ≠ v30 then (mb (f236 N x4) fun v32 => mb (sA 186 8 x4 v32) fun _ => mb (lA 186 8 x4) fun v35 => mb (lA 185 8 x4) fun v37 => mb (lA 181 8 v37) fun v39 => mb (lA 185 8 x4) fun v41 => mb (sB 189 8 v41 1) fun _ => mb (gI 131 91) fun v44 => if (x5 + (v35 - v39)) < v44 then e237 N K n x1 x2 x3 x4 (x5 + (v35 - v39)) (v35 - v39) else (f237_L90 N K n x1 x2 x3 x4 (x5 + (v35 - v39)))) else (f237_L90 N K n x1 x2 x3 (x4 + (-1)) x5))
def b237 (N : Nat) (K : Int32 → Int32 → Int32 → Int32 → Int32 → mM Unit) (n : Nat) (x1 x2 x3 x4 x5 : Int32) : mM Unit := (mb (lA 185 8 x4) fun v14 => mb (sA 185 8 x4 (v14 + 1)) fun _ => f237_L154 N (c237 N K n) N x1 x2 x3 x4 x5)
theorem L90_s {K : Int32 → Int32 → Int32 → Int32 → Int32 → mM Unit} {n : Nat} {x1 x2 x3 x4 x5 : Int32} : f237_L90 N K (n + 1) x1 x2 x3 x4 x5 = (if x4 < 0 then K x1 x2 x3 x4 x5 else (mb (lA 185 8 x4) fun v60 => if v60 < 0 then b237 N K n x1 x2 x3 x4 x5 else (mb (lA 185 8 x4) fun v62 => mb (sB 189 8 v62 0) fun _ => mb (lA 186 8 x4) fun v65 => mb (lA 185 8 x4) fun v67 => mb (lA 181 8 v67) fun v69 => b237 N K n x1 x2 x3 x4 (x5 - (v65 - v69))))) := by
  rw [f237_L90]
  rfl
def Ct : Nat → Nat
  | 0 => 0
  | m + 1 => 1 + 8 * (1 + Ct m)
def Cfg (S : ms_S) (P : PP) (l : Pl) (st : Bs) : Prop := PrM S P ∧ OrM S l ∧ UsM S P l ∧ BsM S P st
def NodeS (N : Nat) (P : PP) (m : Nat) : Prop := ∀ (K : Int32 → Int32 → Int32 → Int32 → Int32 → mM Unit) (x1 x2 x3 : Int32) (l : Pl) (w : Nat) (st : Bs) (S : ms_S), l.length + (m + 1) = pC P → nfr l (pC P) = m + 1 → NDl l → Bd P l w → Cfg S P l st → ms_A S 185 l.length = -1 → ∃ t S1, t ≤ Ct (m + 1) ∧ (∀ fuel, f237_L90 N K (fuel + t) x1 x2 x3 (Int32.ofNat l.length) (Int32.ofNat w) S = f237_L90 N K fuel x1 x2 x3 (Int32.ofNat l.length + (-1)) (Int32.ofNat w) S1) ∧ Cfg S1 P l (node P (m + 1) l w st) ∧ offSk S S1
def ChS (N : Nat) (P : PP) (m : Nat) : Prop := ∀ (K : Int32 → Int32 → Int32 → Int32 → Int32 → mM Unit) (x1 x2 x3 x6 : Int32) (l : Pl) (w p : Nat) (st : Bs) (S : ms_S), l.length + (m + 1) = pC P → nfr l (pC P) = m + 1 → NDl l → Bd P l w → p < pC P → fr l p = true → Cfg S P (stp P l p) st → wai P l w p < st.1 → ∃ t S1, t ≤ Ct m ∧ (∀ fuel, e237 N K (fuel + t) x1 x2 x3 (Int32.ofNat l.length) (Int32.ofNat (wai P l w p)) x6 S = f237_L90 N K fuel x1 x2 x3 (Int32.ofNat l.length) (Int32.ofNat (wai P l w p)) S1) ∧ Cfg S1 P (stp P l p) (node P m (stp P l p) (wai P l w p) st) ∧ offSk S S1
theorem fold_skip {m w c : Nat} {l : Pl} : ∀ (g i : Nat) (st : Bs), i + g ≤ c → (∀ q, i ≤ q → q < i + g → fr l q = false) → (List.range' i (c - i)).foldl (brn P m l w) st = (List.range' (i + g) (c - (i + g))).foldl (brn P m l w) st := by
  intro g
  induction g with
  | zero => intro i st _ _; rfl
  | succ g ih =>
    intro i st hc h
    rw [show c - i = (c - (i + 1)) + 1 by omega, List.range'_succ, List.foldl_cons]
    have e : brn P m l w st i = st := if_neg (by rw [h i (Nat.le_refl _) (by omega)]; decide)
    rw [e, ih (i + 1) st (by omega) (fun q h1 h2 => h q (by omega) (by omega)), show i + 1 + g = i + (g + 1) by omega]
theorem fr_stp {l : Pl} {p q : Nat} : fr (stp P l p) q = true ↔ p ≠ q ∧ fr l q = true := fr_cons
theorem UsM_add {S S1 : ms_S} {l : Pl} {p : Nat} (us : UsM S P l) (h : ∀ q, ms_A S1 189 q = if q = p then 1 else ms_A S 189 q) : UsM S1 P (stp P l p) := by
  intro q hq
  rw [h q]
  by_cases e : q = p
  · rw [if_pos e, if_neg (fun f => (fr_stp.1 f).1 e.symm)]
  · rw [if_neg e, us q hq]
    by_cases hf : fr l q = true
    · rw [if_pos hf, if_pos (fr_stp.2 ⟨fun q' => e q'.symm, hf⟩)]
    · rw [if_neg hf, if_neg (fun f => hf (fr_stp.1 f).2)]
theorem UsM_rem {S S1 : ms_S} {l : Pl} {p : Nat} (hf : fr l p = true) (us : UsM S P (stp P l p)) (h : ∀ q, ms_A S1 189 q = if q = p then 0 else ms_A S 189 q) : UsM S1 P l := by
  intro q hq
  rw [h q]
  by_cases e : q = p
  · subst e; rw [if_pos rfl, if_pos hf]
  · rw [if_neg e, us q hq]
    by_cases hf : fr l q = true
    · rw [if_pos hf, if_pos (fr_stp.2 ⟨fun q' => e q'.symm, hf⟩)]
    · rw [if_neg hf, if_neg (fun f => hf (fr_stp.1 f).2)]
theorem BsM_fr {S S1 : ms_S} {st : Bs} (h : BsM S P st) (h1 : ms_I S1 131 91 = ms_I S 131 91) (h2 : ms_A S1 183 = ms_A S 183) (h3 : ms_A S1 184 = ms_A S 184) : BsM S1 P st := by
  unfold BsM at *
  rw [h1, h2, h3]
  exact h
/-- where a level stands: nothing tried yet, or the one before i just tried -/
def At (S : ms_S) (P : PP) (l : Pl) (w i : Nat) (x5 : Int32) (st : Bs) : Prop := (i = 0 ∧ x5 = Int32.ofNat w ∧ Cfg S P l st ∧ ms_A S 185 l.length = -1) ∨ ∃ p, i = p + 1 ∧ p < pC P ∧ fr l p = true ∧ x5 = Int32.ofNat (wai P l w p) ∧ Cfg S P (stp P l p) st
theorem undo {K : Int32 → Int32 → Int32 → Int32 → Int32 → mM Unit} {x1 x2 x3 x5 : Int32} {l : Pl} {w i : Nat} {st : Bs} {S : ms_S} (hP : PB P) (hl : l.length < 8) (hi : i ≤ pC P) (bd : Bd P l w) (ha : At S P l w i x5 st) : ∃ S1, (∀ n, f237_L90 N K (n + 1) x1 x2 x3 (Int32.ofNat l.length) x5 S = f237_L154 N (c237 N K n) N x1 x2 x3 (Int32.ofNat l.length) (Int32.ofNat w) S1) ∧ Cfg S1 P l st ∧ ms_A S1 185 l.length = Int32.ofNat i ∧ offSk S S1 := by
  have hc := hP.1
  have z1 : inR (Int32.ofNat l.length) 8 := ofN_inR (by omega) (by omega)
  have z2 := ofN_cl (i := l.length) (by omega)
  rcases ha with ⟨rfl, rfl, ⟨pr, orr, us, bs⟩, h185⟩ | ⟨p, rfl, hp, hf, rfl, ⟨pr, orr, us, bs⟩⟩
  · have X0 : ∃ X, X = ms_setA S 185 l.length 0 := ⟨_, rfl⟩
    obtain ⟨X, hX⟩ := X0
    have oX : ∀ b, b ≠ 185 → Eqc S X b := fun b h1 => by rw [hX]; exact Eqc_A h1
    have oS : offSk S X := ⟨fun j _ => by rw [(oX 131 (by decide)).1], fun b h1 h2 h3 => oX b (by omega)⟩
    refine ⟨X, fun n => ?_, ⟨PrM_off pr oS, OrM_fr orr (fun j hj => ⟨by rw [hX]; simp only [mG, true_and, if_neg (show ¬ j = l.length by omega)], by rw [(oX 186 (by decide)).2.2.2.1]⟩), fun p hp => by rw [(oX 189 (by decide)).2.2.2.1]; exact us p hp, BsM_fr bs (by rw [(oX 131 (by decide)).1]) (oX 183 (by decide)).2.2.2.1 (oX 184 (by decide)).2.2.2.1⟩, by rw [hX]; simp [mG], oS⟩
    rw [L90_s, if_neg (ofN_nl (by omega))]
    unfold b237
    simp only [mE, z1, z2, h185]
    rw [if_pos (by decide), show (-1 : Int32) + 1 = 0 by decide, ← hX]
  · have j1 : inR (Int32.ofNat p) 8 := ofN_inR (by omega) (by omega)
    have j2 := ofN_cl (i := p) (by omega)
    obtain ⟨o1, o2, o3⟩ := orr
    have o1 : ms_A S 185 l.length = Int32.ofNat p := o1
    have o2 : ms_A S 186 l.length = Int32.ofNat (ear P l p) := o2
    have X0 : ∃ X, X = ms_setA S 189 p 0 := ⟨_, rfl⟩
    obtain ⟨X, hX⟩ := X0
    have oX : ∀ b, b ≠ 189 → Eqc S X b := fun b h1 => by rw [hX]; exact Eqc_A h1
    have Y0 : ∃ Y, Y = ms_setA X 185 l.length (Int32.ofNat (p + 1)) := ⟨_, rfl⟩
    obtain ⟨Y, hY⟩ := Y0
    have oY : ∀ b, b ≠ 185 → Eqc X Y b := fun b h1 => by rw [hY]; exact Eqc_A h1
    have oXY : ∀ b, b ≠ 185 → b ≠ 189 → Eqc S Y b := fun b h1 h2 => (oX b h2).tr (oY b h1)
    have oS : offSk S Y := ⟨fun j _ => by rw [(oXY 131 (by decide) (by decide)).1], fun b h1 h2 h3 => oXY b (by omega) h3⟩
    have x185 : ms_A X 185 l.length = Int32.ofNat p := by rw [(oX 185 (by decide)).2.2.2.1]; exact o1
    have x186 : ms_A X 186 l.length = Int32.ofNat (ear P l p) := by rw [(oX 186 (by decide)).2.2.2.1]; exact o2
    have x181 : ms_A X 181 p = Int32.ofNat (pRd P p) := by rw [(oX 181 (by decide)).2.2.2.1]; exact (pr.2.2 p hp).2.1
    refine ⟨Y, fun n => ?_, ⟨PrM_off pr oS, OrM_fr o3 (fun j hj => ⟨by rw [hY]; simp only [mG, true_and, if_neg (show ¬ j = l.length by omega)]; rw [(oX 185 (by decide)).2.2.2.1], by rw [(oXY 186 (by decide) (by decide)).2.2.2.1]⟩), UsM_rem hf us (fun q => by rw [(oY 189 (by decide)).2.2.2.1, hX]; simp only [mG, true_and]), BsM_fr bs (by rw [(oXY 131 (by decide) (by decide)).1]) (oXY 183 (by decide) (by decide)).2.2.2.1 (oXY 184 (by decide) (by decide)).2.2.2.1⟩, by rw [hY]; simp [mG], oS⟩
    rw [L90_s, if_neg (ofN_nl (by omega))]
    unfold b237
    simp only [mE, z1, z2, o1]
    rw [if_neg (ofN_nl (by omega))]
    simp only [mE, z1, z2, j1, j2, vpb (Or.inl rfl), ← hX, x185, x186, x181]
    have hr := ear_rd (P := P) (l := l) (p := p)
    have ew : Int32.ofNat (wai P l w p) - (Int32.ofNat (ear P l p) - Int32.ofNat (pRd P p)) = Int32.ofNat w := by
      rw [ofN_sub hr, ofN_sub (by unfold wai; omega)]
      congr 1
      unfold wai
      omega
    rw [ew, ofN_s, ← hY]
set_option maxHeartbeats 1000000 in
theorem candL {m : Nat} (hN : 20 ≤ N) (hP : PB P) (ch : ChS N P m) {K : Int32 → Int32 → Int32 → Int32 → Int32 → mM Unit} {x1 x2 x3 : Int32} {l : Pl} {w : Nat} (hl : l.length + (m + 1) = pC P) (hnf : nfr l (pC P) = m + 1) (nd : NDl l) (bd : Bd P l w) : ∀ (g k i : Nat) (x5 : Int32) (st : Bs) (S : ms_S), k < g → k + i = pC P → At S P l w i x5 st → ∃ t S1, t ≤ 1 + k * (1 + Ct m) ∧ (∀ fuel, f237_L90 N K (fuel + t) x1 x2 x3 (Int32.ofNat l.length) x5 S = f237_L90 N K fuel x1 x2 x3 (Int32.ofNat l.length + (-1)) (Int32.ofNat w) S1) ∧ Cfg S1 P l ((List.range' i k).foldl (brn P m l w) st) ∧ offSk S S1 := by
  have hc := hP.1
  have z1 : inR (Int32.ofNat l.length) 8 := ofN_inR (by omega) (by omega)
  have z2 := ofN_cl (i := l.length) (by omega)
  intro g
  induction g with
  | zero => intro k i x5 st S hg; exact absurd hg (by omega)
  | succ g ih =>
    intro k i x5 st S hg hi ha
    obtain ⟨S1, e1, ⟨pr1, or1, us1, bs1⟩, h1, o1⟩ := undo (N := N) (K := K) (x1 := x1) (x2 := x2) (x3 := x3) hP (by omega) (by omega) bd ha
    obtain ⟨p, S2, r1, r2, r3, r4, e2, t1, t2, o2⟩ := whL (N := N) (P := P) (S0 := S1) (l := l) (x1 := x1) (x2 := x2) (x3 := x3) (x5 := Int32.ofNat w) (z := l.length) hP (by omega) pr1.1 us1 k i N S1 hi (by omega) (fun _ _ => Eqc.rf) h1
    have oS : offSk S1 S2 := ⟨fun j _ => by rw [(o2 131 (by decide)).1], fun b h1 h2 h3 => o2 b (by omega)⟩
    have pr2 := PrM_off pr1 oS
    have or2 : OrM S2 l := OrM_fr or1 (fun j hj => ⟨t2 j (by omega), by rw [(o2 186 (by decide)).2.2.2.1]⟩)
    have us2 : UsM S2 P l := fun q hq => by rw [(o2 189 (by decide)).2.2.2.1]; exact us1 q hq
    have bs2 : BsM S2 P st := BsM_fr bs1 (by rw [(o2 131 (by decide)).1]) (o2 183 (by decide)).2.2.2.1 (o2 184 (by decide)).2.2.2.1
    have oS2 := o1.tr oS
    have efold : (List.range' i k).foldl (brn P m l w) st = (List.range' p (pC P - p)).foldl (brn P m l w) st := by
      have := fold_skip (P := P) (m := m) (w := w) (c := pC P) (l := l) (p - i) i st (by omega) (fun q h1 h2 => r3 q h1 (by omega))
      rw [show pC P - i = k by omega, show i + (p - i) = p by omega] at this
      exact this
    have step : ∀ n, f237_L90 N K (n + 1) x1 x2 x3 (Int32.ofNat l.length) x5 S = c237 N K n x1 x2 x3 (Int32.ofNat l.length) (Int32.ofNat w) S2 := fun n => (e1 n).trans (e2 (c237 N K n))
    by_cases hpc : p = pC P
    · refine ⟨1, S2, by omega, fun fuel => ?_, ?_, oS2⟩
      · rw [step]
        unfold c237
        simp only [mE, z1, z2, t1, pr2.1]
        rw [if_neg (fun q => q (by rw [hpc]))]
      · rw [efold, hpc, Nat.sub_self]
        exact ⟨pr2, or2, us2, bs2⟩
    · have hp : p < pC P := by omega
      have hf := r4 hp
      have j1 : inR (Int32.ofNat p) 8 := ofN_inR (by omega) (by omega)
      have j2 := ofN_cl (i := p) (by omega)
      have m236 : ∀ {β : Type} {f' : Int32 → mM β}, mb (f236 N (Int32.ofNat l.length)) f' S2 = f' (Int32.ofNat (ear P l p)) S2 := by intro β f'; simp only [mb, q236 hN hP pr2 or2 bd (show l.length < 8 by omega) hp t1]
      have X0 : ∃ X, X = ms_setA S2 186 l.length (Int32.ofNat (ear P l p)) := ⟨_, rfl⟩
      obtain ⟨X, hX⟩ := X0
      have oX : ∀ b, b ≠ 186 → Eqc S2 X b := fun b h1 => by rw [hX]; exact Eqc_A h1
      have Y0 : ∃ Y, Y = ms_setA X 189 p 1 := ⟨_, rfl⟩
      obtain ⟨Y, hY⟩ := Y0
      have oY : ∀ b, b ≠ 189 → Eqc X Y b := fun b h1 => by rw [hY]; exact Eqc_A h1
      have oXY : ∀ b, b ≠ 186 → b ≠ 189 → Eqc S2 Y b := fun b h1 h2 => (oX b h1).tr (oY b h2)
      have oSY : offSk S2 Y := ⟨fun j _ => by rw [(oXY 131 (by decide) (by decide)).1], fun b h1 h2 h3 => oXY b (by omega) h3⟩
      have x186 : ms_A X 186 l.length = Int32.ofNat (ear P l p) := by rw [hX]; simp [mG]
      have x185 : ms_A X 185 l.length = Int32.ofNat p := by rw [(oX 185 (by decide)).2.2.2.1]; exact t1
      have x181 : ms_A X 181 p = Int32.ofNat (pRd P p) := by rw [(oX 181 (by decide)).2.2.2.1]; exact (pr2.2.2 p hp).2.1
      have y91 : ms_I Y 131 91 = Int32.ofNat st.1 := by rw [(oXY 131 (by decide) (by decide)).1]; exact bs2.1
      have cfgY : Cfg Y P (stp P l p) st := ⟨PrM_off pr2 oSY, ⟨by rw [(oY 185 (by decide)).2.2.2.1]; exact x185, by rw [(oY 186 (by decide)).2.2.2.1]; exact x186, OrM_fr or2 (fun j hj => ⟨by rw [(oXY 185 (by decide) (by decide)).2.2.2.1], by rw [(oY 186 (by decide)).2.2.2.1, hX]; simp only [mG, true_and, if_neg (show ¬ j = l.length by omega)]⟩)⟩, UsM_add us2 (fun q => by rw [hY]; simp only [mG, true_and]; rw [(oX 189 (by decide)).2.2.2.1]), BsM_fr bs2 (by rw [(oXY 131 (by decide) (by decide)).1]) (oXY 183 (by decide) (by decide)).2.2.2.1 (oXY 184 (by decide) (by decide)).2.2.2.1⟩
      have hr := ear_rd (P := P) (l := l) (p := p)
      have ew : Int32.ofNat w + (Int32.ofNat (ear P l p) - Int32.ofNat (pRd P p)) = Int32.ofNat (wai P l w p) := by
        rw [ofN_sub hr, ofN_add]
        rfl
      have step2 : ∀ n, f237_L90 N K (n + 1) x1 x2 x3 (Int32.ofNat l.length) x5 S = if Int32.ofNat (wai P l w p) < Int32.ofNat st.1 then e237 N K n x1 x2 x3 (Int32.ofNat l.length) (Int32.ofNat (wai P l w p)) (Int32.ofNat (ear P l p) - Int32.ofNat (pRd P p)) Y else f237_L90 N K n x1 x2 x3 (Int32.ofNat l.length) (Int32.ofNat (wai P l w p)) Y := by
        intro n
        rw [step]
        unfold c237
        simp only [mE, z1, z2, t1, pr2.1]
        rw [if_pos (fun q => hpc ((ofN_eq (by omega) (by omega)).1 q)), m236]
        simp only [mE, z1, z2, ← hX, x186, x185, j1, j2, x181, vpb (Or.inr rfl), ← hY, y91, ew]
      have hwb := (stp_bd hP bd hp (by omega)).2
      have hsl : (stp P l p).length = l.length + 1 := rfl
      have hst := bs2.2.1
      have efold2 : (List.range' i k).foldl (brn P m l w) st = (List.range' (p + 1) (pC P - (p + 1))).foldl (brn P m l w) (brn P m l w st p) := by
        rw [efold, show pC P - p = (pC P - (p + 1)) + 1 by omega, List.range'_succ, List.foldl_cons]
      have eb : brn P m l w st p = node P m (stp P l p) (wai P l w p) st := if_pos hf
      by_cases hlt : wai P l w p < st.1
      · obtain ⟨tc, S3, ht, e3, cf3, o3⟩ := ch K x1 x2 x3 (Int32.ofNat (ear P l p) - Int32.ofNat (pRd P p)) l w p st Y hl hnf nd bd hp hf cfgY hlt
        obtain ⟨tr, S4, ht4, e4, cf4, o4⟩ := ih (pC P - (p + 1)) (p + 1) (Int32.ofNat (wai P l w p)) (node P m (stp P l p) (wai P l w p) st) S3 (by omega) (by omega) (Or.inr ⟨p, rfl, hp, hf, rfl, cf3⟩)
        refine ⟨tr + tc + 1, S4, ?_, fun fuel => ?_, ?_, ((oS2.tr oSY).tr o3).tr o4⟩
        · have : (pC P - (p + 1) + 1) * (1 + Ct m) ≤ k * (1 + Ct m) := Nat.mul_le_mul_right _ (by omega)
          rw [Nat.add_mul] at this
          omega
        · rw [show fuel + (tr + tc + 1) = (fuel + tr + tc) + 1 by omega, step2, if_pos ((ofN_lt (by omega) (by omega)).2 hlt), e3, e4]
        · rw [efold2, eb]; exact cf4
      · obtain ⟨tr, S4, ht4, e4, cf4, o4⟩ := ih (pC P - (p + 1)) (p + 1) (Int32.ofNat (wai P l w p)) st Y (by omega) (by omega) (Or.inr ⟨p, rfl, hp, hf, rfl, cfgY⟩)
        refine ⟨tr + 1, S4, ?_, fun fuel => ?_, ?_, (oS2.tr oSY).tr o4⟩
        · have : (pC P - (p + 1) + 1) * (1 + Ct m) ≤ k * (1 + Ct m) := Nat.mul_le_mul_right _ (by omega)
          rw [Nat.add_mul] at this
          omega
        · rw [show fuel + (tr + 1) = (fuel + tr) + 1 by omega, step2, if_neg (fun q => hlt ((ofN_lt (by omega) (by omega)).1 q)), e4]
        · rw [efold2, eb, ni _ _ _ _ (fun W hW => by have := cmp_mono _ _ _ _ hW; omega)]; exact cf4
theorem ch_zero (hN : 20 ≤ N) (hP : PB P) : ChS N P 0 := by
  have hc := hP.1
  intro K x1 x2 x3 x6 l w p st S hl hnf nd bd hp hf ⟨pr, orr, us, bs⟩ hlt
  have hl2 : (stp P l p).length = pC P := by show l.length + 1 = _; omega
  have bd2 := stp_bd hP bd hp (by omega)
  have X0 : ∃ X, X = ms_setI S 131 91 (Int32.ofNat (wai P l w p)) := ⟨_, rfl⟩
  obtain ⟨X, hX⟩ := X0
  have oX : ∀ b, b ≠ 131 → Eqc S X b := fun b h1 => by rw [hX]; exact Eqc_I h1
  have xI : ∀ j, j ≠ 91 → ms_I X 131 j = ms_I S 131 j := fun j hj => by rw [hX]; simp only [mG, true_and, if_neg hj]
  have oS : offSk S X := ⟨xI, fun b h1 _ _ => oX b h1⟩
  have orX : OrM X (stp P l p) := OrM_fr orr (fun j _ => ⟨by rw [(oX 185 (by decide)).2.2.2.1], by rw [(oX 186 (by decide)).2.2.2.1]⟩)
  obtain ⟨S1, e1, r1, o1⟩ := recL (N := N) (P := P) (x1 := x1) (x2 := x2) (x3 := x3) (x4 := Int32.ofNat l.length) (x5 := Int32.ofNat (wai P l w p)) (x6 := x6) (S0 := X) (l := stp P l p) (w := wai P l w p) hP (PrM_off pr oS) orX bd2 hl2 (stp P l p).length 0 N X (by omega) (by omega) (fun _ _ _ => Eqc.rf) (by
    rw [List.drop_length]
    intro q hq
    exact absurd hq (by simp [fr]))
  have oS1 : offSk X S1 := ⟨fun j _ => by rw [(o1 131 (by decide) (by decide)).1], fun b h1 h2 h3 => o1 b (by omega) (by omega)⟩
  have hst := bs.2.1
  refine ⟨0, S1, Nat.le_refl _, fun fuel => ?_, ⟨PrM_off pr (oS.tr oS1), OrM_fr orX (fun j _ => ⟨by rw [(o1 185 (by decide) (by decide)).2.2.2.1], by rw [(o1 186 (by decide) (by decide)).2.2.2.1]⟩), fun q hq => by rw [(o1 189 (by decide) (by decide)).2.2.2.1, (oX 189 (by decide)).2.2.2.1]; exact us q hq, ?_⟩, oS.tr oS1⟩
  · unfold e237
    simp only [mE, pr.1, ofN_s]
    rw [if_pos ((ofN_le (by omega) (by omega)).2 (by omega)), ← hX]
    exact e1 _
  · have en : node P 0 (stp P l p) (wai P l w p) st = (wai P l w p, stp P l p) := if_pos hlt
    rw [en]
    have hall := nfr_no _ (nfr_stp (P := P) hf hp hnf)
    exact ⟨by rw [(o1 131 (by decide) (by decide)).1, hX]; simp [mG], by show wai P l w p ≤ _; omega, fun q hq => r1 q (hall q hq)⟩
theorem ch_succ {m : Nat} (hP : PB P) (hn : NodeS N P m) : ChS N P (m + 1) := by
  have hc := hP.1
  intro K x1 x2 x3 x6 l w p st S hl hnf nd bd hp hf ⟨pr, orr, us, bs⟩ hlt
  have hl2 : (stp P l p).length = l.length + 1 := rfl
  have z1 : inR (Int32.ofNat (l.length + 1)) 8 := ofN_inR (by omega) (by omega)
  have z2 := ofN_cl (i := l.length + 1) (by omega)
  have bd2 := stp_bd hP bd hp (by omega)
  have X0 : ∃ X, X = ms_setA S 185 (l.length + 1) (-1) := ⟨_, rfl⟩
  obtain ⟨X, hX⟩ := X0
  have oX : ∀ b, b ≠ 185 → Eqc S X b := fun b h1 => by rw [hX]; exact Eqc_A h1
  have oS : offSk S X := ⟨fun j _ => by rw [(oX 131 (by decide)).1], fun b h1 h2 _ => oX b (by omega)⟩
  have orX : OrM X (stp P l p) := OrM_fr orr (fun j hj => ⟨by rw [hX]; simp only [mG, true_and, if_neg (show ¬ j = l.length + 1 by omega)], by rw [(oX 186 (by decide)).2.2.2.1]⟩)
  obtain ⟨t, S1, ht, e1, cf1, o1⟩ := hn K x1 x2 x3 (stp P l p) (wai P l w p) st X (by omega) (nfr_stp hf hp hnf) ⟨hf, nd⟩ bd2 ⟨PrM_off pr oS, orX, fun q hq => by rw [(oX 189 (by decide)).2.2.2.1]; exact us q hq, BsM_fr bs (by rw [(oX 131 (by decide)).1]) (oX 183 (by decide)).2.2.2.1 (oX 184 (by decide)).2.2.2.1⟩ (by rw [hX, hl2]; simp [mG])
  refine ⟨t, S1, ht, fun fuel => ?_, cf1, oS.tr o1⟩
  have e1' := e1 fuel
  rw [hl2, show Int32.ofNat (l.length + 1) + (-1) = Int32.ofNat l.length by rw [← ofN_s]; generalize Int32.ofNat l.length = z; clear hn ht e1 cf1 o1 oX oS; grind] at e1'
  unfold e237
  simp only [mE, pr.1, ofN_s]
  rw [if_neg (fun q => by have := (ofN_le (i := pC P) (j := l.length + 1) (by omega) (by omega)).1 q; omega)]
  simp only [mE, z1, z2, ← hX]
  exact e1'
theorem node_all (hN : 20 ≤ N) (hP : PB P) : ∀ m, NodeS N P m ∧ ChS N P m := by
  have hc := hP.1
  have nd : ∀ m, ChS N P m → NodeS N P m := by
    intro m ch K x1 x2 x3 l w st S hl hnf nd bd cf h185
    obtain ⟨t, S1, ht, e1, cf1, o1⟩ := candL (N := N) (P := P) (m := m) hN hP ch (K := K) (x1 := x1) (x2 := x2) (x3 := x3) hl hnf nd bd (pC P + 1) (pC P) 0 (Int32.ofNat w) st S (by omega) (by omega) (Or.inl ⟨rfl, rfl, cf, h185⟩)
    refine ⟨t, S1, ?_, e1, cf1, o1⟩
    have : pC P * (1 + Ct m) ≤ 8 * (1 + Ct m) := Nat.mul_le_mul_right _ hc
    show t ≤ 1 + 8 * (1 + Ct m)
    omega
  intro m
  induction m with
  | zero => exact ⟨nd 0 (ch_zero hN hP), ch_zero hN hP⟩
  | succ m ih => exact ⟨nd _ (ch_succ hP ih.1), ch_succ hP ih.1⟩
end SK2
