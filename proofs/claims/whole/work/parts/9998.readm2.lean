/-! readings: the reference's stack -/
section RM2
variable {N : Nat} {A : Ab} {s : Nat} {k d : Int32}
def e245 (N : Nat) (K : Int32 → Int32 → Int32 → Int32 → mM Unit) (n : Nat) (x1 x2 x3 x4 : Int32) : mM Unit := (mb (gI 131 106) fun v47 => if (x4 + 1) ≥ v47 then (mb (gI 131 107) fun v49 => mb (pI 131 107 (v49 + 1)) fun _ => f245_L320 N (fun (x1 : Int32) (x2 : Int32) (x3 : Int32) (x4 : Int32) (x5 : Int32) => (f245_L146 N K n x1 x2 x3 x4)) N x1 x2 x3 x4 0) else (mb (sA 196 8 (x4 + 1) (-1)) fun _ => f245_L146 N K n x1 x2 x3 (x4 + 1)))
def c245 (N : Nat) (K : Int32 → Int32 → Int32 → Int32 → mM Unit) (n : Nat) (x1 x2 x3 x4 : Int32) : mM Unit := (mb (lA 196 8 x4) fun v40 => mb (gI 131 90) fun v42 => if v40 < v42 then (mb (lA 196 8 x4) fun v44 => mb (sB 189 8 v44 1) fun _ => e245 N K n x1 x2 x3 x4) else (f245_L146 N K n x1 x2 x3 (x4 + (-1))))
def b245 (N : Nat) (K : Int32 → Int32 → Int32 → Int32 → mM Unit) (n : Nat) (x1 x2 x3 x4 : Int32) : mM Unit := (mb (lA 196 8 x4) fun v20 => mb (sA 196 8 x4 (v20 + 1)) fun _ => f245_L185 N (c245 N K n) N x1 x2 x3 x4)
theorem L146_s {K : Int32 → Int32 → Int32 → Int32 → mM Unit} {n : Nat} {x1 x2 x3 x4 : Int32} : f245_L146 N K (n + 1) x1 x2 x3 x4 = (if x4 < 0 then K x1 x2 x3 x4 else (mb (lA 196 8 x4) fun v60 => if v60 < 0 then b245 N K n x1 x2 x3 x4 else (mb (lA 196 8 x4) fun v62 => mb (sB 189 8 v62 0) fun _ => b245 N K n x1 x2 x3 x4))) := by
  rw [f245_L146]
  rfl
def NodR (N : Nat) (A : Ab) (s : Nat) (k d : Int32) (m : Nat) : Prop := ∀ (K : Int32 → Int32 → Int32 → Int32 → mM Unit) (x1 x2 x3 : Int32) (l : List Nat) (t : Nat) (st : Rs) (S : ms_S), l.length + (m + 1) = (sgA A k d).length → (∀ a ∈ l, a < 8) → CfR S A s k d l t st → ms_A S 196 l.length = -1 → ∃ T S1, T ≤ Ct (m + 1) ∧ (∀ fuel, f245_L146 N K (fuel + T) x1 x2 x3 (Int32.ofNat l.length) S = f245_L146 N K fuel x1 x2 x3 (Int32.ofNat l.length + (-1)) S1) ∧ CfR S1 A s k d l t (rdN (dayN8 A s k d).length ((rqA A s k d).drop l.length) t l st) ∧ offR S S1
def ChR (N : Nat) (A : Ab) (s : Nat) (k d : Int32) (m : Nat) : Prop := ∀ (K : Int32 → Int32 → Int32 → Int32 → mM Unit) (x1 x2 x3 : Int32) (l : List Nat) (t p : Nat) (st : Rs) (S : ms_S), l.length + (m + 1) = (sgA A k d).length → (∀ a ∈ l, a < 8) → p < (dayN8 A s k d).length → CfR S A s k d (p :: l) (t ||| 2 ^ p) st → ∃ T S1, T ≤ Ct m ∧ (∀ fuel, e245 N K (fuel + T) x1 x2 x3 (Int32.ofNat l.length) S = f245_L146 N K fuel x1 x2 x3 (Int32.ofNat l.length) S1) ∧ CfR S1 A s k d (p :: l) (t ||| 2 ^ p) (rdN (dayN8 A s k d).length ((rqA A s k d).drop (l.length + 1)) (t ||| 2 ^ p) (p :: l) st) ∧ offR S S1
theorem rfold_skip {n t c : Nat} {l : List Nat} {q : Nat → Bool} {R : List (Nat → Bool)} : ∀ (g i : Nat) (st : Rs), i + g ≤ c → (∀ j, i ≤ j → j < i + g → ¬ (q j = true ∧ Nat.testBit t j = false)) → (List.range' i (c - i)).foldl (rdB n q R t l) st = (List.range' (i + g) (c - (i + g))).foldl (rdB n q R t l) st := by
  intro g
  induction g with
  | zero => intro i st _ _; rfl
  | succ g ih =>
    intro i st hc h
    rw [show c - i = (c - (i + 1)) + 1 by omega, List.range'_succ, List.foldl_cons]
    have e : rdB n q R t l st i = st := if_neg (h i (Nat.le_refl _) (by omega))
    rw [e, ih (i + 1) st (by omega) (fun j h1 h2 => h j (by omega) (by omega)), show i + 1 + g = i + (g + 1) by omega]
theorem UsR_add {S S1 : ms_S} {t p : Nat} (hp : p < 8) (us : UsR S t) (h : ∀ q, ms_A S1 189 q = if q = p then 1 else ms_A S 189 q) : UsR S1 (t ||| 2 ^ p) := by
  refine ⟨(b_set us.1 hp).2, fun q hq => ?_⟩
  rw [h q, Nat.testBit_or, Nat.testBit_two_pow]
  by_cases e : q = p
  · subst e; rw [if_pos rfl]; simp
  · rw [if_neg e, us.2 q hq, decide_eq_false (fun q' => e q'.symm), Bool.or_false]
theorem UsR_rem {S S1 : ms_S} {t p : Nat} (ht : t < 256) (hf : Nat.testBit t p = false) (us : UsR S (t ||| 2 ^ p)) (h : ∀ q, ms_A S1 189 q = if q = p then 0 else ms_A S 189 q) : UsR S1 t := by
  refine ⟨ht, fun q hq => ?_⟩
  rw [h q]
  by_cases e : q = p
  · subst e; rw [if_pos rfl, if_neg (by rw [hf]; decide)]
  · rw [if_neg e, us.2 q hq, Nat.testBit_or, Nat.testBit_two_pow, decide_eq_false (fun q' => e q'.symm), Bool.or_false]
theorem BsR_fr {S S1 : ms_S} {c : Nat} {st : Rs} (h : BsR S c st) (h1 : ms_I S1 131 107 = ms_I S 131 107) (h2 : ms_A S1 197 = ms_A S 197) : BsR S1 c st := by
  unfold BsR at *
  rw [h1, h2]
  exact h
def AtR (S : ms_S) (A : Ab) (s : Nat) (k d : Int32) (l : List Nat) (t i : Nat) (st : Rs) : Prop := (i = 0 ∧ CfR S A s k d l t st ∧ ms_A S 196 l.length = -1) ∨ ∃ p, i = p + 1 ∧ p < (dayN8 A s k d).length ∧ Nat.testBit t p = false ∧ CfR S A s k d (p :: l) (t ||| 2 ^ p) st
theorem undoR {K : Int32 → Int32 → Int32 → Int32 → mM Unit} {x1 x2 x3 : Int32} {l : List Nat} {t i : Nat} {st : Rs} {S : ms_S} (hl : l.length < 8) (ht : t < 256) (hi : i ≤ (dayN8 A s k d).length) (ha : AtR S A s k d l t i st) : ∃ S1, (∀ n, f245_L146 N K (n + 1) x1 x2 x3 (Int32.ofNat l.length) S = f245_L185 N (c245 N K n) N x1 x2 x3 (Int32.ofNat l.length) S1) ∧ CfR S1 A s k d l t st ∧ ms_A S1 196 l.length = Int32.ofNat i ∧ offR S S1 := by
  have h8 : (dayN8 A s k d).length ≤ 8 := dayL_len _
  have z1 : inR (Int32.ofNat l.length) 8 := ofN_inR (by omega) (by omega)
  have z2 := ofN_cl (i := l.length) (by omega)
  rcases ha with ⟨rfl, ⟨rd, orr, us, bs⟩, h196⟩ | ⟨p, rfl, hp, hf, ⟨rd, orr, us, bs⟩⟩
  · have X0 : ∃ X, X = ms_setA S 196 l.length 0 := ⟨_, rfl⟩
    obtain ⟨X, hX⟩ := X0
    have oX : ∀ b, b ≠ 196 → Eqc S X b := fun b h1 => by rw [hX]; exact Eqc_A h1
    have oS : offR S X := ⟨fun j _ => by rw [(oX 131 (by decide)).1], fun b h1 h2 h3 => oX b (by omega)⟩
    refine ⟨X, fun n => ?_, ⟨RdS_off rd oS, fun j hj => by rw [hX]; simp only [mG, true_and, if_neg (show ¬ j = l.length by omega)]; exact orr j hj, ⟨ht, fun p hp => by rw [(oX 189 (by decide)).2.2.2.1]; exact us.2 p hp⟩, BsR_fr bs (by rw [(oX 131 (by decide)).1]) (oX 197 (by decide)).2.2.2.1⟩, by rw [hX]; simp [mG], oS⟩
    rw [L146_s, if_neg (ofN_nl (by omega))]
    unfold b245
    simp only [mE, z1, z2, h196]
    rw [if_pos (by decide), show (-1 : Int32) + 1 = 0 by decide, ← hX]
  · have j1 : inR (Int32.ofNat p) 8 := ofN_inR (by omega) (by omega)
    have j2 := ofN_cl (i := p) (by omega)
    obtain ⟨o1, o2⟩ := OrR_tail orr
    have X0 : ∃ X, X = ms_setA S 189 p 0 := ⟨_, rfl⟩
    obtain ⟨X, hX⟩ := X0
    have oX : ∀ b, b ≠ 189 → Eqc S X b := fun b h1 => by rw [hX]; exact Eqc_A h1
    have Y0 : ∃ Y, Y = ms_setA X 196 l.length (Int32.ofNat (p + 1)) := ⟨_, rfl⟩
    obtain ⟨Y, hY⟩ := Y0
    have oY : ∀ b, b ≠ 196 → Eqc X Y b := fun b h1 => by rw [hY]; exact Eqc_A h1
    have oXY : ∀ b, b ≠ 196 → b ≠ 189 → Eqc S Y b := fun b h1 h2 => (oX b h2).tr (oY b h1)
    have oS : offR S Y := ⟨fun j _ => by rw [(oXY 131 (by decide) (by decide)).1], fun b h1 h2 h3 => oXY b (by omega) h2⟩
    have x196 : ms_A X 196 l.length = Int32.ofNat p := by rw [(oX 196 (by decide)).2.2.2.1]; exact o2
    refine ⟨Y, fun n => ?_, ⟨RdS_off rd oS, fun j hj => by rw [hY]; simp only [mG, true_and, if_neg (show ¬ j = l.length by omega)]; rw [(oX 196 (by decide)).2.2.2.1]; exact o1 j hj, UsR_rem ht hf us (fun q => by rw [(oY 189 (by decide)).2.2.2.1, hX]; simp only [mG, true_and]), BsR_fr bs (by rw [(oXY 131 (by decide) (by decide)).1]) (oXY 197 (by decide) (by decide)).2.2.2.1⟩, by rw [hY]; simp [mG], oS⟩
    rw [L146_s, if_neg (ofN_nl (by omega))]
    unfold b245
    simp only [mE, z1, z2, o2]
    rw [if_neg (ofN_nl (by omega))]
    simp only [mE, z1, z2, j1, j2, vpb (Or.inl rfl), ← hX, x196, ofN_s, ← hY]
theorem rq_drop {i : Nat} (hi : i < (sgA A k d).length) : (rqA A s k d).drop i = rowQ A s k d ((sgA A k d).getD i 0) :: (rqA A s k d).drop (i + 1) := by
  unfold rqA
  rw [← List.map_drop, ← List.map_drop, drop_getD hi]
  rfl
set_option maxHeartbeats 1000000 in
theorem candR {m : Nat} (hN : 20 ≤ N) (hw : WF0 A) (hs8 : (sgA A k d).length ≤ 8) (ch : ChR N A s k d m) {K : Int32 → Int32 → Int32 → Int32 → mM Unit} {x1 x2 x3 : Int32} {l : List Nat} {t : Nat} (hl : l.length + (m + 1) = (sgA A k d).length) (hal : ∀ a ∈ l, a < 8) (ht : t < 256) : ∀ (g c i : Nat) (st : Rs) (S : ms_S), c < g → c + i = (dayN8 A s k d).length → AtR S A s k d l t i st → ∃ T S1, T ≤ 1 + c * (1 + Ct m) ∧ (∀ fuel, f245_L146 N K (fuel + T) x1 x2 x3 (Int32.ofNat l.length) S = f245_L146 N K fuel x1 x2 x3 (Int32.ofNat l.length + (-1)) S1) ∧ CfR S1 A s k d l t ((List.range' i c).foldl (rdB (dayN8 A s k d).length (rowQ A s k d ((sgA A k d).getD l.length 0)) ((rqA A s k d).drop (l.length + 1)) t l) st) ∧ offR S S1 := by
  have h8 : (dayN8 A s k d).length ≤ 8 := dayL_len _
  have z1 : inR (Int32.ofNat l.length) 8 := ofN_inR (by omega) (by omega)
  have z2 := ofN_cl (i := l.length) (by omega)
  intro g
  induction g with
  | zero => intro c i st S hg; exact absurd hg (by omega)
  | succ g ih =>
    intro c i st S hg hi ha
    obtain ⟨S1, e1, ⟨rd1, or1, us1, bs1⟩, h1, o1⟩ := undoR (N := N) (K := K) (x1 := x1) (x2 := x2) (x3 := x3) (by omega) ht (by omega) ha
    obtain ⟨p, S2, r1, r2, r3, r4, e2, t1, t2, o2⟩ := whR (N := N) (A := A) (s := s) (k := k) (d := d) (S0 := S1) (t := t) (z := l.length) (x1 := x1) (x2 := x2) (x3 := x3) hw (by omega) hs8 rd1 us1 c i N S1 hi (by omega) (fun _ _ => Eqc.rf) h1
    have oS : offR S1 S2 := ⟨fun j _ => by rw [(o2 131 (by decide)).1], fun b h1 h2 h3 => o2 b (by omega)⟩
    have rd2 := RdS_off rd1 oS
    have or2 : OrR S2 l := fun j hj => by rw [t2 j (by omega)]; exact or1 j hj
    have us2 : UsR S2 t := ⟨ht, fun q hq => by rw [(o2 189 (by decide)).2.2.2.1]; exact us1.2 q hq⟩
    have bs2 : BsR S2 (sgA A k d).length st := BsR_fr bs1 (by rw [(o2 131 (by decide)).1]) (o2 197 (by decide)).2.2.2.1
    have oS2 := o1.tr oS
    have h90 : ms_I S2 131 90 = Int32.ofNat (dayN8 A s k d).length := rd2.2.1.2.2.1.1
    have efold : ∀ f : Rs → Nat → Rs, f = rdB (dayN8 A s k d).length (rowQ A s k d ((sgA A k d).getD l.length 0)) ((rqA A s k d).drop (l.length + 1)) t l → (List.range' i c).foldl f st = (List.range' p ((dayN8 A s k d).length - p)).foldl f st := by
      intro f hf
      have := rfold_skip (n := (dayN8 A s k d).length) (t := t) (c := (dayN8 A s k d).length) (l := l) (q := rowQ A s k d ((sgA A k d).getD l.length 0)) (R := (rqA A s k d).drop (l.length + 1)) (p - i) i st (by omega) (fun j h1 h2 => r3 j h1 (by omega))
      rw [show (dayN8 A s k d).length - i = c by omega, show i + (p - i) = p by omega] at this
      rw [hf]
      exact this
    have step : ∀ n, f245_L146 N K (n + 1) x1 x2 x3 (Int32.ofNat l.length) S = c245 N K n x1 x2 x3 (Int32.ofNat l.length) S2 := fun n => (e1 n).trans (e2 (c245 N K n))
    have F0 : ∃ f, f = rdB (dayN8 A s k d).length (rowQ A s k d ((sgA A k d).getD l.length 0)) ((rqA A s k d).drop (l.length + 1)) t l := ⟨_, rfl⟩
    obtain ⟨f, hf⟩ := F0
    have efold := efold f hf
    rw [← hf]
    by_cases hpc : p = (dayN8 A s k d).length
    · refine ⟨1, S2, by omega, fun fuel => ?_, ?_, oS2⟩
      · rw [step]
        unfold c245
        simp only [mE, z1, z2, t1, h90]
        rw [if_neg (fun q => by have := (ofN_lt (i := p) (j := (dayN8 A s k d).length) (by omega) (by omega)).1 q; omega)]
      · rw [efold, hpc, Nat.sub_self]
        exact ⟨rd2, or2, us2, bs2⟩
    · have hp : p < (dayN8 A s k d).length := by omega
      have hfp := r4 hp
      have j1 : inR (Int32.ofNat p) 8 := ofN_inR (by omega) (by omega)
      have j2 := ofN_cl (i := p) (by omega)
      have Y0 : ∃ Y, Y = ms_setA S2 189 p 1 := ⟨_, rfl⟩
      obtain ⟨Y, hY⟩ := Y0
      have oY : ∀ b, b ≠ 189 → Eqc S2 Y b := fun b h1 => by rw [hY]; exact Eqc_A h1
      have oSY : offR S2 Y := ⟨fun j _ => by rw [(oY 131 (by decide)).1], fun b h1 h2 h3 => oY b h2⟩
      have cfgY : CfR Y A s k d (p :: l) (t ||| 2 ^ p) st := ⟨RdS_off rd2 oSY, OrR_cons or2 (fun j _ => by rw [(oY 196 (by decide)).2.2.2.1]) (by rw [(oY 196 (by decide)).2.2.2.1]; exact t1), UsR_add (by omega) us2 (fun q => by rw [hY]; simp only [mG, true_and]), BsR_fr bs2 (by rw [(oY 131 (by decide)).1]) (oY 197 (by decide)).2.2.2.1⟩
      have step2 : ∀ n, f245_L146 N K (n + 1) x1 x2 x3 (Int32.ofNat l.length) S = e245 N K n x1 x2 x3 (Int32.ofNat l.length) Y := by
        intro n
        rw [step]
        unfold c245
        simp only [mE, z1, z2, t1, h90]
        rw [if_pos ((ofN_lt (by omega) (by omega)).2 hp)]
        simp only [mE, z1, z2, t1, j1, j2, vpb (Or.inr rfl), ← hY]
      have efold2 : (List.range' i c).foldl f st = (List.range' (p + 1) ((dayN8 A s k d).length - (p + 1))).foldl f (f st p) := by
        rw [efold, show (dayN8 A s k d).length - p = ((dayN8 A s k d).length - (p + 1)) + 1 by omega, List.range'_succ, List.foldl_cons]
      have eb : f st p = rdN (dayN8 A s k d).length ((rqA A s k d).drop (l.length + 1)) (t ||| 2 ^ p) (p :: l) st := by rw [hf]; exact if_pos hfp
      obtain ⟨tc, S3, ht3, e3, cf3, o3⟩ := ch K x1 x2 x3 l t p st Y hl hal hp cfgY
      obtain ⟨tr, S4, ht4, e4, cf4, o4⟩ := ih ((dayN8 A s k d).length - (p + 1)) (p + 1) (rdN (dayN8 A s k d).length ((rqA A s k d).drop (l.length + 1)) (t ||| 2 ^ p) (p :: l) st) S3 (by omega) (by omega) (Or.inr ⟨p, rfl, hp, hfp.2, cf3⟩)
      rw [← hf] at cf4
      refine ⟨tr + tc + 1, S4, ?_, fun fuel => ?_, ?_, ((oS2.tr oSY).tr o3).tr o4⟩
      · have : ((dayN8 A s k d).length - (p + 1) + 1) * (1 + Ct m) ≤ c * (1 + Ct m) := Nat.mul_le_mul_right _ (by omega)
        rw [Nat.add_mul] at this
        omega
      · rw [show fuel + (tr + tc + 1) = (fuel + tr + tc) + 1 by omega, step2, e3, e4]
      · rw [efold2, eb]; exact cf4
theorem chR_zero (hN : 20 ≤ N) (hs8 : (sgA A k d).length ≤ 8) : ChR N A s k d 0 := by
  have h8 : (dayN8 A s k d).length ≤ 8 := dayL_len _
  intro K x1 x2 x3 l t p st S hl hal hp ⟨rd, orr, us, bs⟩
  have hl2 : (p :: l).length = (sgA A k d).length := by show l.length + 1 = _; omega
  have hal2 : ∀ a ∈ (p :: l), a < 8 := fun a ha => by
    rcases List.mem_cons.mp ha with rfl | ha
    · omega
    · exact hal a ha
  have X0 : ∃ X, X = ms_setI S 131 107 (Int32.ofNat (st.1 + 1)) := ⟨_, rfl⟩
  obtain ⟨X, hX⟩ := X0
  have oX : ∀ b, b ≠ 131 → Eqc S X b := fun b h1 => by rw [hX]; exact Eqc_I h1
  have xI : ∀ j, j ≠ 107 → ms_I X 131 j = ms_I S 131 j := fun j hj => by rw [hX]; simp only [mG, true_and, if_neg hj]
  have oS : offR S X := ⟨xI, fun b h1 _ _ => oX b h1⟩
  have orX : OrR X (p :: l) := fun j hj => by rw [(oX 196 (by decide)).2.2.2.1]; exact orr j hj
  obtain ⟨S1, e1, r1, o1⟩ := recR (N := N) (c := (sgA A k d).length) (x1 := x1) (x2 := x2) (x3 := x3) (x4 := Int32.ofNat l.length) (S0 := X) (l := p :: l) (st := st) hs8 hl2 hal2 orX (by rw [xI 106 (by decide)]; exact rd.2.2.1) (fun i hi => (bs.2 i hi).2) (sgA A k d).length 0 N X (by omega) (by omega) (fun _ _ => Eqc.rf) (fun j hj => by rw [if_neg (by omega), (oX 197 (by decide)).2.2.2.1]; exact (bs.2 j hj).1)
  have oS1 : offR X S1 := ⟨fun j _ => by rw [(o1 131 (by decide)).1], fun b h1 h2 h3 => o1 b (by omega)⟩
  have en : rdN (dayN8 A s k d).length ((rqA A s k d).drop (l.length + 1)) (t ||| 2 ^ p) (p :: l) st = (st.1 + 1, fun i => st.2 i ||| 2 ^ ((p :: l).reverse.getD i 0)) := by
    rw [show (rqA A s k d).drop (l.length + 1) = [] from List.drop_eq_nil_of_le (by unfold rqA; rw [List.length_map]; omega)]
    rfl
  rw [en]
  refine ⟨0, S1, Nat.le_refl _, fun fuel => ?_, ⟨RdS_off rd (oS.tr oS1), fun j hj => by rw [(o1 196 (by decide)).2.2.2.1]; exact orX j hj, ⟨us.1, fun q hq => by rw [(o1 189 (by decide)).2.2.2.1, (oX 189 (by decide)).2.2.2.1]; exact us.2 q hq⟩, ⟨by rw [(o1 131 (by decide)).1, hX]; simp [mG], fun j hj => ⟨r1 j hj, ?_⟩⟩⟩, oS.tr oS1⟩
  · unfold e245
    simp only [mE, rd.2.2.1, ofN_s]
    rw [if_pos ((ofN_le (by omega) (by omega)).2 (by omega))]
    simp only [mE, bs.1, ofN_s, ← hX]
    exact e1 _
  · have : (p :: l).reverse.getD j 0 < 8 := hal2 _ (by have := getD_mem (l := (p :: l).reverse) (p := j) (by rw [List.length_reverse]; omega); exact List.mem_reverse.mp this)
    exact (b_set (bs.2 j hj).2 this).2
theorem chR_succ {m : Nat} (hs8 : (sgA A k d).length ≤ 8) (hn : NodR N A s k d m) : ChR N A s k d (m + 1) := by
  have h8 : (dayN8 A s k d).length ≤ 8 := dayL_len _
  intro K x1 x2 x3 l t p st S hl hal hp ⟨rd, orr, us, bs⟩
  have z1 : inR (Int32.ofNat (l.length + 1)) 8 := ofN_inR (by omega) (by omega)
  have z2 := ofN_cl (i := l.length + 1) (by omega)
  have hal2 : ∀ a ∈ (p :: l), a < 8 := fun a ha => by
    rcases List.mem_cons.mp ha with rfl | ha
    · omega
    · exact hal a ha
  have X0 : ∃ X, X = ms_setA S 196 (l.length + 1) (-1) := ⟨_, rfl⟩
  obtain ⟨X, hX⟩ := X0
  have oX : ∀ b, b ≠ 196 → Eqc S X b := fun b h1 => by rw [hX]; exact Eqc_A h1
  have oS : offR S X := ⟨fun j _ => by rw [(oX 131 (by decide)).1], fun b h1 h2 h3 => oX b (by omega)⟩
  obtain ⟨T, S1, hT, e1, cf1, o1⟩ := hn K x1 x2 x3 (p :: l) (t ||| 2 ^ p) st X (by show l.length + 1 + (m + 1) = _; omega) hal2 ⟨RdS_off rd oS, fun j hj => by
    have hj' : j < l.length + 1 := hj
    rw [hX]
    simp only [mG, true_and, if_neg (show ¬ j = l.length + 1 by omega)]
    exact orr j hj, ⟨us.1, fun q hq => by rw [(oX 189 (by decide)).2.2.2.1]; exact us.2 q hq⟩, BsR_fr bs (by rw [(oX 131 (by decide)).1]) (oX 197 (by decide)).2.2.2.1⟩ (by rw [hX]; show ms_A _ 196 (l.length + 1) = _; simp [mG])
  refine ⟨T, S1, hT, fun fuel => ?_, cf1, oS.tr o1⟩
  have e1' := e1 fuel
  rw [show (p :: l).length = l.length + 1 from rfl, show Int32.ofNat (l.length + 1) + (-1) = Int32.ofNat l.length by rw [← ofN_s]; generalize Int32.ofNat l.length = z; clear hn hT e1 cf1 o1 oX oS; grind] at e1'
  unfold e245
  simp only [mE, rd.2.2.1, ofN_s]
  rw [if_neg (fun q => by have := (ofN_le (i := (sgA A k d).length) (j := l.length + 1) (by omega) (by omega)).1 q; omega)]
  simp only [mE, z1, z2, ← hX]
  exact e1'
theorem nodR_all (hN : 20 ≤ N) (hw : WF0 A) (hs8 : (sgA A k d).length ≤ 8) : ∀ m, NodR N A s k d m ∧ ChR N A s k d m := by
  have h8 : (dayN8 A s k d).length ≤ 8 := dayL_len _
  have nd : ∀ m, ChR N A s k d m → NodR N A s k d m := by
    intro m ch K x1 x2 x3 l t st S hl hal cf h196
    obtain ⟨T, S1, hT, e1, cf1, o1⟩ := candR (N := N) (A := A) (s := s) (k := k) (d := d) (m := m) hN hw hs8 ch (K := K) (x1 := x1) (x2 := x2) (x3 := x3) hl hal cf.2.2.1.1 ((dayN8 A s k d).length + 1) (dayN8 A s k d).length 0 st S (by omega) (by omega) (Or.inl ⟨rfl, cf, h196⟩)
    refine ⟨T, S1, ?_, e1, ?_, o1⟩
    · have : (dayN8 A s k d).length * (1 + Ct m) ≤ 8 * (1 + Ct m) := Nat.mul_le_mul_right _ h8
      show T ≤ 1 + 8 * (1 + Ct m)
      omega
    · rw [rq_drop (by omega), rdN_s]; exact cf1
  intro m
  induction m with
  | zero => exact ⟨nd 0 (chR_zero hN hs8), chR_zero hN hs8⟩
  | succ m ih => exact ⟨nd _ (chR_succ hs8 ih.1), chR_succ hs8 ih.1⟩
end RM2
