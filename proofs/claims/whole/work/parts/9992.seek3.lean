/-! plan and goes: the reference -/
theorem Ct_le : ∀ m, m ≤ 8 → Ct m ≤ 21570705 := by decide +kernel
/-- what the reference's plan holds -/
def MPk (S : ms_S) (A : Ab) (s : Nat) (d k : Int32) : Prop := ms_I S 131 92 = gF A ∧ ms_I S 131 91 = Int32.ofNat (bst A s k d).1 ∧ RwM S A s (dayN8 A s k d) ∧ ∀ p, p < (dayN8 A s k d).length → ms_A S 183 p = begF (bst A s k d).2 p ∧ ms_A S 184 p = plF (bst A s k d).2 p
section SK3
variable {N : Nat} {A : Ab}
theorem initL {c : Nat} {K : Int32 → Int32 → Int32 → Int32 → mM Unit} {x1 x2 x3 : Int32} (hc : c ≤ 8) : ∀ m i n (S : ms_S), m + i = c → m < n → ms_I S 131 90 = Int32.ofNat c → (∀ p, p < i → ms_A S 189 p = 0 ∧ ms_A S 184 p = Int32.ofNat p ∧ ms_A S 183 p = 0) → ∃ S1, f237_L10 N K n x1 x2 x3 (Int32.ofNat i) S = K x1 x2 x3 (Int32.ofNat c) S1 ∧ (∀ p, p < c → ms_A S1 189 p = 0 ∧ ms_A S1 184 p = Int32.ofNat p ∧ ms_A S1 183 p = 0) ∧ ∀ b, b ≠ 183 → b ≠ 184 → b ≠ 189 → Eqc S S1 b := by
  intro m
  induction m with
  | zero =>
    intro i n S hi hn h90 hd
    obtain ⟨n, rfl⟩ : ∃ q, n = q + 1 := ⟨n - 1, by omega⟩
    have e : i = c := by omega
    subst e
    refine ⟨S, ?_, hd, fun _ _ _ _ => Eqc.rf⟩
    rw [f237_L10]
    simp only [mE, h90]
    rw [if_pos ((ofN_le (by omega) (by omega)).2 (Nat.le_refl _))]
  | succ m ih =>
    intro i n S hi hn h90 hd
    obtain ⟨n, rfl⟩ : ∃ q, n = q + 1 := ⟨n - 1, by omega⟩
    have i1 : inR (Int32.ofNat i) 8 := ofN_inR (by omega) (by omega)
    have i2 := ofN_cl (i := i) (by omega)
    obtain ⟨S1, e1, r1, o1⟩ := ih (i + 1) n (ms_setA (ms_setA (ms_setA S 189 i 0) 184 i (Int32.ofNat i)) 183 i 0) (by omega) (by omega) (by simp only [mGo]; exact h90) (fun p hp => by
      simp only [mG, true_and, show ¬ ((183 : Nat) = 184) by decide, show ¬ ((184 : Nat) = 183) by decide, show ¬ ((189 : Nat) = 184) by decide, show ¬ ((189 : Nat) = 183) by decide, show ¬ ((184 : Nat) = 189) by decide, show ¬ ((183 : Nat) = 189) by decide, false_and, if_false]
      by_cases e : p = i
      · subst e; rw [if_pos rfl, if_pos rfl, if_pos rfl]; exact ⟨rfl, rfl, rfl⟩
      · rw [if_neg e, if_neg e, if_neg e]; exact hd p (by omega))
    refine ⟨S1, ?_, r1, fun b h1 h2 h3 => (((Eqc_A h3).tr (Eqc_A h2)).tr (Eqc_A h1)).tr (o1 b h1 h2 h3)⟩
    rw [f237_L10]
    simp only [mE, h90]
    rw [if_neg (fun q => by have := (ofN_le (i := c) (j := i) (by omega) (by omega)).1 q; omega)]
    simp only [mE, i1, i2, vpb (Or.inl rfl), ofN_s]
    exact e1
theorem RwM_fr {S S1 : ms_S} {s : Nat} {L : List Nat} (h : RwM S A s L) (h90 : ms_I S1 131 90 = ms_I S 131 90) (hE : ∀ b, (180 ≤ b ∧ b ≤ 182) ∨ (187 ≤ b ∧ b ≤ 188) → ms_A S1 b = ms_A S b) : RwM S1 A s L := by
  unfold RwM at *
  rw [h90, hE 180 (by omega), hE 181 (by omega), hE 182 (by omega), hE 187 (by omega), hE 188 (by omega)]
  exact h
theorem q237 {s : Nat} {d k : Int32} {S : ms_S} (hN : 30000000 ≤ N) (h : mBase S A) (hw : WF0 A) (hv : WFv A) (hs : s < 4) : ∃ S1, f237 N (Int32.ofNat s) d k S = some ((), S1) ∧ mBase S1 A ∧ MPk S1 A s d k ∧ keepM S S1 := by
  have h8 : (dayN8 A s k d).length ≤ 8 := dayL_len _
  obtain ⟨S1, e1, b1, r1, g1, g2, k1⟩ := q235 (N := N) (S := S) (A := A) (s := s) (d := d) (k := k) (by omega) h hw hv hs
  have m235 : ∀ {β : Type} {f' : Unit → mM β}, mb (f235 N (Int32.ofNat s) d k) f' S = f' () S1 := by intro β f'; simp only [mb, e1]
  obtain ⟨S2, e2, d2, o2⟩ := initL (N := N) (c := (dayN8 A s k d).length) (x1 := Int32.ofNat s) (x2 := d) (x3 := k) (K := fun (x1 : Int32) (x2 : Int32) (x3 : Int32) (x4 : Int32) => (mlet (fun (x1 : Int32) (x2 : Int32) (x3 : Int32) (x4 : Int32) => (mret ())) fun J69 => mb (pI 131 91 0) fun _ => mb (gI 131 92) fun v8 => if v8 < 0 then J69 x1 x2 x3 x4 else (mb (gI 131 90) fun v10 => if v10 ≠ 0 then (mb (pI 131 91 1000000) fun _ => mb (sA 185 8 0 (-1)) fun _ => f237_L90 N (fun (x1 : Int32) (x2 : Int32) (x3 : Int32) (x4 : Int32) (x5 : Int32) => (mret ())) N x1 x2 x3 0 0) else J69 x1 x2 x3 x4))) h8 (dayN8 A s k d).length 0 N S1 (by omega) (by omega) r1.1 (fun p hp => absurd hp (by omega))
  have X0 : ∃ X, X = ms_setI S2 131 91 0 := ⟨_, rfl⟩
  obtain ⟨X, hX⟩ := X0
  have oX : ∀ b, b ≠ 131 → Eqc S2 X b := fun b h1 => by rw [hX]; exact Eqc_I h1
  have xI : ∀ j, j ≠ 91 → ms_I X 131 j = ms_I S1 131 j := fun j hj => by rw [hX]; simp only [mG, true_and, if_neg hj]; rw [(o2 131 (by decide) (by decide) (by decide)).1]
  have oS1X : offSk S1 X := ⟨xI, fun b h1 h2 h3 => (o2 b (by omega) (by omega) h3).tr (oX b h1)⟩
  have rX : RwM X A s (dayN8 A s k d) := RwM_fr r1 (xI 90 (by decide)) (fun b hb => (oS1X.2 b (by omega) (by omega) (by omega)).2.2.2.1)
  have x92 : ms_I X 131 92 = gF A := by rw [xI 92 (by decide)]; exact g1
  have x91 : ms_I X 131 91 = 0 := by rw [hX]; simp [mG]
  have bsO : ∀ {S' : ms_S}, mBase S1 A → offSk S1 S' → mBase S' A := fun hb o => mBase_fr hb (fun j hj => o.1 j (by unfold tellM at hj; omega)) (fun b h1 h2 => o.2 b (by omega) (by unfold scrM at h2; omega) (by unfold scrM at h2; omega))
  have kpO : ∀ {S' : ms_S}, offSk S1 S' → keepM S S' := fun o b hb => (k1 b hb).tr (o.2 b (by omega) (by omega) (by omega))
  have xD : ∀ p, p < (dayN8 A s k d).length → ms_A X 189 p = 0 ∧ ms_A X 184 p = Int32.ofNat p ∧ ms_A X 183 p = 0 := fun p hp => by
    rw [(oX 189 (by decide)).2.2.2.1, (oX 184 (by decide)).2.2.2.1, (oX 183 (by decide)).2.2.2.1]; exact d2 p hp
  unfold f237
  rw [m235]
  by_cases hg : gF A = -1
  · have eb : bst A s k d = (0, []) := if_pos hg
    refine ⟨X, ?_, bsO b1 oS1X, ⟨x92, by rw [eb]; exact x91, rX, fun p hp => by rw [eb]; exact ⟨(xD p hp).2.2, (xD p hp).2.1⟩⟩, kpO oS1X⟩
    refine e2.trans ?_
    simp only [mE, ← hX, x92]
    rw [if_pos (by rw [hg]; decide)]
  · have eb : bst A s k d = best (PPd A s k d) := if_neg hg
    obtain ⟨f0, t0, q1, _, _, hlt⟩ := gF_ne hw hg
    have hn1 : aN A 1 ≤ 20 := hw.1.2.1
    have hgn : ¬ gF A < 0 := by rw [q1]; exact ofN_nl (by omega)
    by_cases hz : (dayN8 A s k d).length = 0
    · have eb2 : best (PPd A s k d) = (0, []) := by
        unfold best
        rw [show pC (PPd A s k d) = 0 from hz]
        rfl
      refine ⟨X, ?_, bsO b1 oS1X, ⟨x92, by rw [eb, eb2]; exact x91, rX, fun p hp => absurd hp (by omega)⟩, kpO oS1X⟩
      refine e2.trans ?_
      simp only [mE, ← hX, x92, if_neg hgn, rX.1]
      rw [if_neg (fun q => q (by rw [hz]; rfl))]
    · have Y0 : ∃ Y, Y = ms_setA (ms_setI X 131 91 1000000) 185 0 (-1) := ⟨_, rfl⟩
      obtain ⟨Y, hY⟩ := Y0
      have oY : ∀ b, b ≠ 131 → b ≠ 185 → Eqc X Y b := fun b h1 h2 => by rw [hY]; exact (Eqc_I h1).tr (Eqc_A h2)
      have yI : ∀ j, j ≠ 91 → ms_I Y 131 j = ms_I X 131 j := fun j hj => by rw [hY, (Eqc_A (by decide)).1]; simp only [mG, true_and, if_neg hj]
      have oXY : offSk X Y := ⟨yI, fun b h1 h2 _ => oY b h1 (by omega)⟩
      have prY : PrM Y (PPd A s k d) := by
        have rY : RwM Y A s (dayN8 A s k d) := RwM_fr rX (yI 90 (by decide)) (fun b hb => (oXY.2 b (by omega) (by omega) (by omega)).2.2.2.1)
        refine ⟨rY.1, ?_, fun p hp => ?_⟩
        · rw [yI 94 (by decide), xI 94 (by decide), b1.2.1.2.1]; exact gp_eq hw
        · obtain ⟨_, c2, c3, c4, _⟩ := rY.2 p hp
          exact ⟨c2, c3, c4⟩
      obtain ⟨m, hm⟩ : ∃ m, (dayN8 A s k d).length = m + 1 := ⟨(dayN8 A s k d).length - 1, by omega⟩
      have hPB := PB_d hw (s := s) (k := k) (d := d)
      obtain ⟨t, S3, ht, e3, cf3, o3⟩ := (node_all (N := N) (P := PPd A s k d) (by omega) hPB m).1 (fun (x1 : Int32) (x2 : Int32) (x3 : Int32) (x4 : Int32) (x5 : Int32) => (mret ())) (Int32.ofNat s) d k [] 0 (1000000, []) Y (by show 0 + (m + 1) = _; rw [Nat.zero_add]; exact hm.symm) (by rw [nfr_nil]; exact hm) True.intro ⟨fun x hx => (by cases hx), Nat.zero_le _⟩ ⟨prY, True.intro, fun p hp => by
          rw [(oY 189 (by decide) (by decide)).2.2.2.1, (xD p hp).1]; rfl, ⟨by rw [hY]; simp [mG]; rfl, Nat.le_refl _, fun p hp => by
          rw [(oY 183 (by decide) (by decide)).2.2.2.1, (oY 184 (by decide) (by decide)).2.2.2.1]
          exact ⟨(xD p hp).2.2, (xD p hp).2.1⟩⟩⟩ (by rw [hY]; simp [mG])
      have hct := Ct_le (m + 1) (by omega)
      have eN : N = (N - t - 1 + 1) + t := by omega
      have o13 := (oS1X.tr oXY).tr o3
      have eb2 : node (PPd A s k d) (m + 1) [] 0 (1000000, []) = best (PPd A s k d) := by
        unfold best
        rw [show pC (PPd A s k d) = m + 1 from hm]
      rw [eb2] at cf3
      refine ⟨S3, ?_, bsO b1 o13, ⟨by rw [o13.1 92 (by decide)]; exact g1, by rw [eb]; exact cf3.2.2.2.1, RwM_fr r1 (o13.1 90 (by decide)) (fun b hb => (o13.2 b (by omega) (by omega) (by omega)).2.2.2.1), fun p hp => by rw [eb]; exact cf3.2.2.2.2.2 p hp⟩, kpO o13⟩
      refine e2.trans ?_
      simp only [mE, ← hX, x92, if_neg hgn, rX.1]
      have hne : Int32.ofNat (dayN8 A s k d).length ≠ 0 := fun q => hz ((ofN_eq (j := 0) (by omega) (by omega)).1 q)
      rw [if_pos hne]
      have z1 : inR (0 : Int32) 8 := ofN_inR (i := 0) (by omega) (by omega)
      simp only [mE, z1, show (0 : Int32).toNatClampNeg = 0 from rfl, ← hY]
      have e4 := e3 (N - t - 1 + 1)
      rw [← eN] at e4
      have e4 : f237_L90 N _ N (Int32.ofNat s) d k 0 0 Y = f237_L90 N _ (N - t - 1 + 1) (Int32.ofNat s) d k (0 + (-1)) 0 S3 := e4
      rw [e4, L90_s, if_pos (by decide)]
      rfl
theorem q238 {s p : Nat} {d k : Int32} {S : ms_S} (hw : WF0 A) (hk : MPk S A s d k) (hp : p < (dayN8 A s k d).length) : f238 N (Int32.ofNat p) S = some (endF A s k d p, S) := by
  have h8 : (dayN8 A s k d).length ≤ 8 := dayL_len _
  have hn1 : aN A 1 ≤ 20 := hw.1.2.1
  have i1 : inR (Int32.ofNat p) 8 := ofN_inR (by omega) (by omega)
  have i2 := ofN_cl (i := p) (by omega)
  obtain ⟨h92, _, rw, hA⟩ := hk
  unfold f238
  simp only [mE, h92]
  by_cases hg : gF A = -1
  · rw [if_neg (by rw [hg]; decide)]
    have : endF A s k d p = 0 := by
      unfold endF bst thA
      rw [if_pos hg, if_pos hg]
      rfl
    rw [this]
  · obtain ⟨f0, t0, q1, _, _, hlt⟩ := gF_ne hw hg
    rw [if_pos (show gF A ≥ 0 by rw [q1]; exact ofN_nn (by omega))]
    simp only [mE, i1, i2, (hA p hp).1, (rw.2 p hp).2.2.2.1]
    rfl
theorem lastL {s : Nat} {d k x1 x2 x3 x4 : Int32} {S : ms_S} {K : Int32 → Int32 → Int32 → Int32 → Int32 → Int32 → mM Int32} (hw : WF0 A) (hk : MPk S A s d k) : ∀ m i n, m + i = (dayN8 A s k d).length → m < n → f239_L39 N K n x1 x2 x3 x4 (lastF A s k d i) (Int32.ofNat i) S = K x1 x2 x3 x4 (lastF A s k d (dayN8 A s k d).length) (Int32.ofNat (dayN8 A s k d).length) S := by
  have h8 : (dayN8 A s k d).length ≤ 8 := dayL_len _
  intro m
  induction m with
  | zero =>
    intro i n hi hn
    obtain ⟨n, rfl⟩ : ∃ q, n = q + 1 := ⟨n - 1, by omega⟩
    have e : i = (dayN8 A s k d).length := by omega
    subst e
    rw [f239_L39]
    simp only [mE, hk.2.2.1.1]
    rw [if_pos ((ofN_le (by omega) (by omega)).2 (Nat.le_refl _))]
  | succ m ih =>
    intro i n hi hn
    obtain ⟨n, rfl⟩ : ∃ q, n = q + 1 := ⟨n - 1, by omega⟩
    have nx := ih (i + 1) n (by omega) (by omega)
    have m238 : ∀ {β : Type} {f' : Int32 → mM β}, mb (f238 N (Int32.ofNat i)) f' S = f' (endF A s k d i) S := by intro β f'; simp only [mb, q238 (N := N) hw hk (show i < (dayN8 A s k d).length by omega)]
    rw [show lastF A s k d (i + 1) = if lastF A s k d i < endF A s k d i then endF A s k d i else lastF A s k d i from rfl] at nx
    rw [f239_L39]
    simp only [mE, hk.2.2.1.1]
    rw [if_neg (fun q => by have := (ofN_le (i := (dayN8 A s k d).length) (j := i) (by omega) (by omega)).1 q; omega), m238]
    by_cases hle : endF A s k d i ≤ lastF A s k d i
    · rw [if_neg (Int32.not_lt.mpr hle)] at nx
      simp only [mE]
      rw [if_pos hle, ofN_s]
      exact nx
    · rw [if_pos (Int32.not_le.mp hle)] at nx
      simp only [mE]
      rw [if_neg hle, m238, ofN_s]
      exact nx
theorem M_plan {x d w k : Int32} {S : ms_S} (hN : 30000000 ≤ N) (h : mBase S A) (hw : WF0 A) (hv : WFv A) : MP (f239 N x d w k) S (ansPlan A x d w k) A := by
  have e176 : ∀ {z : Int32} {β : Type} {f : Int32 → mM β}, mb (f176 N z) f S = f (if 0 ≤ z ∧ z < 4 then 1 else 0) S := by intro z β f; simp only [mb, q176]
  have e211 : ∀ {z : Int32} {β : Type} {f : Int32 → mM β}, mb (f211 N z) f S = f (if 0 ≤ z ∧ z < 1000 then 1 else 0) S := by intro z β f; simp only [mb, q211]
  have no : ∀ v : Int32, v = -1 → f239 N x d w k S = some (-1, S) → MP (f239 N x d w k) S v A := fun v hv e => by rw [hv]; exact MP_same h e
  unfold ansPlan
  by_cases hx : 0 ≤ x ∧ x < 4
  · by_cases hd : 0 ≤ d ∧ d < 1000
    · rw [if_pos ⟨hx, hd⟩]
      by_cases hwr : 0 ≤ w ∧ w ≤ 2
      · obtain ⟨s, hs, rfl⟩ := i32_nat (n := 4) hx.1 (by omega) hx.2
        rw [ofN_cl (by omega)]
        obtain ⟨S1, e1, b1, p1, k1⟩ := q237 (N := N) (A := A) (S := S) (s := s) (k := k) (d := d) hN h hw hv hs
        have m237 : ∀ {β : Type} {f : Unit → mM β}, mb (f237 N (Int32.ofNat s) d k) f S = f () S1 := by intro β f; simp only [mb, e1]
        refine ⟨S1, ?_, b1, k1⟩
        unfold f239
        simp only [mE]
        rw [e176, if_pos hx, if_neg (by decide), e211, if_pos hd, if_neg (by decide), E195, if_pos hwr, if_pos (by decide), m237]
        have hL := lastL (N := N) (A := A) (S := S1) (s := s) (d := d) (k := k) (x1 := Int32.ofNat s) (x2 := d) (x3 := w) (x4 := k) (K := fun (x1 : Int32) (x2 : Int32) (x3 : Int32) (x4 : Int32) (x5 : Int32) (x6 : Int32) => (if x3 ≠ 0 then (if x3 ≠ 1 then mret x5 else (mb (gI 131 91) fun v14 => mret v14)) else (mb (gI 131 90) fun v16 => mret v16))) hw p1 (dayN8 A s k d).length 0 N (by omega) (by have := dayL_len (A := A) (s := s) (k := k) (d := d) (aN A 4); unfold dayN8; omega)
        refine Eq.trans hL ?_
        simp only [mE]
        by_cases w0 : w = 0
        · rw [if_neg (fun q => q w0), if_pos w0]
          simp only [mE, p1.2.2.1.1]
        · rw [if_pos w0, if_neg w0]
          by_cases w1 : w = 1
          · rw [if_neg (fun q => q w1), if_pos w1]
            simp only [mE, p1.2.1]
          · have w2 : w = 2 := by clear hL e1 p1 m237 e176 e211 no; grind
            rw [if_pos w1, if_neg w1, if_pos w2]
      · have : (if w = 0 then Int32.ofNat (dayN8 A x.toNatClampNeg k d).length else if w = 1 then Int32.ofNat (bst A x.toNatClampNeg k d).1 else if w = 2 then lastF A x.toNatClampNeg k d (dayN8 A x.toNatClampNeg k d).length else -1) = (-1 : Int32) := by
          rw [if_neg (fun q => hwr (by rw [q]; decide)), if_neg (fun q => hwr (by rw [q]; decide)), if_neg (fun q => hwr (by rw [q]; decide))]
        refine no _ this ?_
        unfold f239
        simp only [mE]
        rw [e176, if_pos hx, if_neg (by decide), e211, if_pos hd, if_neg (by decide), E195, if_neg hwr, if_neg (fun q => q rfl)]; rfl
    · rw [if_neg (fun q => hd q.2)]
      refine no _ rfl ?_
      unfold f239
      simp only [mE]
      rw [e176, if_pos hx, if_neg (by decide), e211, if_neg hd, if_pos rfl]; rfl
  · rw [if_neg (fun q => hx q.1)]
    refine no _ rfl ?_
    unfold f239
    simp only [mE]
    rw [e176, if_neg hx, if_pos rfl]; rfl
theorem M_goes {x d m w k : Int32} {S : ms_S} (hN : 30000000 ≤ N) (h : mBase S A) (hw : WF0 A) (hv : WFv A) : MP (f240 N x d m w k) S (ansGoes A x d m w k) A := by
  have e176 : ∀ {z : Int32} {β : Type} {f : Int32 → mM β}, mb (f176 N z) f S = f (if 0 ≤ z ∧ z < 4 then 1 else 0) S := by intro z β f; simp only [mb, q176]
  have e211 : ∀ {z : Int32} {β : Type} {f : Int32 → mM β}, mb (f211 N z) f S = f (if 0 ≤ z ∧ z < 1000 then 1 else 0) S := by intro z β f; simp only [mb, q211]
  unfold ansGoes
  by_cases hx : 0 ≤ x ∧ x < 4
  · by_cases hd : 0 ≤ d ∧ d < 1000
    · rw [if_pos ⟨hx, hd⟩]
      obtain ⟨s, hs, rfl⟩ := i32_nat (n := 4) hx.1 (by omega) hx.2
      rw [ofN_cl (by omega)]
      have h8 : (dayN8 A s k d).length ≤ 8 := dayL_len _
      obtain ⟨S1, e1, b1, p1, k1⟩ := q237 (N := N) (A := A) (S := S) (s := s) (k := k) (d := d) hN h hw hv hs
      have m237 : ∀ {β : Type} {f : Unit → mM β}, mb (f237 N (Int32.ofNat s) d k) f S = f () S1 := by intro β f; simp only [mb, e1]
      refine ⟨S1, ?_, b1, k1⟩
      unfold f240
      simp only [mE]
      rw [e176, if_pos hx, if_neg (by decide), e211, if_pos hd, if_pos (by decide), m237]
      simp only [mE, p1.2.2.1.1]
      rw [E195]
      by_cases hm : 0 ≤ m ∧ m ≤ Int32.ofNat (dayN8 A s k d).length - 1
      · rw [if_pos hm, if_pos hm, if_pos (by decide)]
        obtain ⟨p, hp, rfl⟩ := i32_nat (x := m) (n := (dayN8 A s k d).length) hm.1 (by omega) (by
          have h1 := hm.1
          have h2 := hm.2
          have := i32_of (dayN8 A s k d).length (by omega)
          generalize Int32.ofNat (dayN8 A s k d).length = z at *
          clear h hw hv e1 b1 p1 k1 hm hx hd
          grind)
        rw [ofN_cl (by omega)]
        have i1 : inR (Int32.ofNat p) 8 := ofN_inR (by omega) (by omega)
        have i2 := ofN_cl (i := p) (by omega)
        obtain ⟨a180, a188, a181, a182, a187⟩ := p1.2.2.1.2 p hp
        obtain ⟨a183, a184⟩ := p1.2.2.2 p hp
        unfold pickG
        by_cases w0 : w = 0
        · rw [if_pos w0, if_pos w0]
          simp only [mE, i1, i2, a180]
        · rw [if_neg w0, if_neg w0]
          by_cases w1 : w = 1
          · rw [if_pos w1, if_pos w1]
            simp only [mE, i1, i2, a181]
          · rw [if_neg w1, if_neg w1]
            by_cases w2 : w = 2
            · rw [if_pos w2, if_pos w2]
              simp only [mE, i1, i2, a183]
            · rw [if_neg w2, if_neg w2]
              by_cases w3 : w = 3
              · rw [if_pos w3, if_pos w3]
                have m238 : ∀ {β : Type} {f' : Int32 → mM β}, mb (f238 N (Int32.ofNat p)) f' S1 = f' (endF A s k d p) S1 := by intro β f'; simp only [mb, q238 (N := N) hw p1 hp]
                rw [m238]; rfl
              · rw [if_neg w3, if_neg w3]
                by_cases w4 : w = 4
                · rw [if_pos w4, if_pos w4]
                  simp only [mE, i1, i2, a184]
                · rw [if_neg w4, if_neg w4]; rfl
      · rw [if_neg hm, if_neg hm, if_neg (fun q => q rfl)]; rfl
    · rw [if_neg (fun q => hd q.2)]
      refine MP_same h ?_
      unfold f240
      simp only [mE]
      rw [e176, if_pos hx, if_neg (by decide), e211, if_neg hd, if_neg (fun q => q rfl)]; rfl
  · rw [if_neg (fun q => hx q.1)]
    refine MP_same h ?_
    unfold f240
    simp only [mE]
    rw [e176, if_neg hx, if_pos rfl]; rfl
end SK3
