/-! feed, end, sight of the reference -/
/-- twenty bytes, from place i on -/
def wrM (S : ms_S) (t : Nat) (a b c d e : Int32) : Nat → Nat → ms_S
  | 0, _ => S
  | m + 1, i => wrM (ms_setA S 132 (t + i) (vp_nar .byte (bt5 a b c d e i))) t a b c d e m (i + 1)
theorem wrM_E {t : Nat} {a b c d e : Int32} {q : Nat} (hq : q ≠ 132) : ∀ m i (S : ms_S), Eqc S (wrM S t a b c d e m i) q := by
  intro m
  induction m with
  | zero => intro i S; exact Eqc.rf
  | succ m ih => intro i S; exact (Eqc_A hq).tr (ih (i + 1) _)
theorem wrM_A {t : Nat} {a b c d e : Int32} : ∀ m i (S : ms_S) j, ms_A (wrM S t a b c d e m i) 132 j = if t + i ≤ j ∧ j < t + i + m then vp_nar .byte (bt5 a b c d e (j - t)) else ms_A S 132 j := by
  intro m
  induction m with
  | zero => intro i S j; rw [if_neg (by omega)]; rfl
  | succ m ih =>
    intro i S j
    rw [wrM, ih]
    by_cases h : j = t + i
    · subst h
      rw [if_neg (by omega), if_pos (by omega), Nat.add_sub_cancel_left]
      simp [mG]
    · by_cases h2 : t + (i + 1) ≤ j ∧ j < t + (i + 1) + m
      · rw [if_pos h2, if_pos (by omega)]
      · rw [if_neg h2, if_neg (by omega)]
        simp [mG, h]
theorem shK : ∀ i : Fin 20, ((24 : Int32) - 8 * (Int32.ofNat i.val &&& 3)) &&& 31 = Int32.ofNat (24 - 8 * (i.val % 4)) &&& 31 := by decide
theorem ltK : ∀ i : Fin 20, (Int32.ofNat i.val ≥ 4 ↔ ¬ i.val < 4) ∧ (Int32.ofNat i.val ≥ 8 ↔ ¬ i.val < 8) ∧ (Int32.ofNat i.val ≥ 12 ↔ ¬ i.val < 12) ∧ (Int32.ofNat i.val ≥ 16 ↔ ¬ i.val < 16) := by decide
section TAM
variable {N : Nat} {A : Ab}
theorem feedL_M {t : Nat} {a b c d e : Int32} {K : Int32 → Int32 → Int32 → Int32 → Int32 → Int32 → mM Int32} (ht : t + 20 ≤ 1200) : ∀ m i n (S : ms_S), m + i = 20 → m < n → ms_I S 131 2 = Int32.ofNat t → f253_L18 N K n a b c d e (Int32.ofNat i) S = K a b c d e 20 (wrM S t a b c d e m i) := by
  intro m
  induction m with
  | zero =>
    intro i n S hi hmn hc
    obtain ⟨n, rfl⟩ : ∃ q, n = q + 1 := ⟨n - 1, by omega⟩
    have e : i = 20 := by omega
    subst e
    rw [f253_L18, if_pos (by decide)]
    rfl
  | succ m ih =>
    intro i n S hi hmn hc
    obtain ⟨n, rfl⟩ : ∃ q, n = q + 1 := ⟨n - 1, by omega⟩
    have hi20 : i < 20 := by omega
    have hge : ¬ Int32.ofNat i ≥ 20 := fun q => by have := (ofN_le (i := 20) (j := i) (by omega) (by omega)).1 q; omega
    have h1 : inR (Int32.ofNat (t + i)) 1220 := ofN_inR (by omega) (by omega)
    have h2 := ofN_cl (i := t + i) (by omega)
    have sh := shK ⟨i, hi20⟩
    obtain ⟨l4, l8, l12, l16⟩ := ltK ⟨i, hi20⟩
    have key : ∀ w : Int32, w = (if i < 4 then a else if i < 8 then b else if i < 12 then c else if i < 16 then d else e) → (mb (gI 131 2) fun v3 => mb (sY 132 1220 (v3 + Int32.ofNat i) (Int8.toInt32 (Int32.toInt8 (w >>> ((24 - (8 * (Int32.ofNat i &&& 3))) &&& 31))))) fun _ => f253_L18 N K n a b c d e (Int32.ofNat i + 1)) S = K a b c d e 20 (wrM S t a b c d e (m + 1) i) := by
      intro w hw
      simp only [mE, hc, ofN_add, h1, h2, ofN_s]
      rw [ih (i + 1) n _ (by omega) (by omega) (by simpa [mGo] using hc), byte_nar, wrM]
      have : (w >>> ((24 - (8 * (Int32.ofNat i &&& 3))) &&& 31)) &&& 255 = bt5 a b c d e i := by
        unfold bt5 bt
        rw [sh, hw]
      rw [this]
    rw [f253_L18, if_neg hge]
    simp only [mlet]
    by_cases k4 : i < 4
    · rw [if_neg (fun q => l4.1 q k4)]
      exact key a (by rw [if_pos k4])
    · rw [if_pos (l4.2 k4)]
      by_cases k8 : i < 8
      · rw [if_neg (fun q => l8.1 q k8)]
        exact key b (by rw [if_neg k4, if_pos k8])
      · rw [if_pos (l8.2 k8)]
        by_cases k12 : i < 12
        · rw [if_neg (fun q => l12.1 q k12)]
          exact key c (by rw [if_neg k4, if_neg k8, if_pos k12])
        · rw [if_pos (l12.2 k12)]
          by_cases k16 : i < 16
          · rw [if_neg (fun q => l16.1 q k16)]
            exact key d (by rw [if_neg k4, if_neg k8, if_neg k12, if_pos k16])
          · rw [if_pos (l16.2 k16)]
            exact key e (by rw [if_neg k4, if_neg k8, if_neg k12, if_neg k16])
variable {S : ms_S}
theorem M_feed {a b c d e : Int32} (hN : 30 ≤ N) (h : mBase S A) (hw : WF0 A) : MP (f253 N a b c d e) S (ansFeed A) (nxtFeed A a b c d e) := by
  have hb := h
  obtain ⟨⟨t1, t2⟩, _⟩ := h
  have hn0 : aN A 0 ≤ 1200 := hw.1.1
  have hq : (Int32.ofNat (aN A 0) + 20 ≤ 1200) ↔ (aN A 0 + 20 ≤ 1200) := by have := i32_of (aN A 0) (by omega); clear hw hb t2; grind
  unfold ansFeed nxtFeed
  by_cases hk : aN A 0 + 20 ≤ 1200
  · rw [if_pos hk, if_pos hk]
    have eI : ms_I (wrM S (aN A 0) a b c d e 20 0) 131 = ms_I S 131 := (wrM_E (by decide) 20 0 S).1
    refine ⟨ms_setI (wrM S (aN A 0) a b c d e 20 0) 131 2 (Int32.ofNat (aN A 0 + 20)), ?_, ?_, fun q hq => (wrM_E (by omega) 20 0 S).tr (Eqc_I (by omega))⟩
    · unfold f253
      have := feedL_M (N := N) (a := a) (b := b) (c := c) (d := d) (e := e) (K := fun _ _ _ _ _ _ => mb (gI 131 2) fun v6 => mb (pI 131 2 (v6 + 20)) fun _ => mb (gI 131 2) fun v9 => mret v9) hk 20 0 N S (by omega) (by omega) t1
      simp only [mb, gI, t1, mif, if_pos (hq.2 hk)]
      refine Eq.trans this ?_
      have e20 : Int32.ofNat (aN A 0) + 20 = Int32.ofNat (aN A 0 + 20) := ofN_add (j := 20)
      simp only [mE, eI, t1, mG, and_self, if_true, e20]
    · refine mB_gen (F := fun k => k = 2) (P := fun b => b = 132) hb fedX_q (fun k hk => by simp [mG, hk, eI]) (fun q h1 h2 => (wrM_E h2 20 0 S).tr (Eqc_I (by omega))) (Or.inr ⟨by simp only [mG, and_self, if_true]; rfl, fun i hi => ?_⟩) (Or.inl ⟨by omega, by omega, by omega, by omega, by omega, by omega⟩) ⟨by omega, by omega, fun q h1 h2 => by omega, by omega, fun c h1 h2 => by omega⟩ (by rw [fedX_q.2.1 40 (by omega)]) (Or.inl ⟨fun q h1 h2 => by omega, by omega, by omega, fun c h1 h2 => by omega⟩) (Or.inl ⟨fun q h1 h2 => by omega, by omega, by omega, fun c h1 h2 => by omega⟩) (Or.inl ⟨fun q h1 h2 => by omega, by omega, by omega, fun c h1 h2 => by omega⟩) ⟨fun q h1 h2 => by omega, fun k hk => by omega, fun c h1 h2 => by omega, by omega⟩
      have hi : i < aN A 0 + 20 := hi
      simp only [mGo]
      rw [wrM_A]
      by_cases hi2 : aN A 0 ≤ i
      · have eR : aX (fedX A a b c d e) 0 i = bt5 a b c d e (i - aN A 0) := if_pos ⟨rfl, hi2, hi⟩
        rw [if_pos (by omega), eR]
      · have eR : aX (fedX A a b c d e) 0 i = aX A 0 i := if_neg (fun q => hi2 q.2.1)
        rw [if_neg (by omega), eR]
        exact t2 i (by omega)
  · rw [if_neg hk, if_neg hk]
    refine MP_same hb ?_
    unfold f253
    simp only [mb, gI, t1, mif, if_neg (fun q => hk (hq.1 q)), mret]
theorem M_end {n : Int32} (h : mBase S A) (hw : WF0 A) : MP (f254 N n) S (ansEnd A n) (nxtEnd A n) := by
  have hb := h
  obtain ⟨⟨t1, t2⟩, _⟩ := h
  have hn0 : aN A 0 ≤ 1200 := hw.1.1
  unfold ansEnd nxtEnd
  by_cases hk : 0 ≤ n ∧ n ≤ Int32.ofNat (aN A 0)
  · rw [if_pos hk, if_pos hk]
    have hn : ∃ m, m ≤ aN A 0 ∧ n = Int32.ofNat m := by
      obtain ⟨m, hm, e⟩ := i32_nat (x := n) (n := aN A 0 + 1) hk.1 (by omega) (by have := hk.2; have := i32_of (aN A 0) (by omega); have := i32_of (aN A 0 + 1) (by omega); clear hw hb t2; grind)
      exact ⟨m, by omega, e⟩
    obtain ⟨m, hm, rfl⟩ := hn
    have h2 := ofN_cl (i := m) (by omega)
    refine ⟨ms_setI S 131 2 (Int32.ofNat m), ?_, ?_, fun b h1 => Eqc_I (by omega)⟩
    · unfold f254
      simp only [mlet, mif, if_neg (ofN_nl (i := m) (by omega)), mb, gI, t1, if_pos hk.2, pI, mret]
    · rw [h2]
      refine mB_gen (F := fun k => k = 2) (P := fun b => b = 131) hb (setN_q.mono (fun q hq => hq) (fun k hk => hk)) (fun k hk => by simp [mG, hk]) (fun q h1 h2 => Eqc_I h2) (Or.inr ⟨by simp [mG, aG], fun i hi => ?_⟩) (Or.inl ⟨id, by omega, by omega, by omega, by omega, by omega⟩) ⟨by omega, by omega, fun q h1 h2 => id, by omega, fun c h1 h2 => by omega⟩ (by simp [aG]) (Or.inl ⟨fun q h1 h2 => id, by omega, by omega, fun c h1 h2 => by omega⟩) (Or.inl ⟨fun q h1 h2 => id, by omega, by omega, fun c h1 h2 => by omega⟩) (Or.inl ⟨fun q h1 h2 => id, by omega, by omega, fun c h1 h2 => by omega⟩) ⟨fun q h1 h2 => id, fun k hk => by omega, fun c h1 h2 => by omega, by omega⟩
      have hi : i < m := by simpa [aG] using hi
      simp only [mGo, aG]
      exact t2 i (by omega)
  · rw [if_neg hk, if_neg hk]
    refine MP_same hb ?_
    unfold f254
    by_cases h0 : n < 0
    · simp only [mlet, mif, if_pos h0, mret]
    · have h1 : ¬ n ≤ Int32.ofNat (aN A 0) := fun q => hk ⟨Int32.not_lt.mp h0, q⟩
      simp only [mlet, mif, if_neg h0, mb, gI, t1, if_neg h1, mret]
theorem sameL_M {d m o k : Int32} {K : Int32 → Int32 → Int32 → Int32 → Int32 → Int32 → mM Int32} (hn : aN A 5 ≤ 60) (hd : mSig S A) : ∀ l i n, l + i = aN A 5 → l < n → f241_L6 N K n d m o k (Int32.ofNat (cntF (aX A 30) d i)) (Int32.ofNat i) S = K d m o k (Int32.ofNat (cntF (aX A 30) d (aN A 5))) (Int32.ofNat (aN A 5)) S := by
  intro l
  induction l with
  | zero =>
    intro i n hi hmn
    obtain ⟨n, rfl⟩ : ∃ q, n = q + 1 := ⟨n - 1, by omega⟩
    have hge : Int32.ofNat i ≥ Int32.ofNat (aN A 5) := (ofN_le (by omega) (by omega)).2 (by omega)
    rw [f241_L6]
    simp only [mb, gI, hd.1, mif, if_pos hge]
    rw [show i = aN A 5 by omega]
  | succ l ih =>
    intro i n hi hmn
    obtain ⟨n, rfl⟩ : ∃ q, n = q + 1 := ⟨n - 1, by omega⟩
    have hge : ¬ Int32.ofNat i ≥ Int32.ofNat (aN A 5) := fun q => by have := (ofN_le (i := aN A 5) (j := i) (by omega) (by omega)).1 q; omega
    have h1 : mv_in (Int32.ofNat i) 60 := (ofN_in (by omega)).2 (by omega)
    have h2 := ofN_cl (i := i) (by omega)
    have := ih (i + 1) n (by omega) (by omega)
    rw [f241_L6]
    simp only [mb, gI, hd.1, mif, if_neg hge, mlet, lA, if_pos h1, h2, (hd.2 i (by omega)).1]
    by_cases hx : aX A 30 i = d
    · rw [if_neg (by simpa using hx), ofN_s, ofN_s]
      simpa [cntF, hx] using this
    · rw [if_pos hx, ofN_s]
      simpa [cntF, hx] using this
theorem ne60 {n : Nat} (hn : n < 60) : Int32.ofNat n ≠ 60 := by
  rw [show (60 : Int32) = Int32.ofNat 60 from rfl]
  intro q
  have := (ofN_eq (i := n) (j := 60) (by omega) (by omega)).1 q
  omega
theorem M_sight {d m o k : Int32} (hN : 201 ≤ N) (ho : o = 0 ∨ o = 1) (h : mBase S A) (hw : WF0 A) (hg : WFg A) : MP (f241 N d m o k) S (ansAdd A 5 (okSig A d m k)) (nxtAdd A 5 30 (okSig A d m k) d k o m) := by
  have n1 := h.2.1.1
  have hd : mSig S A := h.2.2.2.2.2.1
  have hn5 : aN A 5 ≤ 60 := hw.1.2.2.2.2.2
  have hcl := hg d
  have h8 : (Int32.ofNat (cntF (aX A 30) d (aN A 5)) = 8) ↔ cntF (aX A 30) d (aN A 5) = 8 := ofN_eq (j := 8) (by omega) (by omega)
  have start := sameL_M (N := N) (S := S) (A := A) (d := d) (m := m) (o := o) (k := k) (K := fun (x1 : Int32) (x2 : Int32) (x3 : Int32) (x4 : Int32) (x5 : Int32) (x6 : Int32) => (mlet (fun (x1 : Int32) (x2 : Int32) (x3 : Int32) (x4 : Int32) (x5 : Int32) (x6 : Int32) => (mret (-1))) fun J86 => mb (f211 N x1) fun v5 => if v5 = 0 then J86 x1 x2 x3 x4 x5 x6 else (mb (f195 N x2 0 1439) fun v7 => if v7 = 0 then J86 x1 x2 x3 x4 x5 x6 else (mb (f195 N x4 (-1) 5) fun v9 => if v9 = 0 then J86 x1 x2 x3 x4 x5 x6 else (mb (gI 131 105) fun v11 => if v11 = 60 then J86 x1 x2 x3 x4 x5 x6 else (if x5 ≠ 8 then (mb (gI 131 105) fun v13 => mb (sA 190 60 v13 x1) fun _ => mb (gI 131 105) fun v16 => mb (sA 191 60 v16 x2) fun _ => mb (gI 131 105) fun v19 => mb (sB 198 60 v19 x3) fun _ => mb (gI 131 105) fun v22 => mb (sA 192 60 v22 x4) fun _ => mb (gI 131 105) fun v25 => mb (gI 131 72) fun v27 => mb (sA 193 60 v25 v27) fun _ => mb (gI 131 105) fun v30 => mb (sA 194 60 v30 (-1)) fun _ => mb (gI 131 105) fun v33 => mb (pI 131 105 (v33 + 1)) fun _ => mb (gI 131 105) fun v36 => mret (v36 - 1)) else J86 x1 x2 x3 x4 x5 x6)))))) hn5 hd (aN A 5) 0 N (by omega) (by omega)
  have e1 : ∀ {β : Type} {f : Int32 → mM β}, mb (f211 N d) f S = f (if 0 ≤ d ∧ d < 1000 then 1 else 0) S := by intro β f; simp only [mb, q211]
  have e2 : ∀ {β : Type} {f : Int32 → mM β} {x lo hi : Int32}, mb (f195 N x lo hi) f S = f (if lo ≤ x ∧ x ≤ hi then 1 else 0) S := by intro β f x lo hi; simp only [mb, q195]
  unfold ansAdd nxtAdd
  by_cases hk : okSig A d m k = true ∧ aN A 5 < dn (if (5 : Nat) = 4 then 40 else 47)
  · rw [if_pos hk, if_pos hk]
    have hk2 := of_decide_eq_true hk.1
    have hlt : aN A 5 < 60 := hk.2
    have h1 : inR (Int32.ofNat (aN A 5)) 60 := ofN_inR hlt (by omega)
    have h2 := ofN_cl (i := aN A 5) (by omega)
    have h4 : Int32.ofNat (aN A 5 + 1) - 1 = Int32.ofNat (aN A 5) := by rw [← ofN_s]; clear h hd start e1 e2 hw hg; grind
    have n8 : Int32.ofNat (cntF (aX A 30) d (aN A 5)) ≠ 8 := fun q => by have := h8.1 q; omega
    refine ⟨mgW S (aN A 5) d m o k (aX A 40 0), ?_, ?_, fun b hb => mgW_E (by omega) (by omega)⟩
    · refine Eq.trans start ?_
      simp only [mE, e1, e2, if_pos hk2.1, if_pos hk2.2.1, if_pos hk2.2.2.1, i10, if_false, hd.1, if_neg (ne60 hlt), if_pos n8, h1, h2, mGo, n1, vpb ho, mG, and_self, if_true, ofN_s]
      rw [h4]; rfl
    · refine mB_gen (F := fun k => k = 105) (P := fun b => 190 ≤ b ∧ b ≤ 198) h addR_q (fun k hk => by simp [mgW, mG, mGo, hk]) (fun b h1 h2 => mgW_E h2 (by omega)) (Or.inl ⟨by omega, by omega, by omega, by omega⟩) (Or.inl ⟨by omega, by omega, by omega, by omega, by omega, by omega⟩) ⟨by omega, by omega, fun q h1 h2 => by omega, by omega, fun c h1 h2 => by omega⟩ (by rw [addR_q.2.1 40 (by omega)]) (Or.inl ⟨fun q h1 h2 => by omega, by omega, by omega, fun c h1 h2 => by omega⟩) (Or.inl ⟨fun q h1 h2 => by omega, by omega, by omega, fun c h1 h2 => by omega⟩) (Or.inr (mSig_add hd)) ⟨fun q h1 h2 => by omega, fun k hk => by omega, fun c h1 h2 => by omega, by omega⟩
  · rw [if_neg hk, if_neg hk]
    refine MP_same h ?_
    refine Eq.trans start ?_
    by_cases h1 : 0 ≤ d ∧ d < 1000
    · by_cases h2 : 0 ≤ m ∧ m ≤ 1439
      · by_cases h3 : -1 ≤ k ∧ k ≤ 5
        · by_cases h5 : aN A 5 < 60
          · have h4 : Int32.ofNat (cntF (aX A 30) d (aN A 5)) = 8 := h8.2 (by
              have : ¬ cntF (aX A 30) d (aN A 5) < 8 := fun q => hk ⟨decide_eq_true ⟨h1, h2, h3, q⟩, h5⟩
              omega)
            simp only [mE, e1, e2, if_pos h1, if_pos h2, if_pos h3, i10, if_false, hd.1, if_neg (ne60 h5), h4, ne_eq, not_true_eq_false]
          · have e60 : aN A 5 = 60 := by omega
            have e : Int32.ofNat (aN A 5) = 60 := by rw [e60]; rfl
            simp only [mE, e1, e2, if_pos h1, if_pos h2, if_pos h3, i10, if_false, hd.1, e, if_true]
        · simp only [mE, e1, e2, if_pos h1, if_pos h2, if_neg h3, i10, if_false, if_true]
      · simp only [mE, e1, e2, if_pos h1, if_neg h2, i10, if_false, if_true]
    · simp only [mE, e1, if_neg h1, if_true]
end TAM
