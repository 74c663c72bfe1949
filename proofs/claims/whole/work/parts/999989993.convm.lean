/-! convention: what comes of it; the reference -/
def lnA (A : Ab) : List (List Int32) := (List.range' 0 (aN A 2)).map (aM A)
def nCv (A : Ab) (s : Nat) (q : Cw) : Ab := (fun k => if k = 0 then 0 else if k = 10 + s then (wK q).length else if k = 20 + s then (wM q).length else aN A k,
  fun r i => if r = 40 ∧ i = 3 then 0 else if r = 40 ∧ i = 4 then -1 else if r = 50 + s then (if i = 0 then Int32.ofNat (wN q) else wL q (i - 1)) else if r = 60 + s then ((wM q).getD i (0, [])).1 else aX A r i,
  aM A, fun t l => if t = s then (if l < 6 then ((wK q).getD l ([], [])).2 else if l < 14 then ((wM q).getD (l - 6) (0, [])).2 else wD q) else aE A t l)
def ansConv (A : Ab) (x : Int32) : Int32 := if 0 ≤ x ∧ x < 4 then (if gd (wSg (cvQ A)) = true then Int32.ofNat (wN (cvQ A)) else -1) else -2
def nxtConv (A : Ab) (x : Int32) : Ab := if 0 ≤ x ∧ x < 4 then (match wSg (cvQ A) with
  | .inl e => nBad A e
  | .inr _ => nCv A x.toNatClampNeg (cvQ A)) else A
section NCV
variable {A : Ab} {s : Nat} {q : Cw}
theorem nC_N {k : Nat} (h0 : k ≠ 0) (h1 : k ≠ 10 + s) (h2 : k ≠ 20 + s) : aN (nCv A s q) k = aN A k := by
  show (if k = 0 then 0 else if k = 10 + s then _ else if k = 20 + s then _ else _) = _
  rw [if_neg h0, if_neg h1, if_neg h2]
theorem nC_X {r : Nat} (h0 : r ≠ 40) (h1 : r ≠ 50 + s) (h2 : r ≠ 60 + s) : aX (nCv A s q) r = aX A r := by
  funext i
  show (if r = 40 ∧ i = 3 then _ else if r = 40 ∧ i = 4 then _ else if r = 50 + s then _ else if r = 60 + s then _ else _) = _
  rw [if_neg (fun z => h0 z.1), if_neg (fun z => h0 z.1), if_neg h1, if_neg h2]
theorem nC_40 {i : Nat} (h3 : i ≠ 3) (h4 : i ≠ 4) (hs : s < 4) : aX (nCv A s q) 40 i = aX A 40 i := by
  show (if (40 : Nat) = 40 ∧ i = 3 then _ else if (40 : Nat) = 40 ∧ i = 4 then _ else if 40 = 50 + s then _ else if 40 = 60 + s then _ else _) = _
  rw [if_neg (fun z => h3 z.2), if_neg (fun z => h4 z.2), if_neg (by omega), if_neg (by omega)]
theorem nC_50 {i : Nat} (hs : s < 4) : aX (nCv A s q) (50 + s) i = if i = 0 then Int32.ofNat (wN q) else wL q (i - 1) := by
  show (if 50 + s = 40 ∧ i = 3 then _ else if 50 + s = 40 ∧ i = 4 then _ else if 50 + s = 50 + s then _ else _) = _
  rw [if_neg (by omega), if_neg (by omega), if_pos rfl]
theorem nC_60 {i : Nat} (hs : s < 4) : aX (nCv A s q) (60 + s) i = ((wM q).getD i (0, [])).1 := by
  show (if 60 + s = 40 ∧ i = 3 then _ else if 60 + s = 40 ∧ i = 4 then _ else if 60 + s = 50 + s then _ else if 60 + s = 60 + s then _ else _) = _
  rw [if_neg (by omega), if_neg (by omega), if_neg (by omega), if_pos rfl]
theorem nC_10 (hs : s < 4) : aN (nCv A s q) (10 + s) = (wK q).length := by
  show (if 10 + s = 0 then 0 else if 10 + s = 10 + s then _ else _) = _
  rw [if_neg (by omega), if_pos rfl]
theorem nC_20 (hs : s < 4) : aN (nCv A s q) (20 + s) = (wM q).length := by
  show (if 20 + s = 0 then 0 else if 20 + s = 10 + s then _ else if 20 + s = 20 + s then _ else _) = _
  rw [if_neg (by omega), if_neg (by omega), if_pos rfl]
theorem nC_E {t : Nat} (h : t ≠ s) : aE (nCv A s q) t = aE A t := by
  funext l
  show (if t = s then _ else _) = _
  rw [if_neg h]
theorem nC_Ek {i : Nat} (h : i < 6) : aE (nCv A s q) s i = ((wK q).getD i ([], [])).2 := by
  show (if s = s then (if i < 6 then _ else _) else _) = _
  rw [if_pos rfl, if_pos h]
theorem nC_Em {i : Nat} (h : i < 8) : aE (nCv A s q) s (6 + i) = ((wM q).getD i (0, [])).2 := by
  show (if s = s then (if 6 + i < 6 then _ else if 6 + i < 14 then ((wM q).getD (6 + i - 6) (0, [])).2 else _) else _) = _
  rw [if_pos rfl, if_neg (by omega), if_pos (by omega), Nat.add_sub_cancel_left]
theorem nC_Ed : aE (nCv A s q) s 14 = wD q := by
  show (if s = s then (if 14 < 6 then _ else if 14 < 14 then _ else _) else _) = _
  rw [if_pos rfl, if_neg (by decide), if_neg (by decide)]
end NCV
/-- another shelf -/
theorem mCvAt_off {S S1 : ms_S} {A : Ab} {t : Nat} (h : mCvAt S A t) (h10 : aN A (10 + t) ≤ 6) (h20 : aN A (20 + t) ≤ 8) (e1 : ∀ b, ((143 ≤ b ∧ b ≤ 145) ∨ b = 156) → ms_A S1 b t = ms_A S b t) (e2 : ∀ k, k < 4 → ms_A S1 147 (4 * t + k) = ms_A S 147 (4 * t + k)) (e3 : ∀ i, i < 8 → ms_A S1 146 (8 * t + i) = ms_A S 146 (8 * t + i)) (e4 : ∀ b i, (b = 148 ∨ b = 149) → i < 15 → ms_A S1 b (15 * t + i) = ms_A S b (15 * t + i)) (e5 : ∀ b i, (b = 150 ∨ b = 151) → i < 1200 → ms_A S1 b (1200 * t + i) = ms_A S b (1200 * t + i)) : mCvAt S1 A t := by
  have sg : ∀ line l, line < 15 → mSeg S t line l → mSeg S1 t line l := fun line l hl ⟨n, a1, a2, a3, a4⟩ => by
    refine ⟨n, by rw [e4 148 line (Or.inl rfl) hl]; exact a1, by rw [e4 149 line (Or.inr rfl) hl]; exact a2, a3, fun j hj => ?_⟩
    rw [Nat.add_assoc, e5 150 (n + j) (Or.inl rfl) (by omega), e5 151 (n + j) (Or.inr rfl) (by omega), ← Nat.add_assoc]
    exact a4 j hj
  obtain ⟨a1, a2, a3, a4, a5, a6, a7, a8⟩ := h
  refine ⟨by rw [e1 143 (by omega)]; exact a1, fun k hk => by rw [e2 k hk]; exact a2 k hk, by rw [e1 144 (by omega)]; exact a3, by rw [e1 145 (by omega)]; exact a4, fun i hi => by rw [e3 i (by omega)]; exact a5 i hi, fun i hi => sg _ _ (by omega) (a6 i hi), fun i hi => sg _ _ (by omega) (a7 i hi), ?_⟩
  rw [e1 156 (by omega)]
  rcases a8 with z | z
  · exact Or.inl z
  · exact Or.inr ⟨z.1, z.2.1, sg _ _ (by omega) z.2.2⟩
section CVK
variable {N : Nat} {X : Nat → Int32} {L : Nat} {b : Nat} {ln : List (List Int32)}
theorem convL {K : Int32 → mM Int32} {x : Int32} (hN : 1300 ≤ N) (hb : TxB X L) (hb2 : b < 2) (hln : ln.length ≤ 8) : ∀ f n (w : Cw) (C : Nat) (S : ms_S), (gd (wSg w) = true → tkN X L ≤ f + idx (wSg w)) → f < n → CwG X L w → NB S b ln → MS S X L (wSg w) → (gd (wSg w) = true → MW S C w ∧ C ≤ idx (wSg w)) → ∃ S1, f177_L33 N K n x S = K x S1 ∧ MS S1 X L (wSg (cvR X L ln f w)) ∧ (gd (wSg (cvR X L ln f w)) = true → ∃ C1, MW S1 C1 (cvR X L ln f w) ∧ C1 ≤ 1200) ∧ offW S S1 := by
  have hn := tkN_le hb
  intro f
  induction f with
  | zero =>
    intro n w C S hf hfn hg hnb hm hw
    obtain ⟨n, rfl⟩ : ∃ q, n = q + 1 := ⟨n - 1, by omega⟩
    cases hgd : gd (wSg w) with
    | true =>
      have := hf hgd
      have := (hg.2.2.2 hgd).1.1
      omega
    | false =>
      refine ⟨S, ?_, hm, (fun z => by have z : gd (wSg w) = true := z; rw [hgd] at z; cases z), offW.rf⟩
      rw [f177_L33, E155 hm, hgd, if_neg (show ¬ (false = true) by decide), if_pos rfl]
  | succ f ih =>
    intro n w C S hf hfn hg hnb hm hw
    obtain ⟨n, rfl⟩ : ∃ q, n = q + 1 := ⟨n - 1, by omega⟩
    cases hgd : gd (wSg w) with
    | false =>
      have h0 : sTy X L (wSg w) = 0 := by
        cases hq : wSg w with
        | inl e => rfl
        | inr j => rw [hq] at hgd; cases hgd
      have ec : cvR X L ln (f + 1) w = w := by
        show (if sTy X L (wSg w) = 0 then w else _) = w
        rw [if_pos h0]
      rw [ec]
      refine ⟨S, ?_, hm, (fun z => by rw [hgd] at z; cases z), offW.rf⟩
      rw [f177_L33, E155 hm, hgd, if_neg (show ¬ (false = true) by decide), if_pos rfl]
    | true =>
      obtain ⟨j, hj⟩ := gdI hgd
      obtain ⟨hw1, hw2⟩ := hw hgd
      obtain ⟨⟨b1, b2, b3⟩, _⟩ := hg.2.2.2 hgd
      have hf := hf hgd
      have hmj : MS S X L (.inr j) := by rw [← hj]; exact hm
      have hjx : idx (wSg w) = j := by rw [hj]; rfl
      have k8 : ms_I S 131 8 = clsT (tTy (tkJ X L j)) := hmj.2.2.1.2.2.1
      have head : f177_L33 N K (n + 1) x S = (if clsT (tTy (tkJ X L j)) = 0 then K x else (mb (f179 N) fun _ => f177_L33 N K n x)) S := by
        rw [f177_L33, E155 hm, hgd, if_pos (show true = true from rfl), if_neg (show ¬ ((1 : Int32) = 0) by decide)]
        simp only [mE, k8]
      have eT : sTy X L (wSg w) = tTy (tkJ X L j) := by rw [hj]; rfl
      by_cases h0 : tTy (tkJ X L j) = 0
      · have ec : cvR X L ln (f + 1) w = w := by
          show (if sTy X L (wSg w) = 0 then w else _) = w
          rw [if_pos (by rw [eT]; exact h0)]
        rw [ec]
        refine ⟨S, ?_, hm, fun _ => ⟨C, hw1, by omega⟩, offW.rf⟩
        rw [head, if_pos (clsT_v.1.2 h0)]
      · have ec : cvR X L ln (f + 1) w = cvR X L ln f (upN (ln1 X L ln w)) := by
          show (if sTy X L (wSg w) = 0 then w else _) = _
          rw [if_neg (by rw [eT]; exact h0)]
        rw [ec]
        obtain ⟨S1, e1, m1, g1, o1⟩ := q179 (N := N) (b := b) (ln := ln) hN hb hb2 hln hnb hw1 hg.1 hg.2.1 b2 hmj hj (by omega)
        have n1 : ∀ {β : Type} {f' : Unit → mM β}, mb (f179 N) f' S = f' () S1 := by intro β f'; simp only [mb, e1]
        obtain ⟨c1, c2⟩ := cwg_1 (ln := ln) hb hln hg hgd (by rw [eT]; exact h0)
        have hC1 : ∃ C1, gd (wSg (ln1 X L ln w)) = true → MW S1 C1 (upN (ln1 X L ln w)) ∧ C1 ≤ idx (wSg (ln1 X L ln w)) := by
          cases hq : gd (wSg (ln1 X L ln w)) with
          | false => exact ⟨0, fun z => by cases z⟩
          | true =>
            obtain ⟨C1, q1, q2, _⟩ := g1 hq
            exact ⟨C1, fun _ => ⟨q1, q2⟩⟩
        obtain ⟨C1, hC1⟩ := hC1
        obtain ⟨S2, e2, m2, g2, o2⟩ := ih n (upN (ln1 X L ln w)) C1 S1 (fun z => by
          have z : gd (wSg (ln1 X L ln w)) = true := z
          have := c2 z
          show tkN X L ≤ f + idx (wSg (ln1 X L ln w))
          omega) (by omega) (cwg_up c1) (NB_w hnb o1) m1 hC1
        refine ⟨S2, ?_, m2, g2, o1.tr o2⟩
        rw [head, if_neg (fun z => h0 (clsT_v.1.1 z)), n1]
        exact e2
theorem q178 {S : ms_S} {s C : Nat} {w : Cw} (hN : 1300 ≤ N) (hs : s < 4) (hC : C ≤ 1200) (hw : MW S C w) (hK : (wK w).length ≤ 6) (hM : (wM w).length ≤ 8) : ∃ S1, f178 N (Int32.ofNat s) S = some ((), S1) ∧ (ms_A S1 143 s = Int32.ofNat (wN w) ∧ (∀ k, k < 4 → ms_A S1 147 (4 * s + k) = wL w k) ∧ ms_A S1 144 s = Int32.ofNat (wK w).length ∧ ms_A S1 145 s = Int32.ofNat (wM w).length ∧ (∀ i, i < (wM w).length → ms_A S1 146 (8 * s + i) = ((wM w).getD i (0, [])).1) ∧ (∀ i, i < (wK w).length → mSeg S1 s i ((wK w).getD i ([], [])).2) ∧ (∀ i, i < (wM w).length → mSeg S1 s (6 + i) ((wM w).getD i (0, [])).2) ∧ ms_A S1 156 s = bI (Nat.testBit (wT w) 4) ∧ (Nat.testBit (wT w) 4 = true → mSeg S1 s 14 (wD w))) ∧ (∀ t (A : Ab), t < 4 → t ≠ s → aN A (10 + t) ≤ 6 → aN A (20 + t) ≤ 8 → mCvAt S A t → mCvAt S1 A t) ∧ ∀ c, ¬ (143 ≤ c ∧ c ≤ 151) → c ≠ 156 → c ≠ 157 → Eqc S S1 c := by
  obtain ⟨⟨a1, a2, a3⟩, a4, a5, a6, a7, ⟨a8, a9⟩, a10, a11, a12⟩ := hw
  have s1 : inR (Int32.ofNat s) 5 := ofN_inR (by omega) (by omega)
  have s2 := ofN_cl (i := s) (by omega)
  have i4 : inR (4 : Int32) 5 := ofN_inR (i := 4) (by omega) (by omega)
  have j4 : (4 : Int32).toNatClampNeg = 4 := by decide
  have Y0 : ∃ Y, Y = ms_setA (ms_setA (ms_setA (ms_setA S 143 s (Int32.ofNat (wN w))) 144 s (Int32.ofNat (wK w).length)) 145 s (Int32.ofNat (wM w).length)) 156 s (bI (Nat.testBit (wT w) 4)) := ⟨_, rfl⟩
  obtain ⟨Y, hY⟩ := Y0
  have oY : ∀ c, ¬ (143 ≤ c ∧ c ≤ 145) → c ≠ 156 → Eqc S Y c := fun c h1 h2 => by rw [hY]; exact (((Eqc_A (by omega)).tr (Eqc_A (by omega))).tr (Eqc_A (by omega))).tr (Eqc_A h2)
  have z2 : ms_A (ms_setA S 143 s (Int32.ofNat (wN w))) 144 4 = Int32.ofNat (wK w).length := by rw [(Eqc_A (by decide)).2.2.2.1]; exact a2
  have z3 : ms_A (ms_setA (ms_setA S 143 s (Int32.ofNat (wN w))) 144 s (Int32.ofNat (wK w).length)) 145 4 = Int32.ofNat (wM w).length := by rw [(Eqc_A (by decide)).2.2.2.1, (Eqc_A (by decide)).2.2.2.1]; exact a3
  have z4 : ms_A (ms_setA (ms_setA (ms_setA S 143 s (Int32.ofNat (wN w))) 144 s (Int32.ofNat (wK w).length)) 145 s (Int32.ofNat (wM w).length)) 156 4 = bI (Nat.testBit (wT w) 4) := by rw [(Eqc_A (by decide)).2.2.2.1, (Eqc_A (by decide)).2.2.2.1, (Eqc_A (by decide)).2.2.2.1]; exact a5
  have zb : vp_nar .boolean (bI (Nat.testBit (wT w) 4)) = bI (Nat.testBit (wT w) 4) := vpb (by cases Nat.testBit (wT w) 4; exact Or.inl rfl; exact Or.inr rfl)
  have yS : ∀ c i, ((143 ≤ c ∧ c ≤ 145) ∨ c = 156) → i ≠ s → ms_A Y c i = ms_A S c i := fun c i _ hi => by rw [hY]; simp only [mG]; rw [if_neg (fun z => hi z.2), if_neg (fun z => hi z.2), if_neg (fun z => hi z.2), if_neg (fun z => hi z.2)]
  obtain ⟨S1, e1, r1, t1, o1⟩ := lay50 (N := N) (K := fun (x1 : Int32) (x2 : Int32) => (f178_L82 N (fun (x1 : Int32) (x2 : Int32) => (f178_L116 N (fun (x1 : Int32) (x2 : Int32) => (f178_L150 N (fun (x1 : Int32) (x2 : Int32) => (f178_L204 N (fun (x1 : Int32) (x2 : Int32) => (mret ())) N x1 0)) N x1 0)) N x1 0)) N x1 0)) hs 4 0 N Y (by omega) (by omega)
  obtain ⟨S2, e2, r2, t2, o2⟩ := lay82 (N := N) (K := fun (x1 : Int32) (x2 : Int32) => (f178_L116 N (fun (x1 : Int32) (x2 : Int32) => (f178_L150 N (fun (x1 : Int32) (x2 : Int32) => (f178_L204 N (fun (x1 : Int32) (x2 : Int32) => (mret ())) N x1 0)) N x1 0)) N x1 0)) hs 8 0 N S1 (by omega) (by omega)
  obtain ⟨S3, e3, r3, t3, o3⟩ := lay116 (N := N) (K := fun (x1 : Int32) (x2 : Int32) => (f178_L150 N (fun (x1 : Int32) (x2 : Int32) => (f178_L204 N (fun (x1 : Int32) (x2 : Int32) => (mret ())) N x1 0)) N x1 0)) hs 6 0 N S2 (by omega) (by omega)
  obtain ⟨S4, e4, r4, t4, r5, t5, o4⟩ := lay150 (N := N) (K := fun (x1 : Int32) (x2 : Int32) => (f178_L204 N (fun (x1 : Int32) (x2 : Int32) => (mret ())) N x1 0)) hs 15 0 N S3 (by omega) (by omega)
  have f131 : ms_I S4 131 = ms_I S 131 := by rw [(o4 131 (by decide) (by decide)).1, (o3 131 (by decide)).1, (o2 131 (by decide)).1, (o1 131 (by decide)).1, (oY 131 (by decide) (by decide)).1]
  obtain ⟨S5, e5, r6, t6, r7, t7, o5⟩ := lay204 (N := N) (C := C) (K := fun (x1 : Int32) (x2 : Int32) => (mret ())) hs hC C 0 N S4 (by omega) (by omega) (by rw [f131]; exact a8)
  have p143 : ∀ c, ((143 ≤ c ∧ c ≤ 145) ∨ c = 156) → ms_A S5 c = ms_A Y c := fun c hc => by rw [(o5 c (by omega) (by omega)).2.2.2.1, (o4 c (by omega) (by omega)).2.2.2.1, (o3 c (by omega)).2.2.2.1, (o2 c (by omega)).2.2.2.1, (o1 c (by omega)).2.2.2.1]
  have p147 : ms_A S5 147 = ms_A S1 147 := by rw [(o5 147 (by decide) (by decide)).2.2.2.1, (o4 147 (by decide) (by decide)).2.2.2.1, (o3 147 (by decide)).2.2.2.1, (o2 147 (by decide)).2.2.2.1]
  have y147 : ms_A Y 147 = ms_A S 147 := (oY 147 (by decide) (by decide)).2.2.2.1
  have p146 : ms_A S5 146 = ms_A S2 146 := by rw [(o5 146 (by decide) (by decide)).2.2.2.1, (o4 146 (by decide) (by decide)).2.2.2.1, (o3 146 (by decide)).2.2.2.1]
  have y146 : ms_A S1 146 = ms_A S 146 := by rw [(o1 146 (by decide)).2.2.2.1, (oY 146 (by decide) (by decide)).2.2.2.1]
  have p148 : ∀ c, (c = 148 ∨ c = 149) → ms_A S5 c = ms_A S4 c ∧ ms_A S3 c = ms_A S c := fun c hc => ⟨(o5 c (by omega) (by omega)).2.2.2.1, by rw [(o3 c (by omega)).2.2.2.1, (o2 c (by omega)).2.2.2.1, (o1 c (by omega)).2.2.2.1, (oY c (by omega) (by omega)).2.2.2.1]⟩
  have p150 : ∀ c, (c = 150 ∨ c = 151) → ms_A S4 c = ms_A S c := fun c hc => by rw [(o4 c (by omega) (by omega)).2.2.2.1, (o3 c (by omega)).2.2.2.1, (o2 c (by omega)).2.2.2.1, (o1 c (by omega)).2.2.2.1, (oY c (by omega) (by omega)).2.2.2.1]
  have sg : ∀ line l, line < 15 → sgM S C line l → mSeg S5 s line l := fun line l hl ⟨n, b1, b2, b3, b4⟩ => by
    refine ⟨n, ?_, ?_, by omega, fun j hj => ?_⟩
    · rw [(p148 148 (Or.inl rfl)).1, r4 line (by omega) hl, (p148 148 (Or.inl rfl)).2]; exact b1
    · rw [(p148 149 (Or.inr rfl)).1, r5 line (by omega) hl, (p148 149 (Or.inr rfl)).2]; exact b2
    · have b5 := b4 j hj
      rw [Nat.add_assoc, r6 (n + j) (by omega) (by omega), r7 (n + j) (by omega) (by omega), p150 150 (Or.inl rfl), p150 151 (Or.inr rfl), ← Nat.add_assoc]
      exact b5
  refine ⟨S5, ?_, ⟨?_, fun k hk => ?_, ?_, ?_, fun i hi => ?_, fun i hi => sg _ _ (by omega) (a10 i hi), fun i hi => sg _ _ (by omega) (a11 i hi), ?_, fun ht => sg _ _ (by omega) (a12 ht)⟩, fun t A ht hts h10 h20 hcv => mCvAt_off hcv h10 h20 (fun c hc => ?_) (fun k hk => ?_) (fun i hi => ?_) (fun c i hc hi => ?_) (fun c i hc hi => ?_), fun c h1 h2 h3 => ?_⟩
  · unfold f178
    simp only [mE, i4, j4, s1, s2, a1, z2, z3, z4, zb, ← hY]
    exact e1.trans (e2.trans (e3.trans (e4.trans e5)))
  · rw [p143 143 (by omega), hY]; simp [mG]
  · rw [p147, r1 k (by omega) hk, y147]; exact (a4 k hk).1
  · rw [p143 144 (by omega), hY]; simp [mG]
  · rw [p143 145 (by omega), hY]; simp [mG]
  · rw [p146, r2 i (by omega) (by omega), y146]; exact a6 i hi
  · rw [p143 156 (by omega), hY]; simp [mG]
  · rw [p143 c hc]; exact yS c t hc hts
  · rw [p147, t1 (4 * t + k) (by omega), y147]
  · rw [p146, t2 (8 * t + i) (by omega), y146]
  · rw [(p148 c hc).1]
    rcases hc with rfl | rfl
    · rw [t4 (15 * t + i) (by omega), (p148 148 (Or.inl rfl)).2]
    · rw [t5 (15 * t + i) (by omega), (p148 149 (Or.inr rfl)).2]
  · rcases hc with rfl | rfl
    · rw [t6 (1200 * t + i) (by omega), p150 150 (Or.inl rfl)]
    · rw [t7 (1200 * t + i) (by omega), p150 151 (Or.inr rfl)]
  · exact ((((oY c (by omega) h2).tr (o1 c (by omega))).tr (o2 c (by omega))).tr (o3 c h3)).tr ((o4 c (by omega) (by omega)).tr (o5 c (by omega) (by omega)))
end CVK
