/-! lines of a convention: the reference, a line -/
section LNZ
variable {N : Nat} {X : Nat → Int32} {L : Nat} {b : Nat} {ln : List (List Int32)}
theorem finL {f : mM Unit} {S : ms_S} {C : Nat} {r : Px} {g : Cd → Nat → Sg → Cw} (hN : 1300 ≤ N) (hb : TxB X L) (h : ResL f S X L C r g) (hs : ∀ cd u σ, wSg (g cd u σ) = σ ∧ wU (g cd u σ) = u) (hp : gd (dm X L 59 r.1) = true → C + r.2.1.length ≤ idx (dm X L 59 r.1) ∧ r.2.2 ≤ 100 ∧ idx (dm X L 59 r.1) < tkN X L) : ResW (mb f fun _ => l240 N) S X L (g r.2.1 r.2.2 (dm X L 59 r.1)) := by
  obtain ⟨σ1, S1, e1, m1, d1, g1, o1⟩ := h
  obtain ⟨S2, e2, m2, o2, u2⟩ := q240 (N := N) hN hb m1
  have n1 : ∀ {β : Type} {f' : Unit → mM β}, mb f f' S = f' () S1 := by intro β f'; simp only [mb, e1]
  rw [d1] at m2
  refine ⟨S2, by rw [n1]; exact e2, by rw [(hs _ _ _).1]; exact m2, fun hg => ?_, o1.tr o2⟩
  rw [(hs _ _ _).1] at hg ⊢
  rw [(hs _ _ _).2]
  have hg1 : gd σ1 = true := by rw [← d1] at hg; exact (gd_dm hg).1
  obtain ⟨p1, p2, p3⟩ := hp hg
  exact ⟨C + r.2.1.length, u2 _ _ ((g1 hg1).2 _), p1, p3, p2⟩
theorem inT_nw {σ : Sg} {nl : List (List Int32)} (hb : TxB X L) (h : InT X L σ) : InT X L (nwN X L nl σ) := by
  intro hg
  obtain ⟨h1, h2, _, h3⟩ := gd_nw hg
  rw [h3] at hg ⊢
  exact inT_nx hb h (by have := of_decide_eq_true h2; omega) hg
theorem inT_mC {σ : Sg} (hb : TxB X L) (h : InT X L σ) : InT X L (mC X L σ) := by
  intro hg
  obtain ⟨h1, h2, h3⟩ := gd_mC hg
  rw [h2] at hg ⊢
  exact inT_nx hb h h3 hg
theorem f180_eq {p0 : Int32} : f180 N p0 = (if p0 ≥ 2 then (mb (f163 N 0 99) fun v1 => mb (sA 147 20 (16 + p0) v1) fun _ => mb (sB 155 20 (16 + p0) 1) fun _ => mret ()) else (mb (f163 N 0 9999) fun v1 => mb (sA 147 20 (16 + p0) v1) fun _ => mb (sB 155 20 (16 + p0) 1) fun _ => mret ())) := rfl
theorem q180 {S : ms_S} {w : Cw} {C j k : Nat} (hN : 1300 ≤ N) (hb : TxB X L) (hw : MW S C w) (hk : k < 4) (hm : MS S X L (.inr j)) : ∃ S1, f180 N (Int32.ofNat k) S = some ((), S1) ∧ MS S1 X L (nb X L 0 (if k < 2 then 9999 else 99) (.inr j)) ∧ (gd (nb X L 0 (if k < 2 then 9999 else 99) (.inr j)) = true → ∀ σ', MW S1 C (σ', w.2.1, (fun i => if i = k then nuV X L (.inr j) else wL w i, wD w), wT w ||| 2 ^ k, wU w, wN w)) ∧ offW S S1 := by
  have e16 : 16 + Int32.ofNat k = Int32.ofNat (16 + k) := by rw [show (16 : Int32) = Int32.ofNat 16 from rfl, ofN_add]
  have i1 : inR (Int32.ofNat (16 + k)) 20 := ofN_inR (by omega) (by omega)
  have i2 := ofN_cl (i := 16 + k) (by omega)
  have main : ∀ hi : Int32, ∃ S1, (mb (f163 N 0 hi) fun v1 => mb (sA 147 20 (16 + Int32.ofNat k) v1) fun _ => mb (sB 155 20 (16 + Int32.ofNat k) 1) fun _ => mret ()) S = some ((), S1) ∧ MS S1 X L (nb X L 0 hi (.inr j)) ∧ (gd (nb X L 0 hi (.inr j)) = true → ∀ σ', MW S1 C (σ', w.2.1, (fun i => if i = k then nuV X L (.inr j) else wL w i, wD w), wT w ||| 2 ^ k, wU w, wN w)) ∧ offW S S1 := fun hi => by
    obtain ⟨v, S1, e1, p1, m1, o1⟩ := q163 (N := N) (lo := 0) (hi := hi) hN hb hm
    have n1 : ∀ {β : Type} {f' : Int32 → mM β}, mb (f163 N 0 hi) f' S = f' v S1 := by intro β f'; simp only [mb, e1]
    refine ⟨ms_setA (ms_setA S1 147 (16 + k) v) 155 (16 + k) 1, ?_, MS_A (MS_A m1 (by decide)) (by decide), fun hg σ' => ?_, (o1.w.tr (offW.wA (by omega))).tr (offW.wA (by omega))⟩
    · rw [n1]
      simp only [mE, e16, i1, i2, vpb (Or.inr rfl)]
    · obtain ⟨q, hq⟩ := gdI hg
      have hv := p1 q hq
      have := MW_lim (v := v) (σ' := σ') (MW_m hw o1) hk
      rw [hv] at this
      rw [hv]
      exact this
  rw [f180_eq]
  by_cases h2 : k < 2
  · rw [if_neg (fun z => by have := (ofN_le (i := 2) (j := k) (by omega) (by omega)).1 z; omega), if_pos h2]
    exact main 9999
  · rw [if_pos (show Int32.ofNat k ≥ 2 from (ofN_le (i := 2) (by omega) (by omega)).2 (by omega)), if_neg h2]
    exact main 99
/-- a limit's line -/
theorem limK {S : ms_S} {w : Cw} {C j k : Nat} (hN : 1300 ≤ N) (hb : TxB X L) (hw : MW S C w) (hu : wU w ≤ 100) (hm : MS S X L (.inr j)) (hj : wSg w = .inr j) (hC : C ≤ j) (hk : k < 4) (h0 : tTy (tkJ X L j) ≠ 0) (h1 : tTy (tkJ X L j) ≠ 1) : ResW (l81 N 0 0 0 (Int32.ofNat k)) S X L (lLn X L k w) := by
  have e16 : 16 + Int32.ofNat k = Int32.ofNat (16 + k) := by rw [show (16 : Int32) = Int32.ofNat 16 from rfl, ofN_add]
  have i1 : inR (Int32.ofNat (16 + k)) 20 := ofN_inR (by omega) (by omega)
  have i2 := ofN_cl (i := 16 + k) (by omega)
  have pre : l81 N 0 0 0 (Int32.ofNat k) S = (if bI (Nat.testBit (wT w) k) = 0 then l165 N 0 0 0 (Int32.ofNat k) 0 else l165 N 0 0 0 (Int32.ofNat k) 1) S := by
    unfold l81
    rw [if_pos (show (0 : Int32) = 0 from rfl), if_pos (show (0 : Int32) = 0 from rfl), if_pos (show (0 : Int32) = 0 from rfl), if_neg (ofN_nl (i := k) (by omega))]
    simp only [mE, e16, i1, i2, (hw.2.1 k hk).2]
  cases ht : Nat.testBit (wT w) k with
  | true =>
    rw [ht, if_neg (show ¬ (bI true = 0) by decide)] at pre
    obtain ⟨S1, e1, r⟩ := l165_bad (N := N) (x1 := 0) (x2 := 0) (x3 := 0) (x4 := Int32.ofNat k) hb hm hj
    have el : lLn X L k w = (rf X L 2 (wSg w), w.2) := by unfold lLn; rw [if_pos ht]
    rw [el]
    exact ⟨S1, by rw [pre]; exact e1, r⟩
  | false =>
    rw [ht, if_pos (show bI false = 0 from rfl)] at pre
    obtain ⟨S1, e1, m1, o1⟩ := l165_go (N := N) (x1 := 0) (x2 := 0) (x3 := 0) (x4 := Int32.ofNat k) hN hb hm h0 h1
    rw [if_pos (show (0 : Int32) = 0 from rfl), if_pos (show (0 : Int32) = 0 from rfl), if_pos (show (0 : Int32) = 0 from rfl)] at e1
    obtain ⟨S2, e2, m2, w2, o2⟩ := q180 (N := N) hN hb (MW_m hw o1) hk m1
    have n2 : ∀ {β : Type} {f' : Unit → mM β}, mb (f180 N (Int32.ofNat k)) f' S1 = f' () S2 := by intro β f'; simp only [mb, e2]
    obtain ⟨S3, e3, m3, o3, u3⟩ := q240 (N := N) hN hb m2
    have el : lLn X L k w = (dm X L 59 (nb X L 0 (if k < 2 then 9999 else 99) (.inr (j + 1))), w.2.1, (fun i => if i = k then nuV X L (.inr (j + 1)) else wL w i, wD w), wT w ||| 2 ^ k, wU w, wN w) := by
      unfold lLn
      rw [if_neg (by rw [ht]; decide), hj]
      rfl
    rw [el]
    refine ⟨S3, ?_, m3, fun hg => ?_, (o1.w.tr o2).tr o3⟩
    · rw [pre, e1, n2]
      unfold l229
      rw [if_pos rfl]
      exact e3
    · have hg : gd (dm X L 59 (nb X L 0 (if k < 2 then 9999 else 99) (.inr (j + 1)))) = true := hg
      have g1 := (gd_dm hg).1
      have x1 := idx_dm hg
      have x2 : idx (nb X L 0 (if k < 2 then 9999 else 99) (.inr (j + 1))) = j + 1 + 1 := idx_nb g1
      have hin : InT X L (dm X L 59 (nb X L 0 (if k < 2 then 9999 else 99) (.inr (j + 1)))) := by
        refine inT_dm hb ?_ (by decide)
        intro z
        obtain ⟨q1, q2, _, q3⟩ := gd_nb z
        rw [q3] at z ⊢
        exact inT_nx hb (fun _ => m1.2.1) (by have := of_decide_eq_true q2; omega) z
      refine ⟨C, u3 _ _ (w2 g1 _), ?_, hin hg, hu⟩
      show C ≤ idx (dm X L 59 (nb X L 0 (if k < 2 then 9999 else 99) (.inr (j + 1))))
      omega
theorem kindK {S : ms_S} {w : Cw} {C j : Nat} (hN : 1300 ≤ N) (hb : TxB X L) (hb2 : b < 2) (hln : ln.length ≤ 8) (hnb : NB S b ln) (hw : MW S C w) (hK : (wK w).length ≤ 6) (hu : wU w ≤ 100) (hm : MS S X L (.inr j)) (hj : wSg w = .inr j) (hC : C ≤ j) (h0 : tTy (tkJ X L j) ≠ 0) (h1 : tTy (tkJ X L j) ≠ 1) : ResW (l81 N 1 0 0 (-1)) S X L (kLn X L ln w) := by
  have hl : (knW w).length = (wK w).length := by unfold knW; rw [List.length_map]
  have i4 : inR (4 : Int32) 5 := ofN_inR (i := 4) (by omega) (by omega)
  have j4 : (4 : Int32).toNatClampNeg = 4 := by decide
  have c6 : (Int32.ofNat (wK w).length = 6) ↔ (wK w).length = 6 := ofN_eq (j := 6) (by omega) (by omega)
  have pre : l81 N 1 0 0 (-1) S = (if Int32.ofNat (wK w).length ≠ 6 then l165 N 1 0 0 (-1) 0 else l165 N 1 0 0 (-1) 1) S := by
    unfold l81
    rw [if_neg (show ¬ ((1 : Int32) = 0) by decide)]
    simp only [mE, i4, j4, hw.1.2.1]
  by_cases h6 : 6 ≤ (wK w).length
  · rw [if_neg (fun z => z (c6.2 (by omega)))] at pre
    obtain ⟨S1, e1, r⟩ := l165_bad (N := N) (x1 := 1) (x2 := 0) (x3 := 0) (x4 := -1) hb hm hj
    have el : kLn X L ln w = (rf X L 2 (wSg w), w.2) := by unfold kLn; rw [if_pos h6]
    rw [el]
    exact ⟨S1, by rw [pre]; exact e1, r⟩
  · rw [if_pos (fun z => h6 (by have := c6.1 z; omega))] at pre
    obtain ⟨S1, e1, m1, o1⟩ := l165_go (N := N) (x1 := 1) (x2 := 0) (x3 := 0) (x4 := -1) hN hb hm h0 h1
    rw [if_neg (show ¬ ((1 : Int32) = 0) by decide)] at e1
    have hr := q182 (N := N) (b := b) (ln := ln) hN hb hb2 hln (NB_w hnb o1.w) (MW_m hw o1) (by omega) hu m1 (by omega)
    have ek : kEx X L ln w = pE X L true (knW w) ln 100 0 0 (dm X L 122 (nwN X L (knW w) (.inr (j + 1))), [], wU w) := by unfold kEx; rw [hj]; rfl
    rw [← ek] at hr
    have el : kLn X L ln w = (dm X L 59 (kEx X L ln w).1, (wK w ++ [(nmV X L (.inr (j + 1)), (kEx X L ln w).2.1)], wM w), (wL w, wD w), wT w, (kEx X L ln w).2.2, wN w) := by unfold kLn; rw [if_neg h6, hj]; rfl
    obtain ⟨S2, e2, r1, r2, r3⟩ := finL (N := N) hN hb hr (fun cd u σ => ⟨rfl, rfl⟩) (fun hg => by
      rw [ek] at hg ⊢
      refine pE_len hb (by omega) hln (inT_dm hb (inT_nw hb (fun _ => m1.2.1)) (by decide)) hu (fun z => ?_) hg
      have a1 := idx_dm z
      obtain ⟨_, _, _, a2⟩ := gd_nw (gd_dm z).1
      have a3 : idx (nwN X L (knW w) (.inr (j + 1))) = j + 1 + 1 := by rw [a2]; rfl
      omega)
    rw [el]
    refine ⟨S2, ?_, r1, r2, o1.w.tr r3⟩
    rw [pre, e1]
    exact e2
theorem mayK {S : ms_S} {w : Cw} {C j : Nat} (hN : 1300 ≤ N) (hb : TxB X L) (hb2 : b < 2) (hln : ln.length ≤ 8) (hnb : NB S b ln) (hw : MW S C w) (hK : (wK w).length ≤ 6) (hM : (wM w).length ≤ 8) (hu : wU w ≤ 100) (hm : MS S X L (.inr j)) (hj : wSg w = .inr j) (hC : C ≤ j) (h0 : tTy (tkJ X L j) ≠ 0) (h1 : tTy (tkJ X L j) ≠ 1) : ResW (l81 N 0 1 0 (-1)) S X L (mLn X L ln w) := by
  have hl : (knW w).length = (wK w).length := by unfold knW; rw [List.length_map]
  have i4 : inR (4 : Int32) 5 := ofN_inR (i := 4) (by omega) (by omega)
  have j4 : (4 : Int32).toNatClampNeg = 4 := by decide
  have c8 : (Int32.ofNat (wM w).length = 8) ↔ (wM w).length = 8 := ofN_eq (j := 8) (by omega) (by omega)
  have pre : l81 N 0 1 0 (-1) S = (if Int32.ofNat (wM w).length ≠ 8 then l165 N 0 1 0 (-1) 0 else l165 N 0 1 0 (-1) 1) S := by
    unfold l81
    rw [if_pos (show (0 : Int32) = 0 from rfl), if_neg (show ¬ ((1 : Int32) = 0) by decide)]
    simp only [mE, i4, j4, hw.1.2.2]
  by_cases h8 : 8 ≤ (wM w).length
  · rw [if_neg (fun z => z (c8.2 (by omega)))] at pre
    obtain ⟨S1, e1, r⟩ := l165_bad (N := N) (x1 := 0) (x2 := 1) (x3 := 0) (x4 := -1) hb hm hj
    have el : mLn X L ln w = (rf X L 2 (wSg w), w.2) := by unfold mLn; rw [if_pos h8]
    rw [el]
    exact ⟨S1, by rw [pre]; exact e1, r⟩
  · rw [if_pos (fun z => h8 (by have := c8.1 z; omega))] at pre
    obtain ⟨S1, e1, m1, o1⟩ := l165_go (N := N) (x1 := 0) (x2 := 1) (x3 := 0) (x4 := -1) hN hb hm h0 h1
    rw [if_pos (show (0 : Int32) = 0 from rfl), if_neg (show ¬ ((1 : Int32) = 0) by decide)] at e1
    have hr := q183 (N := N) (b := b) (ln := ln) hN hb hb2 hln (NB_w hnb o1.w) (MW_m hw o1) hK (by omega) hu m1 (by omega)
    have ek : mEx X L ln w = pE X L false (knW w) ln 100 0 0 (dm X L 124 (mC X L (.inr (j + 1))), [], wU w) := by unfold mEx; rw [hj]; rfl
    rw [← ek] at hr
    have el : mLn X L ln w = (dm X L 59 (mEx X L ln w).1, (wK w, wM w ++ [(mV X L (.inr (j + 1)), (mEx X L ln w).2.1)]), (wL w, wD w), wT w, (mEx X L ln w).2.2, wN w) := by unfold mLn; rw [if_neg h8, hj]; rfl
    obtain ⟨S2, e2, r1, r2, r3⟩ := finL (N := N) hN hb hr (fun cd u σ => ⟨rfl, rfl⟩) (fun hg => by
      rw [ek] at hg ⊢
      refine pE_len hb (by omega) hln (inT_dm hb (inT_mC hb (fun _ => m1.2.1)) (by decide)) hu (fun z => ?_) hg
      have a1 := idx_dm z
      obtain ⟨_, a2, _⟩ := gd_mC (gd_dm z).1
      have a3 : idx (mC X L (.inr (j + 1))) = j + 1 + 1 := by rw [a2]; rfl
      omega)
    rw [el]
    refine ⟨S2, ?_, r1, r2, o1.w.tr r3⟩
    rw [pre, e1]
    exact e2
theorem dueK {S : ms_S} {w : Cw} {C j : Nat} (hN : 1300 ≤ N) (hb : TxB X L) (hb2 : b < 2) (hln : ln.length ≤ 8) (hnb : NB S b ln) (hw : MW S C w) (hK : (wK w).length ≤ 6) (hM : (wM w).length ≤ 8) (hu : wU w ≤ 100) (hm : MS S X L (.inr j)) (hj : wSg w = .inr j) (hC : C ≤ j) (h0 : tTy (tkJ X L j) ≠ 0) (h1 : tTy (tkJ X L j) ≠ 1) : ResW (l81 N 0 0 1 (-1)) S X L (dLn X L ln w) := by
  have hl : (knW w).length = (wK w).length := by unfold knW; rw [List.length_map]
  have i4 : inR (4 : Int32) 5 := ofN_inR (i := 4) (by omega) (by omega)
  have j4 : (4 : Int32).toNatClampNeg = 4 := by decide
  have pre : l81 N 0 0 1 (-1) S = l165 N 0 0 1 (-1) (bI (Nat.testBit (wT w) 4)) S := by
    unfold l81
    rw [if_pos (show (0 : Int32) = 0 from rfl), if_pos (show (0 : Int32) = 0 from rfl), if_neg (show ¬ ((1 : Int32) = 0) by decide)]
    simp only [mE, i4, j4, hw.2.2.1]
  cases ht : Nat.testBit (wT w) 4 with
  | true =>
    rw [ht] at pre
    obtain ⟨S1, e1, r⟩ := l165_bad (N := N) (x1 := 0) (x2 := 0) (x3 := 1) (x4 := -1) hb hm hj
    have el : dLn X L ln w = (rf X L 2 (wSg w), w.2) := by unfold dLn; rw [if_pos ht]
    rw [el]
    exact ⟨S1, by rw [pre]; exact e1, r⟩
  | false =>
    rw [ht] at pre
    obtain ⟨S1, e1, m1, o1⟩ := l165_go (N := N) (x1 := 0) (x2 := 0) (x3 := 1) (x4 := -1) hN hb hm h0 h1
    rw [if_pos (show (0 : Int32) = 0 from rfl), if_pos (show (0 : Int32) = 0 from rfl), if_neg (show ¬ ((1 : Int32) = 0) by decide)] at e1
    have w1 := MW_m hw o1
    obtain ⟨σ1, S2, e2, m2, d2, g2, o2⟩ := q181 (N := N) (kl := false) (line := 14) (c0 := C) (u := wU w) hN hb hb2 (NK_of w1 (NB_w hnb o1.w)) (by omega) hln (by omega) (by decide) m1 hu (fun _ => by show C ≤ j + 1; omega) w1.2.2.2.2.2.1.1 w1.2.2.2.2.2.1.2
    have e2 : f181 N 14 S1 = some ((), S2) := e2
    have n2 : ∀ {β : Type} {f' : Unit → mM β}, mb (f181 N 14) f' S1 = f' () S2 := by intro β f'; simp only [mb, e2]
    have Z0 : ∃ Z, Z = ms_setA S2 156 4 1 := ⟨_, rfl⟩
    obtain ⟨Z, hZ⟩ := Z0
    have mZ : MS Z X L σ1 := by rw [hZ]; exact MS_A m2 (by decide)
    obtain ⟨S3, e3, m3, o3, u3⟩ := q240 (N := N) hN hb mZ
    have ek : dE X L ln w = pE X L false (knW w) ln 100 0 0 (.inr (j + 1), [], wU w) := by unfold dE; rw [hj]; rfl
    rw [← ek] at d2 g2
    have el : dLn X L ln w = (dm X L 59 (dE X L ln w).1, w.2.1, (wL w, (dE X L ln w).2.1), wT w ||| 2 ^ 4, (dE X L ln w).2.2, wN w) := by unfold dLn; rw [if_neg (by rw [ht]; decide)]
    rw [d2] at m3
    rw [el]
    refine ⟨S3, ?_, m3, fun hg => ?_, ((o1.w.tr o2.w').tr (by rw [hZ]; exact offW.wA (by omega))).tr o3⟩
    · have b0 : bI false = 0 := rfl
      rw [pre, b0, e1, n2]
      unfold l229
      rw [if_neg (show ¬ ((1 : Int32) = 0) by decide)]
      simp only [mE, i4, j4, vpb (Or.inr rfl), ← hZ]
      exact e3
    · have hg : gd (dm X L 59 (dE X L ln w).1) = true := hg
      have hg1 : gd σ1 = true := by rw [← d2] at hg; exact (gd_dm hg).1
      obtain ⟨g4, g5, g6, g7⟩ := g2 hg1
      have hp := pE_len (c0 := C) (kl := false) (kn := knW w) (ln := ln) (u := wU w) (σ := .inr (j + 1)) hb (by omega) hln (fun _ => m1.2.1) hu (fun _ => by show C ≤ j + 1; omega) (by rw [← ek]; exact hg)
      rw [← ek] at hp
      refine ⟨C + (dE X L ln w).2.1.length, u3 _ _ ?_, hp.1, hp.2.2, hp.2.1⟩
      rw [hZ]
      exact MW_due w1 hK hM o2 g5 g6 g7
theorem q179 {S : ms_S} {w : Cw} {C j : Nat} (hN : 1300 ≤ N) (hb : TxB X L) (hb2 : b < 2) (hln : ln.length ≤ 8) (hnb : NB S b ln) (hw : MW S C w) (hK : (wK w).length ≤ 6) (hM : (wM w).length ≤ 8) (hu : wU w ≤ 100) (hm : MS S X L (.inr j)) (hj : wSg w = .inr j) (hC : C ≤ j) : ResW (f179 N) S X L (ln1 X L ln w) := by
  have T0 : ∃ ty, ty = tTy (tkJ X L j) := ⟨_, rfl⟩
  obtain ⟨ty, et⟩ := T0
  have eT : sTy X L (wSg w) = ty := by rw [hj, et]; rfl
  have a : ∀ {i : Nat} {β : Type} {f : Int32 → mM β}, i < 31 → mb (f160 N (K8I i)) f S = f (if ty = 100 + i then 1 else 0) S := by intro i β f hi; rw [et]; exact E160 hb hi hm
  have a11 : ∀ {β : Type} {f : Int32 → mM β}, mb (f160 N 1802071652) f S = f (if ty = 111 then 1 else 0) S := by intro β f; exact a (i := 11) (by omega)
  have a23 : ∀ {β : Type} {f : Int32 → mM β}, mb (f160 N 7168377) f S = f (if ty = 123 then 1 else 0) S := by intro β f; exact a (i := 23) (by omega)
  have a30 : ∀ {β : Type} {f : Int32 → mM β}, mb (f160 N 1685415283) f S = f (if ty = 130 then 1 else 0) S := by intro β f; exact a (i := 30) (by omega)
  have a27 : ∀ {β : Type} {f : Int32 → mM β}, mb (f160 N 7566701) f S = f (if ty = 127 then 1 else 0) S := by intro β f; exact a (i := 27) (by omega)
  have a28 : ∀ {β : Type} {f : Int32 → mM β}, mb (f160 N 1700881256) f S = f (if ty = 128 then 1 else 0) S := by intro β f; exact a (i := 28) (by omega)
  have a29 : ∀ {β : Type} {f : Int32 → mM β}, mb (f160 N 1937006969) f S = f (if ty = 129 then 1 else 0) S := by intro β f; exact a (i := 29) (by omega)
  have a9 : ∀ {β : Type} {f : Int32 → mM β}, mb (f160 N 121424973488997) f S = f (if ty = 109 then 1 else 0) S := by intro β f; exact a (i := 9) (by omega)
  have y : ∀ {p : Prop} [Decidable p] {β : Type} {a b : β}, p → (if (if p then (1 : Int32) else 0) = 0 then a else b) = b := by intro p _ β a b hp; rw [if_pos hp, if_neg (by decide)]
  have n : ∀ {p : Prop} [Decidable p] {β : Type} {a b : β}, ¬ p → (if (if p then (1 : Int32) else 0) = 0 then a else b) = a := by intro p _ β a b hp; rw [if_neg hp, if_pos rfl]
  have pre : f179 N S = l81 N (if ty = 111 then 1 else 0) (if ty = 123 then 1 else 0) (if ty = 130 then 1 else 0) (if ty = 127 then 0 else if ty = 128 then 1 else if ty = 129 then 2 else if ty = 109 then 3 else -1) S := by
    rw [f179_eq, a11, a23, a30, a27]
    by_cases h7 : ty = 127
    · rw [y h7, if_pos h7]
    · rw [n h7, if_neg h7, a28]
      by_cases h8 : ty = 128
      · rw [y h8, if_pos h8]
      · rw [n h8, if_neg h8, a29]
        by_cases h9 : ty = 129
        · rw [y h9, if_pos h9]
        · rw [n h9, if_neg h9, a9]
          by_cases h10 : ty = 109
          · rw [y h10, if_pos h10]
          · rw [n h10, if_neg h10]
  have up : ∀ (f : mM Unit) (w' : Cw), f179 N S = f S → ResW f S X L w' → ResW (f179 N) S X L w' := fun f w' hf ⟨S1, e1, r⟩ => ⟨S1, by rw [hf]; exact e1, r⟩
  unfold ln1
  rw [eT]
  have lim : ∀ k t, k < 4 → ty = t → t ≠ 111 → t ≠ 123 → lmT t = k → (100 ≤ t) → f179 N S = l81 N 0 0 0 (Int32.ofNat k) S → ResW (f179 N) S X L (if ty = 111 then kLn X L ln w else if ty = 123 then mLn X L ln w else if lmT ty < 4 then lLn X L (lmT ty) w else if lmT ty = 4 then dLn X L ln w else (rf X L 2 (wSg w), w.2)) := by
    intro k t hk ht h1 h2 hlm h100 hf
    rw [ht, if_neg h1, if_neg h2, hlm, if_pos hk]
    exact up _ _ hf (limK hN hb hw hu hm hj hC hk (by omega) (by omega))
  by_cases h11 : ty = 111
  · rw [if_pos h11]
    refine up (l81 N 1 0 0 (-1)) _ ?_ (kindK hN hb hb2 hln hnb hw hK hu hm hj hC (by omega) (by omega))
    rw [pre, h11]
    rfl
  · by_cases h23 : ty = 123
    · rw [if_neg h11, if_pos h23]
      refine up (l81 N 0 1 0 (-1)) _ ?_ (mayK hN hb hb2 hln hnb hw hK hM hu hm hj hC (by omega) (by omega))
      rw [pre, h23]
      rfl
    · by_cases h7 : ty = 127
      · exact lim 0 127 (by omega) h7 (by decide) (by decide) rfl (by omega) (by rw [pre, h7]; rfl)
      · by_cases h8 : ty = 128
        · exact lim 1 128 (by omega) h8 (by decide) (by decide) rfl (by omega) (by rw [pre, h8]; rfl)
        · by_cases h9 : ty = 129
          · exact lim 2 129 (by omega) h9 (by decide) (by decide) rfl (by omega) (by rw [pre, h9]; rfl)
          · by_cases h10 : ty = 109
            · exact lim 3 109 (by omega) h10 (by decide) (by decide) rfl (by omega) (by rw [pre, h10]; rfl)
            · by_cases h30 : ty = 130
              · have hlm : lmT ty = 4 := by rw [h30]; rfl
                rw [if_neg h11, if_neg h23, hlm, if_neg (by omega), if_pos rfl]
                refine up (l81 N 0 0 1 (-1)) _ ?_ (dueK hN hb hb2 hln hnb hw hK hM hu hm hj hC (by omega) (by omega))
                rw [pre, h30]
                rfl
              · have hlm : lmT ty = 9 := by unfold lmT; rw [if_neg h7, if_neg h8, if_neg h9, if_neg h10, if_neg h30]
                rw [if_neg h11, if_neg h23, hlm, if_neg (by omega), if_neg (by omega)]
                rw [if_neg h11, if_neg h23, if_neg h30, if_neg h7, if_neg h8, if_neg h9, if_neg h10] at pre
                obtain ⟨S1, e1, r⟩ := l165_bad (N := N) (x1 := 0) (x2 := 0) (x3 := 0) (x4 := -1) hb hm hj
                refine ⟨S1, ?_, r⟩
                rw [pre]
                exact e1
end LNZ
