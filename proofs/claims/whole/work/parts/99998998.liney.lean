/-! lines of a convention: the reference, all lines -/
section LNY
variable {N : Nat} {X : Nat → Int32} {L : Nat} {b : Nat} {ln : List (List Int32)}
def y61 (N : Nat) (x1 x2 y1 : Int32) : mM Unit := mb (f162 N y1) fun _ => mb (sA 146 40 (32 + x1) x2) fun _ => mb (f160 N 26982) fun v3 => mb (f162 N v3) fun _ => mb (f181 N (6 + x1)) fun _ => mb (lA 145 5 4) fun v7 => mb (sA 145 5 4 (v7 + 1)) fun _ => mret ()
def y50 (N : Nat) (x1 y0 : Int32) : mM Unit := if y0 < 0 then y61 N x1 y0 0 else y61 N x1 y0 1
theorem f183_eq : f183 N = (mb (lA 145 5 4) fun v10 => mb (f160 N 482737218405) fun v12 => if v12 = 0 then (mb (f160 N 127991944667508) fun v14 => if v14 = 0 then (mb (f160 N 7823730) fun v16 => if v16 = 0 then (y50 N v10 (-1)) else (y50 N v10 2)) else (y50 N v10 1)) else (y50 N v10 0)) := rfl
theorem y61_ok {S : ms_S} {w : Cw} {C j ty : Nat} {x2 v : Int32} (hN : 1300 ≤ N) (hb : TxB X L) (hb2 : b < 2) (hln : ln.length ≤ 8) (hnb : NB S b ln) (hw : MW S C w) (hK : (wK w).length ≤ 6) (h8 : (wM w).length < 8) (hu : wU w ≤ 100) (hm : MS S X L (.inr j)) (hC : C ≤ j) (hty : 2 ≤ ty) (hv : v = if tTy (tkJ X L j) = ty then 1 else 0) : ResL (y61 N (Int32.ofNat (wM w).length) x2 v) S X L C (pE X L false (knW w) ln 100 0 0 (dm X L 124 (dm X L ty (.inr j)), [], wU w)) (fun cd u' σ' => (σ', (wK w, wM w ++ [(x2, cd)]), (wL w, wD w), wT w, u', wN w)) := by
  have hl : (knW w).length = (wK w).length := by unfold knW; rw [List.length_map]
  have e32 : 32 + Int32.ofNat (wM w).length = Int32.ofNat (32 + (wM w).length) := by rw [show (32 : Int32) = Int32.ofNat 32 from rfl, ofN_add]
  have e6 : 6 + Int32.ofNat (wM w).length = Int32.ofNat (6 + (wM w).length) := by rw [show (6 : Int32) = Int32.ofNat 6 from rfl, ofN_add]
  have i1 : inR (Int32.ofNat (32 + (wM w).length)) 40 := ofN_inR (by omega) (by omega)
  have i2 := ofN_cl (i := 32 + (wM w).length) (by omega)
  have i4 : inR (4 : Int32) 5 := ofN_inR (i := 4) (by omega) (by omega)
  have j4 : (4 : Int32).toNatClampNeg = 4 := by decide
  obtain ⟨S1, e1, m1, o1⟩ := q162 (N := N) (ty := ty) (v := v) hN hb hm hty (fun j' hj' => by
    have : j = j' := by simpa using hj'
    rw [← this]; exact hv)
  have Y0 : ∃ Y, Y = ms_setA S1 146 (32 + (wM w).length) x2 := ⟨_, rfl⟩
  obtain ⟨Y, hY⟩ := Y0
  have mY : MS Y X L (dm X L ty (.inr j)) := by rw [hY]; exact MS_A m1 (by decide)
  have wY : MW Y C w := by rw [hY]; exact MW_cs (MW_m hw o1)
  have oY : offW S Y := by rw [hY]; exact o1.w.tr (offW.wA (by omega))
  have y146 : ms_A Y 146 (32 + (wM w).length) = x2 := by rw [hY]; simp only [mG, and_self, if_true]
  obtain ⟨v2, S2, e2, e3, m2, o2⟩ := mustW (N := N) (i := 24) hN hb (by omega) mY
  have e2 : f160 N 26982 Y = some (v2, Y) := e2
  have m2 : MS S2 X L (dm X L 124 (dm X L ty (.inr j))) := m2
  have w2 : MW S2 C w := MW_m wY o2
  have b2 : NB S2 b ln := NB_w hnb (oY.tr o2.w)
  have hci : gd (dm X L 124 (dm X L ty (.inr j))) = true → C ≤ idx (dm X L 124 (dm X L ty (.inr j))) := fun hg => by
    have a1 := idx_dm hg
    have a2 := idx_dm (gd_dm hg).1
    have a2 : idx (dm X L ty (.inr j)) = j + 1 := a2
    omega
  obtain ⟨σ1, S3, e4, m3, d3, g3, o3⟩ := q181 (N := N) (kl := false) (line := 6 + (wM w).length) (c0 := C) (u := wU w) hN hb hb2 (NK_of w2 b2) (by omega) hln (by omega) (decide_eq_false (by omega)).symm m2 hu hci w2.2.2.2.2.2.1.1 w2.2.2.2.2.2.1.2
  refine ⟨σ1, ms_setA S3 145 4 (ms_A S3 145 4 + 1), ?_, MS_A m3 (by decide), d3, fun hg => ?_, ((oY.tr o2.w).tr o3.w').tr (offW.wA (by omega))⟩
  · have n1 : ∀ {β : Type} {f' : Unit → mM β}, mb (f162 N v) f' S = f' () S1 := by intro β f'; simp only [mb, e1]
    have n2 : ∀ {β : Type} {f' : Int32 → mM β}, mb (f160 N 26982) f' Y = f' v2 Y := by intro β f'; simp only [mb, e2]
    have n3 : ∀ {β : Type} {f' : Unit → mM β}, mb (f162 N v2) f' Y = f' () S2 := by intro β f'; simp only [mb, e3]
    have n4 : ∀ {β : Type} {f' : Unit → mM β}, mb (f181 N (Int32.ofNat (6 + (wM w).length))) f' S2 = f' () S3 := by intro β f'; simp only [mb, e4]
    unfold y61
    rw [n1]
    simp only [mE, e32, i1, i2, ← hY, e6]
    rw [n2, n3, n4]
    simp only [mE, i4, j4]
  · obtain ⟨g4, g5, g6, g7⟩ := g3 hg
    exact ⟨g4, fun σ' => MW_may w2 hK h8 (by rw [(o2.2 146 (by decide)).2.2.2.1]; exact y146) o3 g5 g6 g7⟩
theorem q183 {S : ms_S} {w : Cw} {C j : Nat} (hN : 1300 ≤ N) (hb : TxB X L) (hb2 : b < 2) (hln : ln.length ≤ 8) (hnb : NB S b ln) (hw : MW S C w) (hK : (wK w).length ≤ 6) (h8 : (wM w).length < 8) (hu : wU w ≤ 100) (hm : MS S X L (.inr j)) (hC : C ≤ j) : ResL (f183 N) S X L C (pE X L false (knW w) ln 100 0 0 (dm X L 124 (mC X L (.inr j)), [], wU w)) (fun cd u' σ' => (σ', (wK w, wM w ++ [(mV X L (.inr j), cd)]), (wL w, wD w), wT w, u', wN w)) := by
  have i4 : inR (4 : Int32) 5 := ofN_inR (i := 4) (by omega) (by omega)
  have j4 : (4 : Int32).toNatClampNeg = 4 := by decide
  have a25 : ∀ {β : Type} {f : Int32 → mM β}, mb (f160 N 482737218405) f S = f (if tTy (tkJ X L j) = 125 then 1 else 0) S := by intro β f; exact E160 (i := 25) hb (by omega) hm
  have a26 : ∀ {β : Type} {f : Int32 → mM β}, mb (f160 N 127991944667508) f S = f (if tTy (tkJ X L j) = 126 then 1 else 0) S := by intro β f; exact E160 (i := 26) hb (by omega) hm
  have a6 : ∀ {β : Type} {f : Int32 → mM β}, mb (f160 N 7823730) f S = f (if tTy (tkJ X L j) = 106 then 1 else 0) S := by intro β f; exact E160 (i := 6) hb (by omega) hm
  have y : ∀ {p : Prop} [Decidable p] {β : Type} {a b : β}, p → (if (if p then (1 : Int32) else 0) = 0 then a else b) = b := by intro p _ β a b hp; rw [if_pos hp, if_neg (by decide)]
  have n : ∀ {p : Prop} [Decidable p] {β : Type} {a b : β}, ¬ p → (if (if p then (1 : Int32) else 0) = 0 then a else b) = a := by intro p _ β a b hp; rw [if_neg hp, if_pos rfl]
  have pre : f183 N S = (if tTy (tkJ X L j) = 125 then y61 N (Int32.ofNat (wM w).length) 0 1 else if tTy (tkJ X L j) = 126 then y61 N (Int32.ofNat (wM w).length) 1 1 else if tTy (tkJ X L j) = 106 then y61 N (Int32.ofNat (wM w).length) 2 1 else y61 N (Int32.ofNat (wM w).length) (-1) 0) S := by
    rw [f183_eq]
    simp only [mE, i4, j4, hw.1.2.2]
    rw [a25]
    by_cases h5 : tTy (tkJ X L j) = 125
    · rw [y h5, if_pos h5]; rfl
    · rw [n h5, if_neg h5, a26]
      by_cases h6 : tTy (tkJ X L j) = 126
      · rw [y h6, if_pos h6]; rfl
      · rw [n h6, if_neg h6, a6]
        by_cases h7 : tTy (tkJ X L j) = 106
        · rw [y h7, if_pos h7]; rfl
        · rw [n h7, if_neg h7]; rfl
  have fin : ∀ (ty : Nat) (x2 v : Int32), 2 ≤ ty → v = (if tTy (tkJ X L j) = ty then 1 else 0) → dm X L ty (.inr j) = mC X L (.inr j) → (gd (mC X L (.inr j)) = true → x2 = mV X L (.inr j)) → f183 N S = y61 N (Int32.ofNat (wM w).length) x2 v S → ResL (f183 N) S X L C (pE X L false (knW w) ln 100 0 0 (dm X L 124 (mC X L (.inr j)), [], wU w)) (fun cd u' σ' => (σ', (wK w, wM w ++ [(mV X L (.inr j), cd)]), (wL w, wD w), wT w, u', wN w)) := by
    intro ty x2 v hty hv hdm hx2 hf
    obtain ⟨σ1, S1, e1, r1, r2, r3, r4⟩ := y61_ok (N := N) (b := b) (ln := ln) (x2 := x2) hN hb hb2 hln hnb hw hK h8 hu hm hC hty hv
    rw [hdm] at r2 r3
    refine ⟨σ1, S1, by rw [hf]; exact e1, r1, r2, fun hg => ?_, r4⟩
    obtain ⟨g1, g2⟩ := r3 hg
    refine ⟨g1, fun σ' => ?_⟩
    have a1 : gd (dm X L 124 (mC X L (.inr j))) = true := by
      cases hq : gd (dm X L 124 (mC X L (.inr j))) with
      | true => rfl
      | false =>
        have := pE_bad (X := X) (L := L) (kl := false) (kn := knW w) (ln := ln) 100 0 0 (dm X L 124 (mC X L (.inr j)), [], wU w) hq
        rw [g1, this] at hg
        have hg : gd (dm X L 124 (mC X L (.inr j))) = true := hg
        rw [hq] at hg; cases hg
    rw [← hx2 (gd_dm a1).1]
    exact g2 σ'
  by_cases h5 : tTy (tkJ X L j) = 125
  · have hT : isT X L 125 (.inr j) = true := decide_eq_true h5
    rw [if_pos h5] at pre
    exact fin 125 0 1 (by omega) (by rw [if_pos h5]) (by unfold dm mC; rw [if_pos hT, if_pos hT]) (fun _ => by unfold mV; rw [if_pos hT]) pre
  · have hT : ¬ isT X L 125 (.inr j) = true := fun z => h5 (of_decide_eq_true z)
    rw [if_neg h5] at pre
    by_cases h6 : tTy (tkJ X L j) = 126
    · have hT2 : isT X L 126 (.inr j) = true := decide_eq_true h6
      rw [if_pos h6] at pre
      exact fin 126 1 1 (by omega) (by rw [if_pos h6]) (by unfold dm mC; rw [if_pos hT2, if_neg hT, if_pos hT2]) (fun _ => by unfold mV; rw [if_neg hT, if_pos hT2]) pre
    · have hT2 : ¬ isT X L 126 (.inr j) = true := fun z => h6 (of_decide_eq_true z)
      rw [if_neg h6] at pre
      have em : mC X L (.inr j) = dm X L 106 (.inr j) := by unfold mC; rw [if_neg hT, if_neg hT2]
      by_cases h7 : tTy (tkJ X L j) = 106
      · rw [if_pos h7] at pre
        exact fin 106 2 1 (by omega) (by rw [if_pos h7]) em.symm (fun _ => by unfold mV; rw [if_neg hT, if_neg hT2]) pre
      · rw [if_neg h7] at pre
        refine fin 106 (-1) 0 (by omega) (by rw [if_neg h7]) em.symm (fun hg => ?_) pre
        rw [em] at hg
        exact absurd (of_decide_eq_true (gd_dm hg).2.1) h7
/-- the end of a line -/
def l240 (N : Nat) : mM Unit := mb (f159 N 59) fun v3 => mb (f162 N v3) fun _ => mb (lA 143 5 4) fun v6 => mb (sA 143 5 4 (v6 + 1)) fun _ => mret ()
def l229 (N : Nat) (x3 : Int32) : mM Unit := if x3 = 0 then l240 N else (mb (sB 156 5 4 1) fun _ => l240 N)
def l176 (N : Nat) (x1 x2 x3 x4 : Int32) : mM Unit := mb (f155 N) fun v1 => if v1 ≠ 0 then (mb (f158 N) fun _ => if x1 = 0 then (if x2 = 0 then (if x3 = 0 then (mb (f180 N x4) fun _ => l229 N x3) else (mb (f181 N 14) fun _ => l229 N x3)) else (mb (f183 N) fun _ => l229 N x3)) else (mb (f182 N) fun _ => l229 N x3)) else (mret ())
def l165 (N : Nat) (x1 x2 x3 x4 y0 : Int32) : mM Unit := if y0 = 0 then l176 N x1 x2 x3 x4 else (mb (f161 N) fun _ => l176 N x1 x2 x3 x4)
def l81 (N : Nat) (x1 x2 x3 y0 : Int32) : mM Unit := if x1 = 0 then (if x2 = 0 then (if x3 = 0 then (if y0 < 0 then l165 N x1 x2 x3 y0 1 else (mb (lA 155 20 (16 + y0)) fun v16 => if v16 = 0 then l165 N x1 x2 x3 y0 0 else l165 N x1 x2 x3 y0 1)) else (mb (lA 156 5 4) fun v18 => l165 N x1 x2 x3 y0 v18)) else (mb (lA 145 5 4) fun v20 => if v20 ≠ 8 then l165 N x1 x2 x3 y0 0 else l165 N x1 x2 x3 y0 1)) else (mb (lA 144 5 4) fun v22 => if v22 ≠ 6 then l165 N x1 x2 x3 y0 0 else l165 N x1 x2 x3 y0 1)
theorem f179_eq : f179 N = (mb (f160 N 1802071652) fun v24 => mb (f160 N 7168377) fun v26 => mb (f160 N 1685415283) fun v28 => mb (f160 N 7566701) fun v30 => if v30 = 0 then (mb (f160 N 1700881256) fun v32 => if v32 = 0 then (mb (f160 N 1937006969) fun v34 => if v34 = 0 then (mb (f160 N 121424973488997) fun v36 => if v36 = 0 then (l81 N v24 v26 v28 (-1)) else (l81 N v24 v26 v28 3)) else (l81 N v24 v26 v28 2)) else (l81 N v24 v26 v28 1)) else (l81 N v24 v26 v28 0)) := rfl
theorem q240 {S : ms_S} {σ : Sg} (hN : 1300 ≤ N) (hb : TxB X L) (hm : MS S X L σ) : ∃ S1, l240 N S = some ((), S1) ∧ MS S1 X L (dm X L 59 σ) ∧ offW S S1 ∧ ∀ C w, MW S C w → MW S1 C (upN w) := by
  have i4 : inR (4 : Int32) 5 := ofN_inR (i := 4) (by omega) (by omega)
  have j4 : (4 : Int32).toNatClampNeg = 4 := by decide
  obtain ⟨v, S1, e1, e2, m1, o1⟩ := mustS (N := N) (c := 59) hN hb (by omega) hm
  have e1 : f159 N 59 S = some (v, S) := e1
  have n1 : ∀ {β : Type} {f' : Int32 → mM β}, mb (f159 N 59) f' S = f' v S := by intro β f'; simp only [mb, e1]
  have n2 : ∀ {β : Type} {f' : Unit → mM β}, mb (f162 N v) f' S = f' () S1 := by intro β f'; simp only [mb, e2]
  refine ⟨ms_setA S1 143 4 (ms_A S1 143 4 + 1), ?_, MS_A m1 (by decide), o1.w.tr (offW.wA (by omega)), fun C w h => MW_up (MW_m h o1)⟩
  unfold l240
  rw [n1, n2]
  simp only [mE, i4, j4]
/-- what a line comes to -/
def ResW (f : mM Unit) (S : ms_S) (X : Nat → Int32) (L : Nat) (w' : Cw) : Prop := ∃ S1, f S = some ((), S1) ∧ MS S1 X L (wSg w') ∧ (gd (wSg w') = true → ∃ C1, MW S1 C1 (upN w') ∧ C1 ≤ idx (wSg w') ∧ idx (wSg w') < tkN X L ∧ wU w' ≤ 100) ∧ offW S S1
theorem l165_bad {S : ms_S} {j : Nat} {x1 x2 x3 x4 : Int32} {w : Cw} (hb : TxB X L) (hm : MS S X L (.inr j)) (hj : wSg w = .inr j) : ResW (l165 N x1 x2 x3 x4 1) S X L (rf X L 2 (wSg w), w.2) := by
  obtain ⟨S1, e1, m1, o1, _⟩ := q161 (N := N) hb hm
  have n1 : ∀ {β : Type} {f' : Unit → mM β}, mb (f161 N) f' S = f' () S1 := by intro β f'; simp only [mb, e1]
  refine ⟨S1, ?_, by rw [hj]; exact m1, (fun z => by have z : gd (rf X L 2 (wSg w)) = true := z; rw [gd_rf] at z; cases z), o1.w⟩
  unfold l165
  rw [if_neg (show ¬ ((1 : Int32) = 0) by decide), n1]
  unfold l176
  rw [E155 m1, gd_rf, if_neg (show ¬ (false = true) by decide), if_neg (fun z => z rfl)]
  rfl
theorem l165_go {S : ms_S} {j : Nat} {x1 x2 x3 x4 : Int32} (hN : 1300 ≤ N) (hb : TxB X L) (hm : MS S X L (.inr j)) (h0 : tTy (tkJ X L j) ≠ 0) (h1 : tTy (tkJ X L j) ≠ 1) : ∃ S1, l165 N x1 x2 x3 x4 0 S = (if x1 = 0 then (if x2 = 0 then (if x3 = 0 then (mb (f180 N x4) fun _ => l229 N x3) else (mb (f181 N 14) fun _ => l229 N x3)) else (mb (f183 N) fun _ => l229 N x3)) else (mb (f182 N) fun _ => l229 N x3)) S1 ∧ MS S1 X L (.inr (j + 1)) ∧ offM S S1 := by
  obtain ⟨S1, e1, m1, o1⟩ := qnext (N := N) hN hb hm h0 h1
  have n1 : ∀ {β : Type} {f' : Unit → mM β}, mb (f158 N) f' S = f' () S1 := by intro β f'; simp only [mb, e1]
  refine ⟨S1, ?_, m1, o1⟩
  unfold l165
  rw [if_pos rfl]
  unfold l176
  rw [E155 hm, show gd (.inr j) = true from rfl, if_pos (show true = true from rfl), if_pos (show (1 : Int32) ≠ 0 by decide), n1]
end LNY
