/-! lines of a convention: the reference, kind and may -/
section LNX
variable {N : Nat} {X : Nat → Int32} {L : Nat} {c0 b : Nat} {kl : Bool} {kn ln : List (List Int32)}
theorem iv_R (hb : TxB X L) : ∀ t (m : Mx), IvM X L c0 m → gd (mR X L kl kn ln t m).2.2.1.1 = true → IvM X L c0 (mR X L kl kn ln t m) := by
  intro t
  induction t with
  | zero => intro m h _; exact h
  | succ t ih =>
    intro m h hg
    cases hq : gd (mS X L kl kn ln m).2.2.1.1 with
    | true => exact ih _ (iv_S hb h hq) hg
    | false =>
      have e : mR X L kl kn ln t (mS X L kl kn ln m) = mS X L kl kn ln m := mR_stop (Or.inl hq) t
      have hg : gd (mR X L kl kn ln t (mS X L kl kn ln m)).2.2.1.1 = true := hg
      rw [e, hq] at hg
      cases hg
theorem pE_len {σ : Sg} {u : Nat} (hb : TxB X L) (hk : kn.length ≤ 6) (hln : ln.length ≤ 8) (hin : InT X L σ) (hu : u ≤ 100) (hci : gd σ = true → c0 ≤ idx σ) (hg : gd (dm X L 59 (pE X L kl kn ln 100 0 0 (σ, [], u)).1) = true) : c0 + (pE X L kl kn ln 100 0 0 (σ, [], u)).2.1.length ≤ idx (dm X L 59 (pE X L kl kn ln 100 0 0 (σ, [], u)).1) ∧ (pE X L kl kn ln 100 0 0 (σ, [], u)).2.2 ≤ 100 ∧ idx (dm X L 59 (pE X L kl kn ln 100 0 0 (σ, [], u)).1) < tkN X L := by
  have okR := ok_pE (kl := kl) (kn := kn) (ln := ln) hb hk hln 100 0 0 (σ, [], u) (by omega) (by omega) (by decide) hin
  have sim0 := sim_all (kl := kl) (kn := kn) (ln := ln) hb hk hln 100 0 0 (by omega) (by omega) (by decide) (σ, [], u) [(8, 0)]
  have R0 : ∃ r, r = pE X L kl kn ln 100 0 0 (σ, [], u) := ⟨_, rfl⟩
  obtain ⟨r, hr⟩ := R0
  rw [← hr] at okR sim0 hg ⊢
  obtain ⟨d1, d2, d3⟩ := gd_dm hg
  obtain ⟨k1, k2, k3, k4, _, _⟩ := okR d1
  have k1 : gd σ = true := k1
  have sim := sim0 k1 hin hu (by simp) (Or.inr (by show 7 ≤ 8; omega)) (fun z => absurd z (by omega))
  obtain ⟨j, rfl⟩ := gdI k1
  have hci : c0 ≤ j := hci k1
  have iv0 : IvM X L c0 (true, [(8, 0)], (.inr j, [], u), 0) := ⟨⟨fun _ => rfl, fun z => absurd rfl z, trivial⟩, rfl, by show 0 ≤ 7; omega, hu, fun _ => ⟨hin rfl, by show c0 + 0 + 1 ≤ j + 1; omega⟩⟩
  obtain ⟨t, t1, p, c, e2, ec, hp, hnx⟩ := sim.1 d1
  have mm : mR X L kl kn ln (t + 1) (true, [(8, 0)], (.inr j, [], u), 0) = mB X L (p ++ [(8, 0)]) (r.1, c, r.2.2) (0 + ntE p) := by
    rw [mR_add, e2]
    exact mS_b (q := (r.1, c, r.2.2)) d1 (app_ne (by simp))
  have t59 : sTy X L r.1 = 59 := of_decide_eq_true d2
  have h4 : ¬ (rkT (sTy X L r.1) = 4 ∧ cmpd (p ++ [(8, 0)]) = true) := fun z => rk_59 z.1 t59
  have hr0 : ¬ 0 < rkT (sTy X L r.1) := by rw [t59]; decide
  have hred : redu 0 (p ++ [(8, 0)]) c (0 + ntE p) = ([(8, 0)], r.2.1, 0) := by
    rw [redu_all p [(8, 0)] c (0 + ntE p) (fun e he => ⟨Nat.zero_le _, (hp e he).2⟩) (fun z => absurd z.1 (by show ¬ 8 ≤ 6; omega)) (by omega), ← ec]
    rw [show 0 + ntE p - ntE p = 0 by omega]
  have em2 : mB X L (p ++ [(8, 0)]) (r.1, c, r.2.2) (0 + ntE p) = (false, [], (r.1, r.2.1, r.2.2), 0) := by
    show (if rkT (sTy X L r.1) = 4 ∧ cmpd (p ++ [(8, 0)]) = true then _ else if 0 < rkT (sTy X L r.1) then _ else _) = _
    rw [if_neg h4, if_neg hr0]
    show (match (redu 0 (p ++ [(8, 0)]) c (0 + ntE p)).1 with
      | [] => _
      | e :: s => if e.1 = 7 then _ else (false, s, (r.1, (redu 0 (p ++ [(8, 0)]) c (0 + ntE p)).2.1, r.2.2), (redu 0 (p ++ [(8, 0)]) c (0 + ntE p)).2.2)) = _
    rw [hred]
    rfl
  have iv := iv_R (kl := kl) (kn := kn) (ln := ln) hb (t + 1) _ iv0 (by rw [mm, em2]; exact d1)
  rw [mm, em2] at iv
  have i2 : c0 + r.2.1.length + 0 ≤ idx r.1 + 1 := (iv.2.2.2.2 d1).2
  have i3 := idx_dm hg
  exact ⟨by omega, k4 hu, inT_dm hb (fun _ => k3) (by decide) hg⟩
/-- names of kinds, as the reference has them -/
theorem NK_of {S : ms_S} {C : Nat} {w : Cw} (h : MW S C w) (hn : NB S b ln) : NK S b (knW w) ln := by
  have hl : (knW w).length = (wK w).length := by unfold knW; rw [List.length_map]
  refine ⟨by rw [hl]; exact h.1.2.1, fun i hi => ?_, hn.1, hn.2.1, hn.2.2⟩
  rw [hl] at hi
  have e : (knW w).getD i [] = ((wK w).getD i ([], [])).1 := by
    unfold knW
    rw [List.getD_eq_getElem?_getD, List.getD_eq_getElem?_getD, List.getElem?_map, List.getElem?_eq_getElem hi]
    rfl
  rw [e]
  exact h.2.2.2.2.1 i hi
def k69 (N : Nat) (x1 y1 : Int32) : mM Unit := mb (f162 N y1) fun _ => mb (f160 N 26995) fun v2 => mb (f162 N v2) fun _ => mb (f181 N x1) fun _ => mb (lA 144 5 4) fun v6 => mb (sA 144 5 4 (v6 + 1)) fun _ => mret ()
def k42 (N : Nat) (x1 : Int32) : mM Unit := mb (gJ 131 10) fun v9 => mb (sL 157 30 (24 + x1) v9) fun _ => mb (gI 131 8) fun v12 => if v12 ≠ 2 then k69 N x1 0 else k69 N x1 1
theorem f182_eq : f182 N = (mb (lA 144 5 4) fun v14 => mb (f155 N) fun v16 => if v16 = 0 then k42 N v14 else (mb (gI 131 8) fun v18 => if v18 ≠ 2 then k42 N v14 else (mb (gJ 131 10) fun v20 => mb (f184 N v20) fun v22 => if v22 < 0 then k42 N v14 else (mb (gI 131 6) fun v24 => mb (f154 N 3 v24) fun _ => k42 N v14)))) := rfl
/-- what a line with an expression comes to -/
def ResL (f : mM Unit) (S : ms_S) (X : Nat → Int32) (L C : Nat) (r : Px) (g : Cd → Nat → Sg → Cw) : Prop := ∃ σ1 S1, f S = some ((), S1) ∧ MS S1 X L σ1 ∧ dm X L 59 σ1 = dm X L 59 r.1 ∧ (gd σ1 = true → σ1 = r.1 ∧ ∀ σ', MW S1 (C + r.2.1.length) (g r.2.1 r.2.2 σ')) ∧ offW S S1
theorem k42_ok {S : ms_S} {w : Cw} {C j : Nat} {σa : Sg} (hN : 1300 ≤ N) (hb : TxB X L) (hb2 : b < 2) (hln : ln.length ≤ 8) (hnb : NB S b ln) (hw : MW S C w) (h6 : (wK w).length < 6) (hu : wU w ≤ 100) (hjl : j < tkN X L) (htk : TkM S (tkJ X L j)) (hm : MS S X L σa) (hs : σa = .inr j ∨ gd σa = false) (hC : C ≤ j) (hdm : dm X L 2 σa = nwN X L (knW w) (.inr j)) : ResL (k42 N (Int32.ofNat (wK w).length)) S X L C (pE X L true (knW w) ln 100 0 0 (dm X L 122 (nwN X L (knW w) (.inr j)), [], wU w)) (fun cd u' σ' => (σ', (wK w ++ [(nmV X L (.inr j), cd)], wM w), (wL w, wD w), wT w, u', wN w)) := by
  have hl : (knW w).length = (wK w).length := by unfold knW; rw [List.length_map]
  have e24 : 24 + Int32.ofNat (wK w).length = Int32.ofNat (24 + (wK w).length) := by rw [show (24 : Int32) = Int32.ofNat 24 from rfl, ofN_add]
  have i1 : inR (Int32.ofNat (24 + (wK w).length)) 30 := ofN_inR (by omega) (by omega)
  have i2 := ofN_cl (i := 24 + (wK w).length) (by omega)
  have i4 : inR (4 : Int32) 5 := ofN_inR (i := 4) (by omega) (by omega)
  have j4 : (4 : Int32).toNatClampNeg = 4 := by decide
  have Y0 : ∃ Y, Y = ms_setL S 157 (24 + (wK w).length) (ms_J S 131 10) := ⟨_, rfl⟩
  obtain ⟨Y, hY⟩ := Y0
  have mY : MS Y X L σa := by rw [hY]; exact MS_L hm
  have wY : MW Y C w := by rw [hY]; exact MW_nm hw
  have oY : offW S Y := by rw [hY]; exact offW.wL
  have y8 : ms_I Y 131 8 = clsT (tTy (tkJ X L j)) := by rw [hY]; simp only [mGo]; exact htk.2.2.1
  have y157 : ms_L Y 157 (24 + (wK w).length) = ms_J S 131 10 := by rw [hY]; simp only [mG, and_self, if_true]
  have V0 : ∃ v : Int32, v = if tTy (tkJ X L j) = 2 then 1 else 0 := ⟨_, rfl⟩
  obtain ⟨v, hv⟩ := V0
  have pre : k42 N (Int32.ofNat (wK w).length) S = k69 N (Int32.ofNat (wK w).length) v Y := by
    unfold k42
    simp only [mE, mF, e24, i1, i2, ← hY, y8]
    by_cases h2 : tTy (tkJ X L j) = 2
    · rw [if_neg (fun z => z (clsT_v.2.2.1.2 h2)), hv, if_pos h2]
    · rw [if_pos (fun z => h2 (clsT_v.2.2.1.1 z)), hv, if_neg h2]
  obtain ⟨S1, e1, m1, o1⟩ := q162 (N := N) (ty := 2) (v := v) hN hb mY (by omega) (fun j' hj' => by
    rcases hs with z | z
    · rw [z] at hj'
      have : j = j' := by simpa using hj'
      rw [← this]; exact hv
    · rw [hj'] at z; cases z)
  rw [hdm] at m1
  obtain ⟨v2, S2, e2, e3, m2, o2⟩ := mustW (N := N) (i := 22) hN hb (by omega) m1
  have e2 : f160 N 26995 S1 = some (v2, S1) := e2
  have m2 : MS S2 X L (dm X L 122 (nwN X L (knW w) (.inr j))) := m2
  have w2 : MW S2 C w := MW_m wY (o1.tr o2)
  have b2 : NB S2 b ln := NB_w hnb (oY.tr (o1.tr o2).w)
  have hin0 : InT X L (.inr j) := fun _ => hjl
  have hci : gd (dm X L 122 (nwN X L (knW w) (.inr j))) = true → C ≤ idx (dm X L 122 (nwN X L (knW w) (.inr j))) := fun hg => by
    have := idx_dm hg
    obtain ⟨q1, q2, q3⟩ := gd_dm hg
    have q4 : nwN X L (knW w) (.inr j) = .inr (j + 1) := by
      unfold nwN at q1 ⊢
      split at q1
      · rename_i ht
        rw [if_pos ht]
        split at q1
        · rename_i hx; rw [if_pos hx]; rfl
        · rw [gd_rf] at q1; cases q1
      · rw [gd_rf] at q1; cases q1
    rw [q4] at this
    have this : idx (dm X L 122 (nwN X L (knW w) (.inr j))) = j + 1 + 1 := by rw [q4]; exact this
    omega
  obtain ⟨σ1, S3, e4, m3, d3, g3, o3⟩ := q181 (N := N) (kl := true) (line := (wK w).length) (c0 := C) (u := wU w) hN hb hb2 (NK_of w2 b2) (by omega) hln (by omega) (decide_eq_true h6).symm m2 hu hci w2.2.2.2.2.2.1.1 w2.2.2.2.2.2.1.2
  refine ⟨σ1, ms_setA S3 144 4 (ms_A S3 144 4 + 1), ?_, MS_A m3 (by decide), d3, fun hg => ?_, ((oY.tr (o1.tr o2).w).tr o3.w').tr (offW.wA (by omega))⟩
  · rw [pre]
    unfold k69
    have n1 : ∀ {β : Type} {f' : Unit → mM β}, mb (f162 N v) f' Y = f' () S1 := by intro β f'; simp only [mb, e1]
    have n2 : ∀ {β : Type} {f' : Int32 → mM β}, mb (f160 N 26995) f' S1 = f' v2 S1 := by intro β f'; simp only [mb, e2]
    have n3 : ∀ {β : Type} {f' : Unit → mM β}, mb (f162 N v2) f' S1 = f' () S2 := by intro β f'; simp only [mb, e3]
    have n4 : ∀ {β : Type} {f' : Unit → mM β}, mb (f181 N (Int32.ofNat (wK w).length)) f' S2 = f' () S3 := by intro β f'; simp only [mb, e4]
    rw [n1, n2, n3, n4]
    simp only [mE, i4, j4]
  · obtain ⟨g4, g5, g6, g7⟩ := g3 hg
    refine ⟨g4, fun σ' => ?_⟩
    -- the name
    have hgn : gd (nwN X L (knW w) (.inr j)) = true := by
      have a1 : gd (dm X L 122 (nwN X L (knW w) (.inr j))) = true := by
        cases hq : gd (dm X L 122 (nwN X L (knW w) (.inr j))) with
        | true => rfl
        | false =>
          have := pE_bad (X := X) (L := L) (kl := true) (kn := knW w) (ln := ln) 100 0 0 (dm X L 122 (nwN X L (knW w) (.inr j)), [], wU w) hq
          rw [g4, this] at hg
          have hg : gd (dm X L 122 (nwN X L (knW w) (.inr j))) = true := hg
          rw [hq] at hg; cases hg
      exact (gd_dm a1).1
    have t2 : tTy (tkJ X L j) = 2 := by
      unfold nwN at hgn
      split at hgn
      · rename_i ht; exact of_decide_eq_true ht
      · rw [gd_rf] at hgn; cases hgn
    have hnm : ms_L S2 157 (24 + (wK w).length) = pk8 (nmV X L (.inr j)) := by
      rw [((o1.tr o2).2 157 (by decide)).2.2.2.2.1, y157]
      exact htk.2.2.2.2 (Or.inl t2)
    exact MW_kind w2 h6 hnm (nm_ltw hb hjl (Or.inl t2)).1 o3 g5 g6 g7
theorem q182 {S : ms_S} {w : Cw} {C j : Nat} (hN : 1300 ≤ N) (hb : TxB X L) (hb2 : b < 2) (hln : ln.length ≤ 8) (hnb : NB S b ln) (hw : MW S C w) (h6 : (wK w).length < 6) (hu : wU w ≤ 100) (hm : MS S X L (.inr j)) (hC : C ≤ j) : ResL (f182 N) S X L C (pE X L true (knW w) ln 100 0 0 (dm X L 122 (nwN X L (knW w) (.inr j)), [], wU w)) (fun cd u' σ' => (σ', (wK w ++ [(nmV X L (.inr j), cd)], wM w), (wL w, wD w), wT w, u', wN w)) := by
  have hl : (knW w).length = (wK w).length := by unfold knW; rw [List.length_map]
  have i4 : inR (4 : Int32) 5 := ofN_inR (i := 4) (by omega) (by omega)
  have j4 : (4 : Int32).toNatClampNeg = 4 := by decide
  have hjl : j < tkN X L := hm.2.1
  have htk : TkM S (tkJ X L j) := hm.2.2.1
  have pre : f182 N S = (if clsT (tTy (tkJ X L j)) ≠ 2 then k42 N (Int32.ofNat (wK w).length) else (mb (gJ 131 10) fun v20 => mb (f184 N v20) fun v22 => if v22 < 0 then k42 N (Int32.ofNat (wK w).length) else (mb (gI 131 6) fun v24 => mb (f154 N 3 v24) fun _ => k42 N (Int32.ofNat (wK w).length)))) S := by
    rw [f182_eq]
    simp only [mE, i4, j4, hw.1.2.1]
    rw [E155 hm, show gd (.inr j) = true from rfl, if_pos (show true = true from rfl), if_neg (show ¬ ((1 : Int32) = 0) by decide)]
    simp only [mE, htk.2.2.1]
  by_cases h2 : tTy (tkJ X L j) = 2
  · have hT : isT X L 2 (.inr j) = true := decide_eq_true h2
    have enm : ms_J S 131 10 = pk8 (nmV X L (.inr j)) := htk.2.2.2.2 (Or.inl h2)
    have hlt : ltw (nmV X L (.inr j)) := (nm_ltw hb hjl (Or.inl h2)).1
    have m184 : ∀ {β : Type} {f' : Int32 → mM β}, mb (f184 N (pk8 (nmV X L (.inr j)))) f' S = f' (optI (ixN (knW w) (nmV X L (.inr j)))) S := by intro β f'; simp only [mb, q184 (N := N) (by omega) (NK_of hw hnb) (by omega) hlt]
    rw [if_neg (fun z => z (clsT_v.2.2.1.2 h2))] at pre
    have pre2 : f182 N S = (if optI (ixN (knW w) (nmV X L (.inr j))) < 0 then k42 N (Int32.ofNat (wK w).length) else (mb (gI 131 6) fun v24 => mb (f154 N 3 v24) fun _ => k42 N (Int32.ofNat (wK w).length))) S := by
      rw [pre]
      simp only [mF, enm]
      rw [m184]
    cases hx : ixN (knW w) (nmV X L (.inr j)) with
    | none =>
      rw [hx] at pre2
      rw [if_pos (show optI none < 0 by decide)] at pre2
      obtain ⟨σ1, S1, e1, r⟩ := k42_ok (N := N) (b := b) (ln := ln) hN hb hb2 hln hnb hw h6 hu hjl htk hm (Or.inl rfl) hC (by unfold dm nwN; rw [if_pos hT, if_pos hT, if_pos hx])
      exact ⟨σ1, S1, by rw [pre2]; exact e1, r⟩
    | some i =>
      have hi : i < 9 := by have := (fnd_some _ _ _ hx).2.1; omega
      rw [hx] at pre2
      rw [if_neg (show ¬ optI (some i) < 0 from ofN_nl (i := i) (by omega))] at pre2
      obtain ⟨S1, e1, m1, o1, t1⟩ := q154 (N := N) (c := 3) (p := tAt (tkJ X L j)) hb (by omega) hm
      have er : rf X L 3 (.inr j) = fa 3 (tAt (tkJ X L j)) (.inr j) := by
        show Sum.inl _ = Sum.inl _
        rw [if_neg (by omega)]
      rw [← er] at m1
      have e1 : f154 N 3 (Int32.ofNat (tAt (tkJ X L j))) S = _ := e1
      have m154 : ∀ {β : Type} {f' : Unit → mM β}, mb (f154 N 3 (Int32.ofNat (tAt (tkJ X L j)))) f' S = f' () S1 := by intro β f'; simp only [mb, e1]
      obtain ⟨σ1, S2, e2, r1, r2, r3, r4⟩ := k42_ok (N := N) (b := b) (ln := ln) hN hb hb2 hln (NB_w hnb o1.w) (MW_m hw o1) h6 hu hjl (t1 _ htk) m1 (Or.inr gd_rf) hC (by rw [dm_bad gd_rf]; unfold nwN; rw [if_pos hT, if_neg (by rw [hx]; exact fun z => by cases z)])
      refine ⟨σ1, S2, ?_, r1, r2, r3, o1.w.tr r4⟩
      rw [pre2]
      simp only [mE, htk.1]
      rw [m154]
      exact e2
  · have hT : ¬ isT X L 2 (.inr j) = true := fun z => h2 (of_decide_eq_true z)
    rw [if_pos (fun z => h2 (clsT_v.2.2.1.1 z))] at pre
    obtain ⟨σ1, S1, e1, r⟩ := k42_ok (N := N) (b := b) (ln := ln) hN hb hb2 hln hnb hw h6 hu hjl htk hm (Or.inl rfl) hC (by unfold dm nwN; rw [if_neg hT, if_neg hT])
    exact ⟨σ1, S1, by rw [pre]; exact e1, r⟩
end LNX
