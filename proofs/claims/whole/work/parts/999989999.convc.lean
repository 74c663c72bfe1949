/-! convention: the class, its loop -/
section LC5
variable {N : Nat} {X : Nat → Int32} {L : Nat} {a st : Nat} {ln : List (List Int32)}
theorem CS_eq {S S1 : ms_S} {σ : Sg} (h : CS S X L σ) (h6 : ms_I S1 6 = ms_I S 6) (h8 : ms_A S1 8 = ms_A S 8) (h9 : ms_A S1 9 = ms_A S 9) (h10 : ms_L S1 10 = ms_L S 10) : CS S1 X L σ := by
  obtain ⟨⟨h1, h2⟩, h3, h4, h5⟩ := h
  refine ⟨⟨by rw [h6]; exact h1, fun j hj => by rw [h8, h9, h10]; exact h2 j hj⟩, by rw [h6]; exact h3, h4, ?_⟩
  cases σ with
  | inl e => rw [h6]; exact h5
  | inr j => rw [h6]; exact h5
theorem bSw_eq {a1 a2 n : Nat} {K : Int32 → mM Unit} {x4 v : Int32} : bSw N a1 a2 K n x4 v = (if v = 109 ∨ v = 127 ∨ v = 128 ∨ v = 129 then (mb (gRo (isA 6) 38 0) fun _ => mb (f98 N) fun v23 => mb (f8 N v23) fun _ => b227 N a1 a2 K n x4) else if v = 111 then (mb (f5 N) fun _ => b227 N a1 a2 K n x4) else if v = 123 then (mb (f6 N) fun _ => b227 N a1 a2 K n x4) else if v = 130 then (mb (f9 N) fun _ => b227 N a1 a2 K n x4) else (mb (gRo (isA 6) 38 0) fun _ => mb (f101 N 2) fun _ => b227 N a1 a2 K n x4)) := sw4
theorem lineC {S : ms_S} {w : Cw} {j a1 a2 n : Nat} {K : Int32 → mM Unit} {x4 : Int32} (hN : 1300 ≤ N) (hb : TxB X L) (oa : o_cv a) (ost : o_st st) (hln : ln.length ≤ 8) (hg : CwG X L w) (hj : wSg w = .inr j) (h0 : tTy (tkJ X L j) ≠ 0) (hB : RBc S a st ln) (hc : CS S X L (.inr j)) (hw : CW S a w) : ∃ S1, bLn N a1 a2 K n x4 S = b227 N a1 a2 K n x4 S1 ∧ CS S1 X L (wSg (ln1 X L ln w)) ∧ (gd (wSg (ln1 X L ln w)) = true → CW S1 a (ln1 X L ln w)) ∧ oRv a S S1 := by
  have hgd : gd (wSg w) = true := by rw [hj]; rfl
  have T0 : ∃ ty, ty = tTy (tkJ X L j) := ⟨_, rfl⟩
  obtain ⟨ty, et⟩ := T0
  have eT : sTy X L (.inr j) = ty := by rw [et]; rfl
  have eW : sTy X L (wSg w) = ty := by rw [hj]; exact eT
  have htb := sTy_bd hb hc.2.2.1
  rw [eT] at htb
  have Y0 : ∃ Y, Y = ms_setI S 38 4 (if ty = 111 then 1 else 0) := ⟨_, rfl⟩
  obtain ⟨Y, hY⟩ := Y0
  have cY : CS Y X L (.inr j) := by rw [hY]; exact CS_I hc (by decide)
  have oY : oRv a S Y := by rw [hY]; exact oRv.I (Or.inr rfl) (by decide)
  have bY := RB_o oa ost hB oY
  have wY : CW Y a w := by rw [hY]; exact CW_f oa hw
  have y4 : ms_I Y 38 4 = if ty = 111 then 1 else 0 := by rw [hY]; simp only [mG, and_self, if_true]
  have cc : ∀ k, k < 1000 → ((Int32.ofNat ty = Int32.ofNat k) ↔ ty = k) := fun k hk => ofN_eq (by omega) (by omega)
  have mpZ : ∀ {β : Type} {v : Int32} {f' : Unit → mM β}, (v = 0 ∨ v = 1) → mb (pZ 38 4 v) f' S = f' () (ms_setI S 38 4 v) := by intro β v f' h; simp only [mb, pZ, if_pos h]
  have pre : bLn N a1 a2 K n x4 S = bSw N a1 a2 K n x4 (Int32.ofNat ty) Y := by
    unfold bLn
    rw [EgRo hB.1.1 isA6, E98 hb hc, eT]
    by_cases h11 : ty = 111
    · rw [if_neg (show ¬ (Int32.ofNat ty ≠ 111) from fun z => z ((cc 111 (by omega)).2 h11)), mpZ (Or.inr rfl)]
      rw [if_pos h11] at hY
      rw [← hY, EgRo bY.1.1 isA6, E98 hb cY, eT]
    · rw [if_pos (show Int32.ofNat ty ≠ 111 from fun z => h11 ((cc 111 (by omega)).1 z)), mpZ (Or.inl rfl)]
      rw [if_neg h11] at hY
      rw [← hY, EgRo bY.1.1 isA6, E98 hb cY, eT]
  have fin : ∀ (f : mM Unit) (w' : Cw), bSw N a1 a2 K n x4 (Int32.ofNat ty) Y = (mb f fun _ => b227 N a1 a2 K n x4) Y → ResV f Y X L a w' → ∃ S1, bLn N a1 a2 K n x4 S = b227 N a1 a2 K n x4 S1 ∧ CS S1 X L (wSg w') ∧ (gd (wSg w') = true → CW S1 a w') ∧ oRv a S S1 := by
    intro f w' hf ⟨S1, e1, r1, r2, r3⟩
    refine ⟨S1, ?_, r1, r2, oY.tr r3⟩
    rw [pre, hf]
    simp only [mb, e1]
  have sw : bSw N a1 a2 K n x4 (Int32.ofNat ty) Y = (if Int32.ofNat ty = 109 ∨ Int32.ofNat ty = 127 ∨ Int32.ofNat ty = 128 ∨ Int32.ofNat ty = 129 then (mb (gRo (isA 6) 38 0) fun _ => mb (f98 N) fun v23 => mb (f8 N v23) fun _ => b227 N a1 a2 K n x4) else if Int32.ofNat ty = 111 then (mb (f5 N) fun _ => b227 N a1 a2 K n x4) else if Int32.ofNat ty = 123 then (mb (f6 N) fun _ => b227 N a1 a2 K n x4) else if Int32.ofNat ty = 130 then (mb (f9 N) fun _ => b227 N a1 a2 K n x4) else (mb (gRo (isA 6) 38 0) fun _ => mb (f101 N 2) fun _ => b227 N a1 a2 K n x4)) Y := by rw [bSw_eq]
  have nP : ty ≠ 109 → ty ≠ 127 → ty ≠ 128 → ty ≠ 129 → ¬ (Int32.ofNat ty = 109 ∨ Int32.ofNat ty = 127 ∨ Int32.ofNat ty = 128 ∨ Int32.ofNat ty = 129) := fun h1 h2 h3 h4 z => by
    rcases z with z | z | z | z
    · exact h1 ((cc 109 (by omega)).1 z)
    · exact h2 ((cc 127 (by omega)).1 z)
    · exact h3 ((cc 128 (by omega)).1 z)
    · exact h4 ((cc 129 (by omega)).1 z)
  unfold ln1
  rw [eW]
  by_cases h11 : ty = 111
  · rw [if_pos h11]
    rw [if_neg (nP (by omega) (by omega) (by omega) (by omega)), if_pos (show Int32.ofNat ty = 111 from (cc 111 (by omega)).2 h11)] at sw
    exact fin (f5 N) _ sw (q5 hN hb oa ost hln hg hj h0 (RC_of (kl := true) hb bY wY hg hgd (by rw [y4, if_pos h11, if_pos rfl])) cY wY)
  · have r0 : RC Y a st false (knW w) ln := RC_of (kl := false) hb bY wY hg hgd (by rw [y4, if_neg h11, if_neg (by decide)])
    rw [if_neg h11]
    by_cases h23 : ty = 123
    · rw [if_pos h23]
      rw [if_neg (nP (by omega) (by omega) (by omega) (by omega)), if_neg (show ¬ Int32.ofNat ty = 111 from fun z => h11 ((cc 111 (by omega)).1 z)), if_pos (show Int32.ofNat ty = 123 from (cc 123 (by omega)).2 h23)] at sw
      exact fin (f6 N) _ sw (q6 hN hb oa ost hln hg hj h0 r0 cY wY)
    · rw [if_neg h23]
      have lim : ∀ k t, k < 4 → ty = t → lmT t = k → (Int32.ofNat ty = 109 ∨ Int32.ofNat ty = 127 ∨ Int32.ofNat ty = 128 ∨ Int32.ofNat ty = 129) → ResV (f8 N (Int32.ofNat t)) Y X L a (lLn X L k w) → ∃ S1, bLn N a1 a2 K n x4 S = b227 N a1 a2 K n x4 S1 ∧ CS S1 X L (wSg (if lmT ty < 4 then lLn X L (lmT ty) w else if lmT ty = 4 then dLn X L ln w else (rf X L 2 (wSg w), w.2))) ∧ (gd (wSg (if lmT ty < 4 then lLn X L (lmT ty) w else if lmT ty = 4 then dLn X L ln w else (rf X L 2 (wSg w), w.2))) = true → CW S1 a (if lmT ty < 4 then lLn X L (lmT ty) w else if lmT ty = 4 then dLn X L ln w else (rf X L 2 (wSg w), w.2))) ∧ oRv a S S1 := by
        intro k t hk ht hlm hP hres
        have sw' := sw
        rw [if_pos hP, EgRo bY.1.1 isA6, E98 hb cY, eT] at sw'
        rw [ht, hlm, if_pos hk]
        exact fin (f8 N (Int32.ofNat t)) _ (by rw [sw', ht]) hres
      by_cases h7 : ty = 127
      · exact lim 0 127 (by omega) h7 rfl (Or.inr (Or.inl ((cc 127 (by omega)).2 h7))) (q8 hb oa (by omega) (by decide) ((if_neg (by decide)).trans (if_pos (by decide))) (fun v3 => if_pos (by decide)) hg hj h0 ⟨bY.1.1, bY.1.2.2⟩ cY wY)
      · by_cases h8 : ty = 128
        · exact lim 1 128 (by omega) h8 rfl (Or.inr (Or.inr (Or.inl ((cc 128 (by omega)).2 h8)))) (q8 hb oa (by omega) (by decide) ((if_neg (by decide)).trans (if_pos (by decide))) (fun v3 => (if_neg (by decide)).trans (if_pos (by decide))) hg hj h0 ⟨bY.1.1, bY.1.2.2⟩ cY wY)
        · by_cases h9 : ty = 129
          · exact lim 2 129 (by omega) h9 rfl (Or.inr (Or.inr (Or.inr ((cc 129 (by omega)).2 h9)))) (q8 hb oa (by omega) (by decide) (if_pos (by decide)) (fun v3 => (if_neg (by decide)).trans ((if_neg (by decide)).trans (if_pos (by decide)))) hg hj h0 ⟨bY.1.1, bY.1.2.2⟩ cY wY)
          · by_cases h10 : ty = 109
            · exact lim 3 109 (by omega) h10 rfl (Or.inl ((cc 109 (by omega)).2 h10)) (q8 hb oa (by omega) (by decide) ((if_neg (by decide)).trans (if_neg (fun z => z (by decide)))) (fun v3 => (if_neg (by decide)).trans ((if_neg (by decide)).trans (if_neg (by decide)))) hg hj h0 ⟨bY.1.1, bY.1.2.2⟩ cY wY)
            · rw [if_neg (nP h10 h7 h8 h9), if_neg (show ¬ Int32.ofNat ty = 111 from fun z => h11 ((cc 111 (by omega)).1 z)), if_neg (show ¬ Int32.ofNat ty = 123 from fun z => h23 ((cc 123 (by omega)).1 z))] at sw
              by_cases h30 : ty = 130
              · have hlm : lmT ty = 4 := by rw [h30]; rfl
                rw [hlm, if_neg (by omega), if_pos rfl]
                rw [if_pos (show Int32.ofNat ty = 130 from (cc 130 (by omega)).2 h30)] at sw
                exact fin (f9 N) _ sw (q9 hN hb oa ost hln hg hj h0 r0 cY wY)
              · have hlm : lmT ty = 9 := by unfold lmT; rw [if_neg h7, if_neg h8, if_neg h9, if_neg h10, if_neg h30]
                rw [hlm, if_neg (by omega), if_neg (by omega)]
                rw [if_neg (show ¬ Int32.ofNat ty = 130 from fun z => h30 ((cc 130 (by omega)).1 z)), EgRo bY.1.1 isA6] at sw
                exact fin (f101 N 2) _ sw (refV hb hj cY)
theorem convC {K : Int32 → mM Unit} {a1 a2 : Nat} (hN : 1300 ≤ N) (hb : TxB X L) (oa : o_cv a) (ost : o_st st) (hln : ln.length ≤ 8) : ∀ f i n (w : Cw) (S : ms_S), (gd (wSg w) = true → tkN X L ≤ f + idx (wSg w)) → f < n → (gd (wSg w) = true → i ≤ idx (wSg w)) → i ≤ 1201 → CwG X L w → RBc S a st ln → CS S X L (wSg w) → (gd (wSg w) = true → CW S a w) → ∃ x S1, f4_L35 N a1 a2 K n (Int32.ofNat i) S = K x S1 ∧ CS S1 X L (wSg (cvR X L ln f w)) ∧ (gd (wSg (cvR X L ln f w)) = true → CW S1 a (cvR X L ln f w)) ∧ oRv a S S1 := by
  have hn := tkN_le hb
  have na := cvne oa a (by omega) (by omega)
  have stop : ∀ f w, sTy X L (wSg w) = 0 → cvR X L ln f w = w := by
    intro f w h
    cases f with
    | zero => rfl
    | succ f => exact if_pos h
  have ext : ∀ i n (w : Cw) (S : ms_S), i ≤ 1201 → RBc S a st ln → CS S X L (wSg w) → sTy X L (wSg w) = 0 → f4_L35 N a1 a2 K (n + 1) (Int32.ofNat i) S = K (Int32.ofNat i) S := by
    intro i n w S hi hB hc h0
    rw [f4L_eq]
    by_cases h12 : 1200 ≤ i
    · rw [if_pos (show Int32.ofNat i ≥ 1200 from (ofN_le (i := 1200) (by omega) (by omega)).2 h12)]
    · rw [if_neg (show ¬ Int32.ofNat i ≥ 1200 from fun z => h12 ((ofN_le (i := 1200) (by omega) (by omega)).1 z)), EgRo hB.1.1 isA6, E98 hb hc, h0, if_pos (show Int32.ofNat 0 = 0 from rfl)]
  intro f
  induction f with
  | zero =>
    intro i n w S hf hfn hi hi2 hg hB hc hw
    obtain ⟨n, rfl⟩ : ∃ q, n = q + 1 := ⟨n - 1, by omega⟩
    cases hgd : gd (wSg w) with
    | true =>
      have := hf hgd
      have := (hg.2.2.2 hgd).1.1
      omega
    | false =>
      have h0 : sTy X L (wSg w) = 0 := by
        cases hq : wSg w with
        | inl e => rfl
        | inr j => rw [hq] at hgd; cases hgd
      exact ⟨_, S, ext i n w S hi2 hB hc h0, hc, hw, oRv.rf⟩
  | succ f ih =>
    intro i n w S hf hfn hi hi2 hg hB hc hw
    obtain ⟨n, rfl⟩ : ∃ q, n = q + 1 := ⟨n - 1, by omega⟩
    by_cases h0 : sTy X L (wSg w) = 0
    · rw [stop (f + 1) w h0]
      exact ⟨_, S, ext i n w S hi2 hB hc h0, hc, hw, oRv.rf⟩
    · have hgd : gd (wSg w) = true := by
        cases hq : wSg w with
        | inr j => rfl
        | inl e => rw [hq] at h0; exact absurd rfl h0
      obtain ⟨j, hj⟩ := gdI hgd
      have hf := hf hgd
      have hi := hi hgd
      have hw := hw hgd
      have b1 := (hg.2.2.2 hgd).1.1
      have hjx : idx (wSg w) = j := by rw [hj]; rfl
      rw [hjx] at hf hi b1
      have hcj : CS S X L (.inr j) := by rw [← hj]; exact hc
      have h0j : tTy (tkJ X L j) ≠ 0 := by rw [hj] at h0; exact h0
      have hi12 : ¬ 1200 ≤ i := fun z => h0j ((tkJ_end hb b1).2 (by omega))
      have htb := sTy_bd hb hc.2.2.1
      have head : f4_L35 N a1 a2 K (n + 1) (Int32.ofNat i) S = bLn N a1 a2 K n (Int32.ofNat i) S := by
        rw [f4L_eq, if_neg (show ¬ Int32.ofNat i ≥ 1200 from fun z => hi12 ((ofN_le (i := 1200) (by omega) (by omega)).1 z)), EgRo hB.1.1 isA6, E98 hb hc, if_neg (show ¬ Int32.ofNat (sTy X L (wSg w)) = 0 from fun z => h0 ((ofN_eq (j := 0) (by omega) (by omega)).1 z))]
      obtain ⟨S1, e1, c1, g1, o1⟩ := lineC (N := N) (X := X) (L := L) (a1 := a1) (a2 := a2) (n := n) (K := K) (x4 := Int32.ofNat i) hN hb oa ost hln hg hj h0j hB hcj hw
      obtain ⟨d1, d2⟩ := cwg_1 (ln := ln) hb hln hg hgd h0
      have bS1 := RB_o oa ost hB o1
      have Z0 : ∃ Z, Z = ms_setI S1 a 17 (ms_I S1 a 17 + 1) := ⟨_, rfl⟩
      obtain ⟨Z, hZ⟩ := Z0
      have oZ : oRv a S1 Z := by rw [hZ]; exact oRv.I (Or.inl (by omega)) na.1
      have ec : cvR X L ln (f + 1) w = cvR X L ln f (upN (ln1 X L ln w)) := if_neg h0
      obtain ⟨x, S2, e2, c2, g2, o2⟩ := ih (i + 1) n (upN (ln1 X L ln w)) Z (fun z => by
        have z : gd (wSg (ln1 X L ln w)) = true := z
        have := d2 z
        show tkN X L ≤ f + idx (wSg (ln1 X L ln w))
        omega) (by omega) (fun z => by
        have z : gd (wSg (ln1 X L ln w)) = true := z
        have := d2 z
        show i + 1 ≤ idx (wSg (ln1 X L ln w))
        omega) (by omega) (cwg_up d1) (RB_o oa ost bS1 oZ) (by rw [hZ]; exact CS_I c1 na.1) (fun z => by rw [hZ]; exact CW_up oa (g1 z))
      rw [ec]
      refine ⟨x, S2, ?_, c2, g2, (o1.tr oZ).tr o2⟩
      rw [head, e1]
      unfold b227
      rw [EgRo bS1.1.2.2 (isCv_o oa)]
      simp only [mE, ← hZ, ofN_s]
      exact e2
theorem q4 {S : ms_S} (hN : 1300 ≤ N) (hb : TxB X L) (oa : o_cv a) (ost : o_st st) (hln : ln.length ≤ 8) (hc : CS S X L (.inr 0)) (h7 : ms_I S st 7 = Int32.ofNat ln.length) (hnl : NLc S (st + 5) ln) : ∃ S1, f4 N st a S = some ((), S1) ∧ CS S1 X L (wSg (cvR X L ln (tkN X L) w0)) ∧ (gd (wSg (cvR X L ln (tkN X L) w0)) = true → CW S1 a (cvR X L ln (tkN X L) w0)) ∧ (∀ j, ¬ (5 ≤ j ∧ j ≤ 7) → ms_I S1 6 j = ms_I S 6 j) ∧ ∀ b, b ≠ 6 → b ≠ 38 → ¬ (a ≤ b ∧ b ≤ a + 7) → Eqc S S1 b := by
  have hn := tkN_le hb
  have na := cvne oa a (by omega) (by omega)
  obtain ⟨⟨n1, n2, n3⟩, ⟨n4, n5, n6⟩⟩ := stne oa ost
  have Y0 : ∃ Y, Y = ms_setR (ms_setR (ms_setR S 38 0 (some 6)) 38 1 (some st)) 38 2 (some a) := ⟨_, rfl⟩
  obtain ⟨Y, hY⟩ := Y0
  have EY : ∀ b, b ≠ 38 → Eqc S Y b := fun b h1 => by rw [hY]; exact ((Eqc_R h1).tr (Eqc_R h1)).tr (Eqc_R h1)
  have RY : ms_R Y 38 0 = some 6 ∧ ms_R Y 38 1 = some st ∧ ms_R Y 38 2 = some a := by rw [hY]; simp [mG]
  obtain ⟨S1, e1, k1, o1⟩ := q1 (N := N) (a := a) (S := Y)
  have m1 : ∀ {β : Type} {f' : Unit → mM β}, mb (f1 N a) f' Y = f' () S1 := by intro β f'; simp only [mb, e1]
  have Z0 : ∃ Z, Z = ms_setI (ms_setI S1 38 3 0) 38 5 0 := ⟨_, rfl⟩
  obtain ⟨Z, hZ⟩ := Z0
  have EZ : ∀ b, b ≠ 38 → Eqc S1 Z b := fun b h1 => by rw [hZ]; exact (Eqc_I h1).tr (Eqc_I h1)
  have E : ∀ b, b ≠ 38 → b ≠ a → Eqc S Z b := fun b h1 h2 => ((EY b h1).tr (o1 b h2)).tr (EZ b h1)
  have RZ : ms_R Z 38 = ms_R Y 38 := by rw [hZ]; simp only [mGo]; exact (o1 38 na.2.1.symm).2.2.1
  have cZ : CS Z X L (wSg w0) := CS_eq hc (E 6 (by decide) na.1.symm).1 (E 8 (by decide) na.2.2.1.symm).2.2.2.1 (E 9 (by decide) na.2.2.2.1.symm).2.2.2.1 (E 10 (by decide) na.2.2.2.2.1.symm).2.2.2.2.1
  have bZ : RBc Z a st ln := ⟨⟨by rw [RZ]; exact RY.1, by rw [RZ]; exact RY.2.1, by rw [RZ]; exact RY.2.2⟩, by rw [(E st n2 (by omega)).1]; exact h7, fun i hi => by rw [(E (st + 5) n5 (by omega)).2.2.2.2.1]; exact hnl i hi⟩
  obtain ⟨d1, d5, d6, d10, d11, d12, d13, d14, d15, d16, d17⟩ := k1
  have Ia : ms_I Z a = ms_I S1 a := (EZ a na.2.1).1
  have wZ : CW Z a w0 := by
    unfold CW
    rw [Ia]
    refine ⟨⟨d17, d5, d10, d1⟩, ⟨d11, d12, d13, d14⟩, ⟨?_, ?_, d6⟩, fun i hi => absurd hi (Nat.not_lt_zero i), fun i hi => absurd hi (Nat.not_lt_zero i), fun i hi => absurd hi (Nat.not_lt_zero i), fun i hi => absurd hi (Nat.not_lt_zero i), ⟨0, d15, d16, Nat.le_refl _, fun i hi => absurd hi (Nat.not_lt_zero i)⟩⟩
    · rw [show mskT (wT w0) = 0 by decide, hZ]; simp [mG]
    · rw [show Int32.ofNat (wU w0) = 0 from rfl, hZ]; simp [mG]
  obtain ⟨x, S2, e2, c2, g2, o2⟩ := convC (N := N) (a1 := st) (a2 := a) (K := fun (x4 : Int32) => (mret ())) hN hb oa ost hln (tkN X L) 0 N w0 Z (fun _ => Nat.le_add_right _ _) (by omega) (fun _ => Nat.zero_le _) (by omega) (cwg_0 hb) bZ cZ (fun _ => wZ)
  refine ⟨S2, ?_, c2, g2, fun j hj => by rw [o2.1 j hj, (E 6 (by decide) na.1.symm).1], fun b h1 h2 h3 => (E b h2 (by omega)).tr (o2.2.2 b h1 h2 h3)⟩
  have mpR : ∀ {β : Type} {k v : Nat} {f' : Unit → mM β} {S' : ms_S}, mb (pR 38 k v) f' S' = f' () (ms_setR S' 38 k (some v)) := by intros; rfl
  unfold f4
  rw [mpR, mpR, mpR, ← hY, EgRo RY.2.2 (isCv_o oa), m1]
  simp only [mE, ← hZ]
  exact e2
end LC5
