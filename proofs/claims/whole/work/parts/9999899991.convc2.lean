/-! convention: the class, the call -/
section LC6
variable {N : Nat} {S : ms_S} {A : Ab}
theorem nl5A {S : ms_S} {b : Nat} (hw : WF0 A) (h : ∀ i, i < aN A 2 → ms_L S b i = pk5 (aM A i)) : NLc S b (lnA A) := by
  intro i hi
  rw [lnA_len] at hi
  rw [lnA_get hi, h i hi]
  exact ⟨rfl, lnA_ltw hw hi⟩
theorem cSg_s {S : ms_S} {a C : Nat} {f t : Int32} {l : Cd} (h : cSg S a C f t l) (hC : C ≤ 512) (h1 : ms_I S a 1 = Int32.ofNat C) : cSeg S a f t l := by
  obtain ⟨n, e1, e2, e3, e4⟩ := h
  exact ⟨n, e1, e2, by omega, ⟨C, h1, e3, hC⟩, e4⟩
/-- a convention that has been read, on its shelf -/
theorem cCv_new {S : ms_S} {a s : Nat} {q : Cw} (hs : s < 4) (hw : CW S a q) (hC : ccW q ≤ 512) (hK : (wK q).length ≤ 6) (hM : (wM q).length ≤ 8) : cCvAt S (nCv A s q) a s := by
  obtain ⟨⟨a1, a2, a3, a4⟩, ⟨b1, b2, b3, b4⟩, ⟨c1, c2, c3⟩, d1, d2, d3, d4, d5⟩ := hw
  refine ⟨by rw [nC_50 hs, if_pos rfl]; exact a1, by rw [nC_50 hs, if_neg (by decide)]; exact b1, by rw [nC_50 hs, if_neg (by decide)]; exact b2, by rw [nC_50 hs, if_neg (by decide)]; exact b3, by rw [nC_50 hs, if_neg (by decide)]; exact b4, by rw [nC_10 hs]; exact a2, by rw [nC_20 hs]; exact a3, ?_, fun i hi => ?_, fun i hi => ?_, fun i hi => ?_, ?_⟩
  · rw [nC_10 hs, c3]
    unfold askK
    exact askAll_c _ (fun i hi => (nC_Ek (by omega)).symm)
  · rw [nC_20 hs] at hi
    rw [nC_60 hs]; exact d2 i hi
  · rw [nC_10 hs] at hi
    rw [nC_Ek (by omega)]; exact cSg_s (d3 i hi) hC a4
  · rw [nC_20 hs] at hi
    rw [nC_Em (by omega)]; exact cSg_s (d4 i hi) hC a4
  · rw [nC_Ed]; exact cSg_s d5 hC a4
set_option maxHeartbeats 1000000 in
theorem C_conv {x : Int32} (hN : 1300 ≤ N) (h : cBase S A) (hw : WF0 A) : CP (f113 N x) S A (ansConv A x) (nxtConv A x) := by
  have m143 : ∀ {β : Type} {f' : Int32 → mM β}, mb (f143 N x) f' S = f' (if 0 ≤ x ∧ x < 4 then 1 else 0) S := by intro β f'; simp only [mb, q143]
  by_cases hx : 0 ≤ x ∧ x < 4
  · obtain ⟨s, hs, rfl⟩ := i32_nat (x := x) (n := 4) hx.1 (by omega) hx.2
    have hb := TxB_A hw
    have scl := ofN_cl (i := s) (by omega)
    have sin : inR (Int32.ofNat s) 4 := ofN_inR (by omega) (by omega)
    have hln : (lnA A).length ≤ 8 := by rw [lnA_len]; exact hw.1.2.2.1
    obtain ⟨S1, e1, c1, r1, r4, rR, o1⟩ := q114 (N := N) hN h hw
    have m114 : ∀ {β : Type} {f' : Unit → mM β}, mb (f114 N) f' S = f' () S1 := by intro β f'; simp only [mb, e1]
    have h' := h
    obtain ⟨k1, k2, ⟨st, st2, e3, e4, ho, hst, h9, h10, hl⟩, k4, k5, k6, ⟨p, p1, p2, p3, p4⟩, k8⟩ := h
    have ost : o_st st := by rcases ho with z | z; exact Or.inl z.1; exact Or.inr z.1
    have oa : o_cv (p 4) := p2 4 (by omega)
    have A0 : ∃ a, a = p 4 := ⟨_, rfl⟩
    obtain ⟨a, ha⟩ := A0
    rw [← ha] at oa p1
    have na := cvne oa
    obtain ⟨⟨n1, n2, n3⟩, ⟨n4, n5, n6⟩⟩ := stne oa ost
    have hst0 : st ≠ 4 ∧ st + 5 ≠ 4 ∧ ¬ (8 ≤ st ∧ st ≤ 10) ∧ ¬ (8 ≤ st + 5 ∧ st + 5 ≤ 10) := by rcases ost with rfl | rfl <;> decide
    obtain ⟨S2, e2, c2, w2, i2, o2⟩ := q4 (N := N) (X := aX A 0) (L := aN A 0) (a := a) (st := st) (ln := lnA A) (S := S1) hN hb oa ost hln c1 (by rw [(o1 st hst0.1 n1 hst0.2.2.1).1, lnA_len]; exact hst.2.1) (nl5A hw (fun i hi => by rw [(o1 (st + 5) hst0.2.1 n4 hst0.2.2.2).2.2.2.2.1]; exact hl i hi))
    rw [← cvQ_eq] at c2 w2
    have m4 : ∀ {β : Type} {f' : Unit → mM β}, mb (f4 N st a) f' S1 = f' () S2 := by intro β f'; simp only [mb, e2]
    have hcg : CwG (aX A 0) (aN A 0) (cvQ A) := by rw [cvQ_eq]; exact cwg_R hb hln _ _ (cwg_0 hb)
    have na4 := (na a (by omega) (by omega)).2.2.2.2.2
    have n4a : ¬ (a ≤ 4 ∧ 4 ≤ a + 7) := by rcases oa with z | z | z | z | z <;> omega
    have o24 : Eqc S1 S2 4 := o2 4 (by decide) (by decide) n4a
    have f4 : ∀ j, j ≠ 1 → ms_I S2 4 j = ms_I S 4 j := fun j hj => by rw [o24.1]; exact r4 j hj
    have f41 : ms_I S2 4 1 = 0 := by rw [o24.1]; exact r1
    have fR : ms_R S2 4 = ms_R S 4 := by rw [o24.2.2.1]; exact rR
    have oE : ∀ b, b ≠ 4 → b ≠ 6 → ¬ (8 ≤ b ∧ b ≤ 10) → b ≠ 38 → ¬ (a ≤ b ∧ b ≤ a + 7) → Eqc S S2 b := fun b h1 h2 h3 h4 h5 => (o1 b h1 h2 h3).tr (o2 b h2 h4 h5)
    have hpa : ∀ t, t < 4 → ∀ b, p t ≤ b → b ≤ p t + 7 → Eqc S S2 b := fun t ht b h1 h2 => by
      have hne : p t ≠ a := fun z => by have := p3 t 4 (by omega) (by omega) (z.trans ha); omega
      rcases p2 t (by omega) with q | q | q | q | q <;> rcases oa with z | z | z | z | z <;> exact oE b (by omega) (by omega) (by omega) (by omega) (by omega)
    have a29 : ¬ (a ≤ 29 ∧ 29 ≤ a + 7) := by rcases oa with z | z | z | z | z <;> omega
    have q29 : ∀ t, t < 4 → ms_Q S2 29 t = some (p t) := fun t ht => by rw [(oE 29 (by decide) (by decide) (by decide) (by decide) a29).2.2.2.2.2]; exact (p4 t ht).1
    have pre : f113 N (Int32.ofNat s) S = (mb (gI 6 6) fun v9 => if v9 = 0 then (mb (lQo isCv 29 4 (Int32.ofNat s)) fun r11 => mb (gRo isCv 4 6) fun r13 => mb (sQ 29 4 (Int32.ofNat s) r13) fun _ => mb (pR 4 6 r11) fun _ => mb (gI 4 20) fun v17 => mb (pI 4 20 (v17 + 1)) fun _ => mb (lQo isCv 29 4 (Int32.ofNat s)) fun r20 => mb (gI r20 17) fun v22 => mret v22) else (mret (-1))) S2 := by
      unfold f113
      rw [m143, if_pos hx, if_pos (show (1 : Int32) ≠ 0 by decide), m114, EgRo (by rw [rR]; exact e3) (isSt_o ost), EgRo (by rw [rR]; exact p1) (isCv_o oa), m4]
    have fin : ∀ b, b = 7 ∨ b = 29 ∨ (39 ≤ b ∧ b ≤ 53) ∨ (111 ≤ b ∧ b < 131) → Eqc S S2 b := fun b hb' => by
      rcases oa with z | z | z | z | z <;> exact oE b (by omega) (by omega) (by omega) (by omega) (by omega)
    have fst : ∀ b, st ≤ b → b ≤ st + 6 → Eqc S S2 b := fun b h1 h2 => by
      rcases ost with q | q <;> rcases oa with z | z | z | z | z <;> exact oE b (by omega) (by omega) (by omega) (by omega) (by omega)
    have fkp : ∀ b, 57 ≤ b → (b < 79 ∨ 131 ≤ b) → Eqc S S2 b := fun b h1 h2 => by
      rcases oa with z | z | z | z | z <;> exact oE b (by omega) (by omega) (by omega) (by omega) (by omega)
    unfold CP ansConv nxtConv
    rw [if_pos hx, if_pos hx, pre, scl]
    cases hσ : wSg (cvQ A) with
    | inl e =>
      rw [hσ] at c2
      have c66 : ms_I S2 6 6 = Int32.ofNat e.1 := c2.2.2.2.1
      refine ⟨S2, ?_, ?_, fkp, Or.inl ⟨f4 20 (by decide), core_nBad⟩⟩
      · simp only [mE, c66]
        have hne : ¬ Int32.ofNat e.1 = 0 := fun z => by have := c2.2.2.2.2.1; have := (ofN_eq (j := 0) (by omega) (by omega)).1 z; omega
        rw [if_neg hne]
        rfl
      · refine cBad h' hw f41 (fun j h1 _ => f4 j h1) (fun k _ => by rw [fR]) c66 c2.2.2.2.2.2 (fun a' b ha' h1 h2 => ?_) (fun t a' b ht ha' h1 h2 => ?_) fin
        · rw [e3] at ha'
          have ha' : st = a' := by simpa using ha'
          subst ha'
          exact fst b h1 h2
        · rw [(p4 t ht).1] at ha'
          have ha' : p t = a' := by simpa using ha'
          subst ha'
          exact hpa t ht b h1 h2
    | inr j =>
      rw [hσ] at c2
      have hgq : gd (wSg (cvQ A)) = true := by rw [hσ]; rfl
      have cw := w2 hgq
      obtain ⟨⟨b1, b2, b3⟩, _⟩ := hcg.2.2.2 hgq
      have hnt := ntk_bd hb (j := idx (wSg (cvQ A))) (by omega)
      have c66 : ms_I S2 6 6 = 0 := c2.2.2.2.1
      have c67 : ms_I S2 6 7 = -1 := c2.2.2.2.2
      have Y0 : ∃ Y, Y = ms_setR (ms_setQ S2 29 s (some a)) 4 6 (some (p s)) := ⟨_, rfl⟩
      obtain ⟨Y, hY⟩ := Y0
      have y20 : ms_I Y 4 20 = ms_I S 4 20 := by rw [hY]; simp only [mGo]; exact f4 20 (by decide)
      have W0 : ∃ W, W = ms_setI Y 4 20 (ms_I S 4 20 + 1) := ⟨_, rfl⟩
      obtain ⟨W, hW⟩ := W0
      have wE : ∀ b, b ≠ 4 → b ≠ 29 → Eqc S2 W b := fun b h1 h2 => by rw [hW, hY]; exact ((Eqc_Q h2).tr (Eqc_R h1)).tr (Eqc_I h1)
      have wQ : ∀ t, ms_Q W 29 t = if t = s then some a else ms_Q S2 29 t := fun t => by rw [hW, hY]; simp only [mGo]; simp only [mG, true_and]
      have w46 : ms_R W 4 6 = some (p s) := by rw [hW, hY]; simp only [mGo]; simp only [mG, and_self, if_true]
      have wR : ∀ k, k ≠ 6 → ms_R W 4 k = ms_R S 4 k := fun k hk => by rw [hW, hY]; simp only [mGo]; simp only [mG, true_and, if_neg hk]; simp only [mGo]; rw [fR]
      have wI : ∀ k, k ≠ 20 → ms_I W 4 k = ms_I S2 4 k := fun k hk => by rw [hW, hY]; simp only [mG, true_and, if_neg hk]; simp only [mGo]
      have na29 : ∀ b, a ≤ b → b ≤ a + 7 → b ≠ 4 ∧ b ≠ 29 := fun b h1 h2 => by rcases oa with z | z | z | z | z <;> omega
      have Ea : ∀ b, a ≤ b → b ≤ a + 7 → Eqc S2 W b := fun b h1 h2 => wE b (na29 b h1 h2).1 (na29 b h1 h2).2
      have cvW : cCvAt W (nCv A s (cvQ A)) a s := cCvAt_fr (cCv_new hs cw (by omega) hcg.1 hcg.2.1) Ea
      refine ⟨W, ?_, ?_, fun b h1 h2 => (fkp b h1 h2).tr (wE b (by omega) (by omega)), Or.inr ?_⟩
      · have msQ : ∀ {β : Type} {f' : Unit → mM β} {S' : ms_S}, mb (sQ 29 4 (Int32.ofNat s) a) f' S' = f' () (ms_setQ S' 29 s (some a)) := by
          intro β f' S'
          have hi : mv_in (Int32.ofNat s) 4 := sin
          simp only [mb, sQ, if_pos hi, scl]
        have mpR : ∀ {β : Type} {k v : Nat} {f' : Unit → mM β} {S' : ms_S}, mb (pR 4 k v) f' S' = f' () (ms_setR S' 4 k (some v)) := by intros; rfl
        simp only [mE, c66]
        rw [if_pos trivial, ElQo (r := p s) sin (by rw [scl]; exact q29 s hs) (isCv_o (p2 s (by omega))), EgRo (by rw [fR]; exact p1) (isCv_o oa), msQ, mpR, ← hY]
        simp only [mE, y20, ← hW]
        rw [ElQo (r := a) sin (by rw [scl, wQ, if_pos rfl]) (isCv_o oa)]
        simp only [mE, (Ea a (by omega) (by omega)).1, cw.1.1]
        rfl
      · refine ⟨⟨by rw [wI 1 (by decide)]; exact f41, fun i hi => absurd hi (Nat.not_lt_zero i)⟩, ⟨?_, ?_, ?_, ?_, ?_⟩, cStr_ab (A := A) ?_ (nC_N (by decide) (by omega) (by omega)) (nC_N (by decide) (by omega) (by omega)) (fun q _ _ => nC_X (by omega) (by omega) (by omega)) (nC_40 (by decide) (by decide) hs) rfl, cShip_ab (A := A) (cShip_fr k4 (by rw [wI 9 (by decide), f4 9 (by decide)]) ((fin 39 (by omega)).tr (wE 39 (by decide) (by decide))) (fun b h1 h2 => (fin b (by omega)).tr (wE b (by omega) (by omega))) hw.1.2.2.2.1) (nC_N (by decide) (by omega) (by omega)) (fun q _ _ => nC_X (by omega) (by omega) (by omega)) (nC_X (by decide) (by omega) (by omega)), cDi_ab (A := A) (cDi_fr k5 (fun b h1 h2 => (fin b (by omega)).tr (wE b (by omega) (by omega)))) (nC_N (by decide) (by omega) (by omega)) (fun q _ _ => nC_X (by omega) (by omega) (by omega)), cDi_ab (A := A) (cDi_fr k6 (fun b h1 h2 => (fin b (by omega)).tr (wE b (by omega) (by omega)))) (nC_N (by decide) (by omega) (by omega)) (fun q _ _ => nC_X (by omega) (by omega) (by omega)), ?_, ?_⟩
        · rw [wI 17 (by decide), f4 17 (by decide), k2.1]; exact (nC_40 (by decide) (by decide) hs).symm
        · rw [wI 18 (by decide), f4 18 (by decide), k2.2.1]; exact (nC_40 (by decide) (by decide) hs).symm
        · rw [wI 19 (by decide), f4 19 (by decide), k2.2.2.1]; exact (nC_40 (by decide) (by decide) hs).symm
        · rw [(wE 6 (by decide) (by decide)).1]; exact c66
        · rw [(wE 6 (by decide) (by decide)).1]; exact c67
        · have E' : ∀ b, st ≤ b → b ≤ st + 6 → Eqc S W b := fun b h1 h2 => (fst b h1 h2).tr (by rcases ost with q | q <;> exact wE b (by omega) (by omega))
          exact ⟨st, st2, (wR 3 (by decide)).trans e3, (wR 4 (by decide)).trans e4, ho, cStrAt_fr hst E', by rw [(E' st (by omega) (by omega)).1]; exact h9, by rw [(E' st (by omega) (by omega)).1]; exact h10, by rw [(E' (st + 5) (by omega) (by omega)).2.2.2.2.1]; exact hl⟩
        · refine ⟨fun t => if t = s then a else if t = 4 then p s else p t, ?_, fun t ht => ?_, fun t u ht hu hq => ?_, fun t ht => ?_⟩
          · show _ = some (if 4 = s then a else if 4 = 4 then p s else p 4)
            rw [if_neg (by omega), if_pos rfl]; exact w46
          · show o_cv (if t = s then a else if t = 4 then p s else p t)
            split
            · exact oa
            · split
              · exact p2 s (by omega)
              · exact p2 t ht
          · have hq : (if t = s then a else if t = 4 then p s else p t) = (if u = s then a else if u = 4 then p s else p u) := hq
            have inj : ∀ t u, t < 5 → u < 5 → t ≠ u → p t ≠ p u := fun t u h1 h2 h3 z => h3 (p3 t u h1 h2 z)
            rw [ha] at hq
            by_cases t1 : t = s
            · by_cases u1 : u = s
              · omega
              · rw [if_pos t1, if_neg u1] at hq
                by_cases u2 : u = 4
                · rw [if_pos u2] at hq; exact absurd hq (inj 4 s (by omega) (by omega) (by omega))
                · rw [if_neg u2] at hq; exact absurd hq (inj 4 u (by omega) (by omega) (by omega))
            · rw [if_neg t1] at hq
              by_cases u1 : u = s
              · rw [if_pos u1] at hq
                by_cases t2 : t = 4
                · rw [if_pos t2] at hq; exact absurd hq (inj s 4 (by omega) (by omega) (by omega))
                · rw [if_neg t2] at hq; exact absurd hq (inj t 4 (by omega) (by omega) (by omega))
              · rw [if_neg u1] at hq
                by_cases t2 : t = 4
                · by_cases u2 : u = 4
                  · omega
                  · rw [if_pos t2, if_neg u2] at hq; exact absurd hq (inj s u (by omega) (by omega) (by omega))
                · by_cases u2 : u = 4
                  · rw [if_neg t2, if_pos u2] at hq; exact absurd hq (inj t s (by omega) (by omega) (by omega))
                  · rw [if_neg t2, if_neg u2] at hq; exact p3 t u ht hu hq
          · show ms_Q W 29 t = some (if t = s then a else if t = 4 then p s else p t) ∧ cCvAt W (nCv A s (cvQ A)) (if t = s then a else if t = 4 then p s else p t) t
            rw [wQ]
            by_cases t1 : t = s
            · subst t1
              rw [if_pos rfl, if_pos rfl]
              exact ⟨rfl, cvW⟩
            · rw [if_neg t1, if_neg t1, if_neg (by omega)]
              refine ⟨q29 t ht, cCvAt_ab (cCvAt_fr (p4 t ht).2 (fun b h1 h2 => (hpa t ht b h1 h2).tr (wE b ?_ ?_))) ⟨nC_N (by omega) (by omega) (by omega), nC_N (by omega) (by omega) (by omega)⟩ ⟨nC_X (by omega) (by omega) (by omega), nC_X (by omega) (by omega) (by omega)⟩ (nC_E t1)⟩
              · rcases p2 t (by omega) with q | q | q | q | q <;> omega
              · rcases p2 t (by omega) with q | q | q | q | q <;> omega
        · rw [(wE 7 (by decide) (by decide)).2.2.2.2.1, (fin 7 (by omega)).2.2.2.2.1]; exact k8
      · rw [hW]; simp only [mG, and_self, if_true]
  · unfold CP ansConv nxtConv
    rw [if_neg hx, if_neg hx]
    refine ⟨S, ?_, h, fun b _ _ => Eqc.rf, Or.inl ⟨rfl, rfl⟩⟩
    unfold f113
    rw [m143, if_neg hx, if_neg (fun z => z rfl)]
    rfl
end LC6
