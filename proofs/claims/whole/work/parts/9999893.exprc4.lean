/-! expressions: the class, all levels -/
section EX4
variable {N : Nat} {X : Nat → Int32} {L : Nat} {a st c0 : Nat} {as0 : Int32} {kl : Bool} {kn ln : List (List Int32)}
theorem unitC {n ar : Nat} (hN : 1300 ≤ N) (hb : TxB X L) (oa : o_cv a) (ost : o_st st) (hk6 : kn.length ≤ 6) (hl8 : ln.length ≤ 8) (har : ar ≤ 7) (hD : ar < 7 → DnC N X L a st c0 as0 kl kn ln n 0 (ar + 1)) (q : Px) (S : ms_S) (hin : InT X L q.1) (hr : RC S a st kl kn ln) (hc : CS S X L q.1) (hk : KC S X L a c0 as0 kl q) : ResC (f14 N (f11 N n) (Int32.ofNat ar)) S X L a st c0 as0 kl kn ln (pU X L kl kn ln (pE X L kl kn ln n) ar q) := by
  have ha : a ≠ 6 ∧ a + 1 ≠ 6 ∧ a ≠ 38 ∧ a + 1 ≠ 38 := by rcases oa with rfl | rfl | rfl | rfl | rfl <;> decide
  have htb := sTy_bd hb hc.2.2.1
  have n40 : (Int32.ofNat (sTy X L q.1) = 40) ↔ sTy X L q.1 = 40 := ofN_eq (j := 40) (by omega) (by omega)
  have n108 : (Int32.ofNat (sTy X L q.1) = 108) ↔ sTy X L q.1 = 108 := ofN_eq (j := 108) (by omega) (by omega)
  have n109 : (Int32.ofNat (sTy X L q.1) = 109) ↔ sTy X L q.1 = 109 := ofN_eq (j := 109) (by omega) (by omega)
  have n110 : (Int32.ofNat (sTy X L q.1) = 110) ↔ sTy X L q.1 = 110 := ofN_eq (j := 110) (by omega) (by omega)
  have l6 : (Int32.ofNat ar ≤ 6) ↔ ar ≤ 6 := ofN_le (j := 6) (by omega) (by omega)
  have m15 : ∀ {β : Type} {f' : Int32 → mM β} {S' : ms_S}, mb (f15 N (Int32.ofNat (sTy X L q.1))) f' S' = f' (if bgU (sTy X L q.1) = true then 1 else 0) S' := by intro β f' S'; simp only [mb, q15 (N := N) htb]
  have h4 : ms_I S 38 4 = if kl = true then 1 else 0 := hr.2.2.2.2.2.2.2.2.1
  -- refused
  have refu : ∀ c, (1 ≤ c ∧ c ≤ 6) → ∃ S1, (mb (gRo (isA 6) 38 0) fun _ => mb (f101 N (Int32.ofNat c)) fun _ => mret ()) S = some ((), S1) ∧ CS S1 X L (rf X L c q.1) ∧ RC S1 a st kl kn ln ∧ (gd (rf X L c q.1) = true → CE S1 a c0 as0 kl (rf X L c q.1, q.2)) ∧ offE a S S1 := by
    intro c hcc
    obtain ⟨S1, e1, c1, x1⟩ := q101 (N := N) (c := c) hb hcc hc
    refine ⟨S1, ?_, c1, RC_x oa ost hr x1, (fun hg => by rw [gd_rf] at hg; cases hg), x1.e ha.1 ha.2.1⟩
    rw [EgRo hr.1 isA6]
    simp only [mb, e1]
    rfl
  have r2 := refu 2 (by omega)
  have r6 := refu 6 (by omega)
  -- the tests
  have tst : ∀ (y0 : Int32), y0 = (if sTy X L q.1 = 40 ∧ 7 ≤ ar then 1 else 0) → ∀ (good : mM Unit), (¬ (bgU (sTy X L q.1) = false ∨ (sTy X L q.1 = 40 ∧ 7 ≤ ar) ∨ 100 ≤ q.2.2) → ¬ (kl = true ∧ 108 ≤ sTy X L q.1 ∧ sTy X L q.1 ≤ 110) → ∃ S1, good S = some ((), S1) ∧ CS S1 X L (pU X L kl kn ln (pE X L kl kn ln n) ar q).1 ∧ RC S1 a st kl kn ln ∧ (gd (pU X L kl kn ln (pE X L kl kn ln n) ar q).1 = true → CE S1 a c0 as0 kl (pU X L kl kn ln (pE X L kl kn ln n) ar q)) ∧ offE a S S1) → ∃ S1, (mb (f15 N (Int32.ofNat (sTy X L q.1))) fun v4 => if v4 = 0 then (mb (gRo (isA 6) 38 0) fun _ => mb (f101 N 2) fun _ => mret ()) else (if y0 ≠ 0 then (mb (gRo (isA 6) 38 0) fun _ => mb (f101 N 2) fun _ => mret ()) else (mb (gI 38 3) fun v6 => if v6 < 100 then (mb (gI 38 4) fun v19 => if v19 = 0 then good else (if Int32.ofNat (sTy X L q.1) = 108 then (mb (gRo (isA 6) 38 0) fun _ => mb (f101 N 6) fun _ => mret ()) else (if Int32.ofNat (sTy X L q.1) = 109 then (mb (gRo (isA 6) 38 0) fun _ => mb (f101 N 6) fun _ => mret ()) else (if Int32.ofNat (sTy X L q.1) ≠ 110 then good else (mb (gRo (isA 6) 38 0) fun _ => mb (f101 N 6) fun _ => mret ()))))) else (mb (gRo (isA 6) 38 0) fun _ => mb (f101 N 2) fun _ => mret ())))) S = some ((), S1) ∧ CS S1 X L (pU X L kl kn ln (pE X L kl kn ln n) ar q).1 ∧ RC S1 a st kl kn ln ∧ (gd (pU X L kl kn ln (pE X L kl kn ln n) ar q).1 = true → CE S1 a c0 as0 kl (pU X L kl kn ln (pE X L kl kn ln n) ar q)) ∧ offE a S S1 := by
    intro y0 hy0 good hgood
    have no2 : (bgU (sTy X L q.1) = false ∨ (sTy X L q.1 = 40 ∧ 7 ≤ ar) ∨ 100 ≤ q.2.2) → ∃ S1, (mb (gRo (isA 6) 38 0) fun _ => mb (f101 N 2) fun _ => mret ()) S = some ((), S1) ∧ CS S1 X L (pU X L kl kn ln (pE X L kl kn ln n) ar q).1 ∧ RC S1 a st kl kn ln ∧ (gd (pU X L kl kn ln (pE X L kl kn ln n) ar q).1 = true → CE S1 a c0 as0 kl (pU X L kl kn ln (pE X L kl kn ln n) ar q)) ∧ offE a S S1 := by
      intro hcond
      rw [show pU X L kl kn ln (pE X L kl kn ln n) ar q = (rf X L 2 q.1, q.2) from if_pos hcond]
      exact r2
    rw [m15]
    by_cases hbg : bgU (sTy X L q.1) = true
    · rw [if_pos hbg, if_neg (by decide)]
      by_cases hdeep : sTy X L q.1 = 40 ∧ 7 ≤ ar
      · rw [if_pos hdeep] at hy0
        rw [hy0, if_pos (by decide)]
        exact no2 (Or.inr (Or.inl hdeep))
      · rw [if_neg hdeep] at hy0
        rw [hy0, if_neg (fun z => z rfl)]
        simp only [mE]
        -- the type is no end, so the state is good
        have h0 : sTy X L q.1 ≠ 0 := by have := of_decide_eq_true hbg; omega
        obtain ⟨j, hj, hjl, hj0⟩ := sTy_0 hb hc.2.2.1 h0
        have hg : gd q.1 = true := by rw [hj]; rfl
        obtain ⟨w1, w2, w3⟩ := hk hg
        rw [w1.2.2.1]
        have l100 : (Int32.ofNat q.2.2 < 100) ↔ q.2.2 < 100 := ofN_lt (j := 100) (by omega) (by omega)
        by_cases h100 : 100 ≤ q.2.2
        · rw [if_neg (fun z => by have := l100.1 z; omega)]
          exact no2 (Or.inr (Or.inr h100))
        · rw [if_pos (l100.2 (by omega)), h4]
          have hc1 : ¬ (bgU (sTy X L q.1) = false ∨ (sTy X L q.1 = 40 ∧ 7 ≤ ar) ∨ 100 ≤ q.2.2) := fun z => by
            rcases z with z | z | z
            · rw [hbg] at z; cases z
            · exact hdeep z
            · exact h100 z
          have no6 : (kl = true ∧ 108 ≤ sTy X L q.1 ∧ sTy X L q.1 ≤ 110) → ∃ S1, (mb (gRo (isA 6) 38 0) fun _ => mb (f101 N 6) fun _ => mret ()) S = some ((), S1) ∧ CS S1 X L (pU X L kl kn ln (pE X L kl kn ln n) ar q).1 ∧ RC S1 a st kl kn ln ∧ (gd (pU X L kl kn ln (pE X L kl kn ln n) ar q).1 = true → CE S1 a c0 as0 kl (pU X L kl kn ln (pE X L kl kn ln n) ar q)) ∧ offE a S S1 := by
            intro hcond
            rw [show pU X L kl kn ln (pE X L kl kn ln n) ar q = (rf X L 6 q.1, q.2) by unfold pU; rw [if_neg hc1, if_pos hcond]]
            exact r6
          by_cases hkl : kl = true
          · rw [if_pos hkl, if_neg (by decide)]
            by_cases h8 : sTy X L q.1 = 108
            · rw [if_pos (n108.2 h8)]; exact no6 ⟨hkl, by omega, by omega⟩
            · rw [if_neg (fun z => h8 (n108.1 z))]
              by_cases h9 : sTy X L q.1 = 109
              · rw [if_pos (n109.2 h9)]; exact no6 ⟨hkl, by omega, by omega⟩
              · rw [if_neg (fun z => h9 (n109.1 z))]
                by_cases h10 : sTy X L q.1 = 110
                · rw [if_neg (fun z => z (n110.2 h10))]; exact no6 ⟨hkl, by omega, by omega⟩
                · rw [if_pos (fun z => h10 (n110.1 z))]; exact hgood hc1 (fun z => by omega)
          · rw [if_neg hkl, if_pos rfl]
            exact hgood hc1 (fun z => hkl z.1)
    · rw [if_neg hbg]
      have hbg0 : bgU (sTy X L q.1) = false := by cases h : bgU (sTy X L q.1) with | true => exact absurd h hbg | false => rfl
      exact no2 (Or.inl hbg0)
  unfold ResC f14
  simp only [mE]
  rw [EgRo hr.1 isA6, E98 hb hc]
  have G0 : ∃ g : mM Unit, g = (mb (gI 38 3) fun v8 => mb (pI 38 3 (v8 + 1)) fun _ => if Int32.ofNat (sTy X L q.1) ≠ 40 then (mb (f16 N (Int32.ofNat (sTy X L q.1))) fun _ => mret ()) else (mb (gRo (isA 6) 38 0) fun _ => mb (f100 N) fun _ => mb (f11 N n 0 (Int32.ofNat ar + 1)) fun _ => mb (gRo (isA 6) 38 0) fun _ => mb (f103 N 41) fun _ => mret ())) := ⟨_, rfl⟩
  obtain ⟨g, hg0⟩ := G0
  have gd1 : ¬ (bgU (sTy X L q.1) = false ∨ (sTy X L q.1 = 40 ∧ 7 ≤ ar) ∨ 100 ≤ q.2.2) → ¬ (kl = true ∧ 108 ≤ sTy X L q.1 ∧ sTy X L q.1 ≤ 110) → ∃ S1, g S = some ((), S1) ∧ CS S1 X L (pU X L kl kn ln (pE X L kl kn ln n) ar q).1 ∧ RC S1 a st kl kn ln ∧ (gd (pU X L kl kn ln (pE X L kl kn ln n) ar q).1 = true → CE S1 a c0 as0 kl (pU X L kl kn ln (pE X L kl kn ln n) ar q)) ∧ offE a S S1 := by
    intro hc1 hc2
    have hbg : bgU (sTy X L q.1) = true := by cases h : bgU (sTy X L q.1) with | true => rfl | false => exact absurd (Or.inl h) hc1
    have hu : ¬ 100 ≤ q.2.2 := fun z => hc1 (Or.inr (Or.inr z))
    have h0 : sTy X L q.1 ≠ 0 := by have := of_decide_eq_true hbg; omega
    obtain ⟨j, hj, hjl, hj0⟩ := sTy_0 hb hc.2.2.1 h0
    have hgq : gd q.1 = true := by rw [hj]; rfl
    obtain ⟨w1, w2, w3⟩ := hk hgq
    have Y0 : ∃ Y, Y = ms_setI S 38 3 (Int32.ofNat (q.2.2 + 1)) := ⟨_, rfl⟩
    obtain ⟨Y, hY⟩ := Y0
    have yI : ∀ b i, ¬ (b = 38 ∧ i = 3) → ms_I Y b i = ms_I S b i := fun b i hbi => by rw [hY]; simp only [mG]; rw [if_neg hbi]
    have oY : offE a S Y := ⟨fun i _ => yI 6 i (by omega), fun i hi => yI 38 i (fun z => hi z.2), by rw [hY]; simp only [mGo], fun i _ _ => yI a i (fun z => ha.2.2.1 z.1), fun b _ h2 _ _ => by rw [hY]; exact Eqc_I h2, fun m hm hI => ⟨m, Nat.le_refl _, hm, by rw [yI a 1 (fun z => ha.2.2.1 z.1)]; exact hI, fun i _ => by rw [hY]; simp only [mGo]⟩⟩
    have y3 : ms_I Y 38 3 = Int32.ofNat (q.2.2 + 1) := by rw [hY]; simp [mG]
    have rY := RC_off oa ost hr oY ⟨q.2.2 + 1, by omega, y3⟩
    have cY : CS Y X L q.1 := by rw [hY]; exact CS_I hc (by decide)
    have eY : CE Y a c0 as0 kl (q.1, q.2.1, q.2.2 + 1) := ⟨by rw [yI a 1 (fun z => ha.2.2.1 z.1)]; exact w1.1, fun i hi => by rw [hY]; simp only [mGo]; exact w1.2.1 i hi, y3, by rw [yI a 6 (fun z => ha.2.2.1 z.1)]; exact w1.2.2.2⟩
    have cYj : CS Y X L (.inr j) := by rw [← hj]; exact cY
    have sty : sTy X L q.1 = tTy (tkJ X L j) := by rw [hj]; rfl
    have hlen : c0 + q.2.1.length < 512 := by
      have hn := ntk_bd hb (j := idx q.1) (by have := hin hgq; omega)
      unfold Pot at w2
      omega
    rw [hg0]
    simp only [mE, w1.2.2.1, ofN_s, ← hY]
    by_cases h40 : sTy X L q.1 = 40
    · rw [if_neg (fun z => z (n40.2 h40))]
      have har7 : ar < 7 := by
        rcases Nat.lt_or_ge ar 7 with z | z
        · exact z
        · exact absurd (Or.inr (Or.inl ⟨h40, z⟩)) hc1
      have ep : pU X L kl kn ln (pE X L kl kn ln n) ar q = (dm X L 41 (pE X L kl kn ln n 0 (ar + 1) (nx q.1, q.2.1, q.2.2 + 1)).1, (pE X L kl kn ln n 0 (ar + 1) (nx q.1, q.2.1, q.2.2 + 1)).2) := by
        unfold pU
        rw [if_neg hc1, if_neg hc2, if_pos h40]
      obtain ⟨S1, e1, c1, x1⟩ := q100 (N := N) hb cYj hj0
      have m100 : ∀ {β : Type} {f' : Unit → mM β}, mb (f100 N) f' Y = f' () S1 := by intro β f'; simp only [mb, e1]
      have c1 : CS S1 X L (nx q.1) := by rw [hj]; exact c1
      have r1 := RC_x oa ost rY x1
      have hin1 : InT X L (nx q.1) := inT_nx hb hin h0
      obtain ⟨S2, e2, c2, r2', k2, x2⟩ := hD har7 (nx q.1, q.2.1, q.2.2 + 1) S1 hin1 r1 c1 (fun _ => ⟨CE_off oa eY x1, by
        unfold Pot at *
        show c0 + q.2.1.length + 0 ≤ 2 * (q.2.2 + 1) + ntk X L (idx (nx q.1))
        have := ntk_le (X := X) (L := L) (show idx q.1 ≤ idx (nx q.1) by rw [idx_nx hgq]; omega)
        omega, by show q.2.2 + 1 ≤ 100; omega⟩)
      have m11 : ∀ {β : Type} {f' : Unit → mM β}, mb (f11 N n 0 (Int32.ofNat (ar + 1))) f' S1 = f' () S2 := by intro β f'; have e2 : f11 N n 0 (Int32.ofNat (ar + 1)) S1 = _ := e2; simp only [mb, e2]
      obtain ⟨S3, e3, c3, x3⟩ := q103 (N := N) (ty := 41) hb (by omega) c2
      have m103 : ∀ {β : Type} {f' : Unit → mM β}, mb (f103 N 41) f' S2 = f' () S3 := by intro β f'; have e3 : f103 N 41 S2 = _ := e3; simp only [mb, e3]
      rw [ep]
      refine ⟨S3, ?_, c3, RC_x oa ost r2' x3, fun hg => ?_, ((oY.tr (x1.e ha.1 ha.2.1)).tr x2).tr (x3.e ha.1 ha.2.1)⟩
      · rw [EgRo rY.1 isA6, m100, m11, EgRo r2'.1 isA6, m103]
        rfl
      · exact CE_off oa (k2 (gd_dm hg).1) x3
    · have hne : Int32.ofNat (sTy X L q.1) ≠ 40 := fun z => h40 (n40.1 z)
      rw [if_pos hne]
      have ep : pU X L kl kn ln (pE X L kl kn ln n) ar q = pLf X L kn ln q := by
        unfold pU
        rw [if_neg hc1, if_neg hc2, if_neg h40]
      obtain ⟨S1, e1, c1, r1, k1, x1⟩ := q16 (N := N) (c0 := c0) (as0 := as0) hN hb oa ost hk6 hl8 hj hj0 rY cYj eY hlen
      rw [← sty] at e1
      have m16 : ∀ {β : Type} {f' : Unit → mM β}, mb (f16 N (Int32.ofNat (sTy X L q.1))) f' Y = f' () S1 := by intro β f'; simp only [mb, e1]
      rw [ep]
      exact ⟨S1, by rw [m16]; rfl, c1, r1, k1, oY.tr x1⟩
  by_cases h40 : sTy X L q.1 = 40
  · rw [if_neg (fun z => z (n40.2 h40))]
    by_cases h6 : ar ≤ 6
    · rw [if_pos (l6.2 h6)]
      have := tst 0 (by rw [if_neg (fun z => by omega)]) g gd1
      rw [hg0] at this
      exact this
    · rw [if_neg (fun z => h6 (l6.1 z))]
      have := tst 1 (by rw [if_pos ⟨h40, by omega⟩]) g gd1
      rw [hg0] at this
      exact this
  · have hne : Int32.ofNat (sTy X L q.1) ≠ 40 := fun z => h40 (n40.1 z)
    rw [if_pos hne]
    have := tst 0 (by rw [if_neg (fun z => h40 z.1)]) g gd1
    rw [hg0] at this
    exact this
theorem exC (hN : 1300 ≤ N) (hb : TxB X L) (oa : o_cv a) (ost : o_st st) (hk6 : kn.length ≤ 6) (hl8 : ln.length ≤ 8) : ∀ n lv ar, lv ≤ 5 → ar ≤ 7 → nd lv ar ≤ n → DnC N X L a st c0 as0 kl kn ln n lv ar := by
  have ha : a ≠ 6 ∧ a + 1 ≠ 6 := by rcases oa with rfl | rfl | rfl | rfl | rfl <;> decide
  intro n
  induction n with
  | zero => intro lv ar h1 h2 h3; have := nd_pos h1 h2; omega
  | succ n ih =>
    intro lv ar h1 h2 h3 q S hin hr hc hk
    have htb := sTy_bd hb hc.2.2.1
    unfold ResC
    rw [f11]
    unfold f11b
    by_cases hlv : 5 ≤ lv
    · have e5 : lv = 5 := by omega
      subst e5
      rw [if_neg (by decide)]
      have ep : pE X L kl kn ln (n + 1) 5 ar q = pU X L kl kn ln (pE X L kl kn ln n) ar q := rfl
      rw [ep]
      obtain ⟨S1, e1, r⟩ := unitC (N := N) (a := a) (st := st) (c0 := c0) (as0 := as0) (n := n) hN hb oa ost hk6 hl8 h2 (fun h7 => ih 0 (ar + 1) (by omega) (by omega) (by unfold nd at *; omega)) q S hin hr hc hk
      refine ⟨S1, ?_, r⟩
      simp only [mb, e1]
      rfl
    · rw [if_pos (show Int32.ofNat lv < 5 from (ofN_lt (j := 5) (by omega) (by omega)).2 (by omega))]
      -- no not here
      have go : ¬ (lv = 2 ∧ sTy X L q.1 = 113) → ∃ S1, (mb (f11 N n (Int32.ofNat lv + 1) (Int32.ofNat ar)) fun _ => f11_L44 N (f11 N n) (fun (x1 : Int32) (x2 : Int32) (x3 : Int32) (x4 : Int32) => (mret ())) (fun (x1 : Int32) (x2 : Int32) (x3 : Int32) => (mret ())) N (Int32.ofNat lv) (Int32.ofNat ar) 0) S = some ((), S1) ∧ CS S1 X L (pE X L kl kn ln (n + 1) lv ar q).1 ∧ RC S1 a st kl kn ln ∧ (gd (pE X L kl kn ln (n + 1) lv ar q).1 = true → CE S1 a c0 as0 kl (pE X L kl kn ln (n + 1) lv ar q)) ∧ offE a S S1 := by
        intro hnt
        have ep : pE X L kl kn ln (n + 1) lv ar q = pLp X L (pE X L kl kn ln n) lv ar 1200 (pE X L kl kn ln n (lv + 1) ar q) := by
          show (if 5 ≤ lv then _ else if lv = 2 ∧ sTy X L q.1 = 113 then _ else _) = _
          rw [if_neg hlv, if_neg hnt]
        have hnd1 : nd (lv + 1) ar ≤ n := by unfold nd at *; omega
        obtain ⟨S1, e1, c1, r1, k1, x1⟩ := ih (lv + 1) ar (by omega) h2 hnd1 q S hin hr hc hk
        have m11 : ∀ {β : Type} {f' : Unit → mM β}, mb (f11 N n (Int32.ofNat lv + 1) (Int32.ofNat ar)) f' S = f' () S1 := by intro β f'; rw [ofN_s]; simp only [mb, e1]
        have okR := ok_pE (kl := kl) (kn := kn) (ln := ln) hb hk6 hl8 n (lv + 1) ar q (by omega) h2 hnd1 hin
        have rm := room (c0 := c0) hb okR (fun hg => ⟨(hk hg).2.1, (hk hg).2.2⟩)
        obtain ⟨S2, e2, c2, r2, k2, x2⟩ := lpC (N := N) (a := a) (st := st) (c0 := c0) (as0 := as0) hN hb oa ost hk6 hl8 (by omega) h2 hnd1 (ih (lv + 1) ar (by omega) h2 hnd1) 1200 0 N (pE X L kl kn ln n (lv + 1) ar q) S1 (by omega) (by omega) (fun hg => (okR hg).2.2.1) r1 c1 (fun hg => ⟨k1 hg, (rm hg).2.1, (rm hg).2.2⟩)
        rw [ep]
        refine ⟨S2, ?_, c2, r2, k2, x1.tr x2⟩
        rw [m11]
        exact e2
      simp only [mE]
      by_cases hl2 : lv = 2
      · rw [if_neg (fun z => z (by rw [hl2]; rfl)), EgRo hr.1 isA6, E98 hb hc]
        have n113 : (Int32.ofNat (sTy X L q.1) = 113) ↔ sTy X L q.1 = 113 := ofN_eq (j := 113) (by omega) (by omega)
        by_cases h113 : sTy X L q.1 = 113
        · rw [if_neg (fun z => z (n113.2 h113))]
          have ep : pE X L kl kn ln (n + 1) lv ar q = pNt X L (pE X L kl kn ln n) ar q := by
            show (if 5 ≤ lv then _ else if lv = 2 ∧ sTy X L q.1 = 113 then _ else _) = _
            rw [if_neg hlv, if_pos ⟨hl2, h113⟩]
          rw [ep]
          unfold pNt
          have h0 : sTy X L q.1 ≠ 0 := by omega
          obtain ⟨j, hj, hjl, hj0⟩ := sTy_0 hb hc.2.2.1 h0
          have hc' : CS S X L (.inr j) := by rw [← hj]; exact hc
          have body : ∃ S1, f13 N (f11 N n) (Int32.ofNat ar) S = some ((), S1) ∧ CS S1 X L (pNt X L (pE X L kl kn ln n) ar q).1 ∧ RC S1 a st kl kn ln ∧ (gd (pNt X L (pE X L kl kn ln n) ar q).1 = true → CE S1 a c0 as0 kl (pNt X L (pE X L kl kn ln n) ar q)) ∧ offE a S S1 := by
            unfold f13 pNt
            by_cases h7 : 7 ≤ ar
            · have hn6 : ¬ Int32.ofNat ar ≤ 6 := fun z => by have := (ofN_le (j := 6) (by omega) (by omega)).1 z; omega
              rw [if_neg hn6, if_pos h7, EgRo hr.1 isA6]
              obtain ⟨S1, e1, c1, x1⟩ := q101 (N := N) (c := 2) hb (by omega) hc
              have e1 : f101 N 2 S = _ := e1
              refine ⟨S1, ?_, c1, RC_x oa ost hr x1, (fun hg => by rw [show gd (rf X L 2 q.1) = false from gd_rf] at hg; cases hg), x1.e ha.1 ha.2⟩
              simp only [mb, e1]
              rfl
            · rw [if_pos (show Int32.ofNat ar ≤ 6 from (ofN_le (j := 6) (by omega) (by omega)).2 (by omega)), if_neg h7, EgRo hr.1 isA6]
              obtain ⟨S1, e1, c1, x1⟩ := q100 (N := N) hb hc' hj0
              have m100 : ∀ {β : Type} {f' : Unit → mM β}, mb (f100 N) f' S = f' () S1 := by intro β f'; simp only [mb, e1]
              have c1 : CS S1 X L (nx q.1) := by rw [hj]; exact c1
              have r1 := RC_x oa ost hr x1
              have hin1 : InT X L (nx q.1) := inT_nx hb hin h0
              have hnd1 : nd 2 (ar + 1) ≤ n := by subst hl2; unfold nd at *; omega
              have hk1 : KC S1 X L a c0 as0 kl (nx q.1, q.2) := fun hg => by
                have hg : gd (nx q.1) = true := hg
                rw [gd_nx] at hg
                obtain ⟨w1, w2, w3⟩ := hk hg
                exact ⟨CE_off oa w1 x1, pot_nx w2, w3⟩
              obtain ⟨S2, e2, c2, r2, k2, x2⟩ := ih 2 (ar + 1) (by omega) (by omega) hnd1 (nx q.1, q.2) S1 hin1 r1 c1 hk1
              have m11 : ∀ {β : Type} {f' : Unit → mM β}, mb (f11 N n 2 (Int32.ofNat ar + 1)) f' S1 = f' () S2 := by intro β f'; rw [ofN_s]; have e2 : f11 N n 2 (Int32.ofNat (ar + 1)) S1 = _ := e2; simp only [mb, e2]
              have okR := ok_pE (kl := kl) (kn := kn) (ln := ln) hb hk6 hl8 n 2 (ar + 1) (nx q.1, q.2) (by omega) (by omega) hnd1 hin1
              have rm := room (c0 := c0) hb okR (fun hg => ⟨(hk1 hg).2.1, (hk1 hg).2.2⟩)
              obtain ⟨S3, e3, c3, r3, k3, x3⟩ := emitC (N := N) (X := X) (L := L) (c0 := c0) (as0 := as0) (ty := 113) oa ost (by omega) r2 c2 (fun hg => ⟨k2 hg, (rm hg).1⟩)
              have m2 : ∀ {β : Type} {f' : Unit → mM β}, mb (f2 N a 113 0) f' S2 = f' () S3 := by intro β f'; have e3 : f2 N a 113 0 S2 = _ := e3; simp only [mb, e3]
              refine ⟨S3, ?_, c3, r3, k3, ((x1.e ha.1 ha.2).tr x2).tr x3⟩
              rw [m100, m11, EgRo r2.2.2.1 (isCv_o oa), m2]
              rfl
          obtain ⟨S1, e1, r⟩ := body
          refine ⟨S1, ?_, r⟩
          simp only [mb, e1]
          rfl
        · rw [if_pos (fun z => h113 (n113.1 z))]
          exact go (fun z => h113 z.2)
      · have hne : Int32.ofNat lv ≠ 2 := fun z => hl2 ((ofN_eq (j := 2) (by omega) (by omega)).1 z)
        rw [if_pos hne]
        exact go (fun z => hl2 z.1)
end EX4
