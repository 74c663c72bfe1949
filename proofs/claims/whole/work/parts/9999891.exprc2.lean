/-! expressions: the class, leaves and units -/
theorem ask0 : ∀ k : Fin 11, decide ((1 : Int32) <<< ((Int32.ofNat (100 + k.1) - 100) &&& 31) = 1 <<< Int32.ofNat k.1) = true := by decide +kernel
theorem ask1 {ty : Nat} (h1 : 100 ≤ ty) (h2 : ty < 111) : (1 : Int32) <<< ((Int32.ofNat ty - 100) &&& 31) = 1 <<< Int32.ofNat (ty - 100) := by
  have := of_decide_eq_true (ask0 ⟨ty - 100, by omega⟩)
  simp only [show 100 + (ty - 100) = ty by omega] at this
  exact this
section EX2
variable {N : Nat} {X : Nat → Int32} {L : Nat} {a st c0 : Nat} {as0 : Int32} {kl : Bool} {kn ln : List (List Int32)}
theorem isA6 : (isA 6) 6 = true := by decide
theorem q99 {S : ms_S} {σ : Sg} (hb : TxB X L) (h : CS S X L σ) : ∃ v, f99 N S = some (v, S) ∧ ∀ j, σ = .inr j → tTy (tkJ X L j) = 3 → Int64.toInt32 v = tNu (tkJ X L j) := by
  have hn := tkN_le hb
  obtain ⟨h1, h2, h3, _⟩ := h
  have i1 : inR (Int32.ofNat (cAt X L σ)) 1201 := ofN_inR (by omega) (by omega)
  have i2 := ofN_cl (i := cAt X L σ) (by omega)
  refine ⟨ms_L S 10 (cAt X L σ), ?_, fun j hj h3' => ?_⟩
  · unfold f99
    simp only [mE, mF, h2, i1, i2]
  · subst hj
    have := (h1.2 _ h3).2.2.1 h3'
    show Int64.toInt32 (ms_L S 10 j) = _
    have this : ms_L S 10 j = Int32.toInt64 (tNu (tkJ X L j)) := this
    rw [this, i64i32]
/-- behind the number of a leaf -/
theorem leafE {S : ms_S} {q : Px} {ty : Nat} {v : Int32} {σ' : Sg} (oa : o_cv a) (ost : o_st st) (hty : ty < 1000) (hr : RC S a st kl kn ln) (h : CS S X L σ') (hc : CE S a c0 as0 kl (q.1, q.2.1, q.2.2 + 1)) (hlen : c0 + q.2.1.length < 512) : ∃ S1, (mb (gRo isCv 38 2) fun r1 => mb (f2 N r1 (Int32.ofNat ty) v) fun _ => mb (gI 38 4) fun v4 => if v4 = 0 then mret () else (if Int32.ofNat ty < 100 then mret () else (if Int32.ofNat ty ≥ 111 then mret () else (mb (gRo isCv 38 2) fun r6 => mb (gI r6 6) fun v8 => mb (pI r6 6 (v8 ||| (1 <<< ((Int32.ofNat ty - 100) &&& 31)))) fun _ => mret ())))) S = some ((), S1) ∧ CS S1 X L σ' ∧ RC S1 a st kl kn ln ∧ CE S1 a c0 as0 kl (σ', q.2.1 ++ [(ty, v)], q.2.2 + 1) ∧ offE a S S1 := by
  have ha : a ≠ 6 ∧ a + 1 ≠ 6 ∧ a ≠ 38 := by rcases oa with rfl | rfl | rfl | rfl | rfl <;> decide
  obtain ⟨S1, e1, c1, o1, k38, k6, k1⟩ := q2 (N := N) (X := X) (L := L) (ty := ty) (v := v) oa h hr.2.2.2.1
  have m2 : ∀ {β : Type} {f' : Unit → mM β}, mb (f2 N a (Int32.ofNat ty) v) f' S = f' () S1 := by intro β f'; simp only [mb, e1]
  obtain ⟨kI, kA⟩ := k1 (c0 + q.2.1.length) hlen hc.1
  have r2 : ms_R S1 38 2 = some a := by rw [o1.2.2.1]; exact hr.2.2.1
  have hu : ms_I S1 38 3 = Int32.ofNat (q.2.2 + 1) := by rw [k38]; exact hc.2.2.1
  have hru : ∃ u, u ≤ 100 ∧ ms_I S1 38 3 = Int32.ofNat u := by rw [k38]; exact hr.2.2.2.2.2.2.2.2.2
  have h4 : ms_I S1 38 4 = if kl = true then 1 else 0 := by rw [k38]; exact hr.2.2.2.2.2.2.2.2.1
  have h6 : ms_I S1 a 6 = if kl = true then as0 ||| askOf q.2.1 else as0 := by rw [k6]; exact hc.2.2.2
  rw [EgRo hr.2.2.1 (isCv_o oa), m2]
  simp only [mE, h4]
  by_cases hk : kl = true
  · rw [if_pos hk] at h6 ⊢
    rw [if_neg (by decide)]
    by_cases h100 : ty < 100
    · rw [if_pos (show Int32.ofNat ty < 100 from (ofN_lt (j := 100) (by omega) (by omega)).2 h100)]
      refine ⟨S1, rfl, c1, RC_off oa ost hr o1 hru, CE_app (q := (q.1, q.2.1, q.2.2 + 1)) hc o1 hlen kI kA hu ?_, o1⟩
      rw [if_pos hk, askOf_app, if_neg (by show ¬ (100 ≤ ty ∧ ty < 111); omega)]
      exact h6
    · rw [if_neg (show ¬ Int32.ofNat ty < 100 from fun z => h100 ((ofN_lt (j := 100) (by omega) (by omega)).1 z))]
      by_cases h111 : 111 ≤ ty
      · rw [if_pos (show Int32.ofNat ty ≥ 111 from (ofN_le (i := 111) (by omega) (by omega)).2 h111)]
        refine ⟨S1, rfl, c1, RC_off oa ost hr o1 hru, CE_app (q := (q.1, q.2.1, q.2.2 + 1)) hc o1 hlen kI kA hu ?_, o1⟩
        rw [if_pos hk, askOf_app, if_neg (by show ¬ (100 ≤ ty ∧ ty < 111); omega)]
        exact h6
      · rw [if_neg (show ¬ Int32.ofNat ty ≥ 111 from fun z => h111 ((ofN_le (i := 111) (by omega) (by omega)).1 z)), EgRo r2 (isCv_o oa)]
        simp only [mE, h6]
        have Y0 : ∃ Y, Y = ms_setI S1 a 6 (as0 ||| askOf q.2.1 ||| 1 <<< ((Int32.ofNat ty - 100) &&& 31)) := ⟨_, rfl⟩
        obtain ⟨Y, hY⟩ := Y0
        have yI : ∀ b j, ¬ (b = a ∧ j = 6) → ms_I Y b j = ms_I S1 b j := fun b j hbj => by rw [hY]; simp only [mG]; rw [if_neg hbj]
        have oY : offE a S1 Y := ⟨fun j _ => yI 6 j (fun z => ha.1 z.1.symm), fun j _ => yI 38 j (fun z => ha.2.2 z.1.symm), by rw [hY]; simp only [mGo], fun j _ h2 => yI a j (fun z => h2 z.2), fun b h1 h2 h3 h4 => by rw [hY]; exact Eqc_I h3, fun m hm hI => ⟨m, Nat.le_refl _, hm, by rw [yI a 1 (by omega)]; exact hI, fun i _ => by rw [hY]; simp only [mGo]⟩⟩
        have o2 := o1.tr oY
        have hruY : ∃ u, u ≤ 100 ∧ ms_I Y 38 3 = Int32.ofNat u := by rw [yI 38 3 (fun z => ha.2.2 z.1.symm)]; exact hru
        refine ⟨Y, by rw [hY], by rw [hY]; exact CS_I c1 ha.1, RC_off oa ost hr o2 hruY, CE_app (q := (q.1, q.2.1, q.2.2 + 1)) hc o2 hlen (by rw [yI a 1 (by omega)]; exact kI) (by rw [hY]; simp only [mGo]; exact kA) (by rw [yI 38 3 (fun z => ha.2.2 z.1.symm)]; exact hu) ?_, o2⟩
        rw [if_pos hk, askOf_app, if_pos (show 100 ≤ ty ∧ ty < 111 by omega), hY]
        simp only [mG, and_self, if_true]
        rw [ask1 (by omega) (by omega), Int32.or_assoc]
  · rw [if_neg hk] at h6 ⊢
    rw [if_pos rfl]
    refine ⟨S1, rfl, c1, RC_off oa ost hr o1 hru, CE_app (q := (q.1, q.2.1, q.2.2 + 1)) hc o1 hlen kI kA hu ?_, o1⟩
    rw [if_neg hk]
    exact h6
theorem q16 {S : ms_S} {q : Px} {j : Nat} (hN : 1300 ≤ N) (hb : TxB X L) (oa : o_cv a) (ost : o_st st) (hk6 : kn.length ≤ 6) (hl8 : ln.length ≤ 8) (hq : q.1 = .inr j) (h0 : tTy (tkJ X L j) ≠ 0) (hr : RC S a st kl kn ln) (h : CS S X L (.inr j)) (hc : CE S a c0 as0 kl (q.1, q.2.1, q.2.2 + 1)) (hlen : c0 + q.2.1.length < 512) : ∃ S1, f16 N (Int32.ofNat (tTy (tkJ X L j))) S = some ((), S1) ∧ CS S1 X L (pLf X L kn ln q).1 ∧ RC S1 a st kl kn ln ∧ (gd (pLf X L kn ln q).1 = true → CE S1 a c0 as0 kl (pLf X L kn ln q)) ∧ offE a S S1 := by
  have ha : a ≠ 6 ∧ a + 1 ≠ 6 ∧ a ≠ 38 := by rcases oa with rfl | rfl | rfl | rfl | rfl <;> decide
  have hst6 : st ≠ 6 := by rcases ost with rfl | rfl <;> decide
  have htb : tTy (tkJ X L j) < 1000 := sTy_bd hb (σ := .inr j) h.2.2.1
  obtain ⟨v0, e0, p0⟩ := q99 (N := N) hb h
  have m99 : ∀ {β : Type} {f' : Int64 → mM β}, mb (f99 N) f' S = f' v0 S := by intro β f'; simp only [mb, e0]
  obtain ⟨S1, e1, c1, o1⟩ := q100 (N := N) hb h h0
  have m100 : ∀ {β : Type} {f' : Unit → mM β}, mb (f100 N) f' S = f' () S1 := by intro β f'; simp only [mb, e1]
  have oE1 : offE a S S1 := o1.e ha.1 ha.2.1
  have hr1 := RC_off oa ost hr oE1 (by rw [(o1.2 38 (by decide)).1]; exact hr.2.2.2.2.2.2.2.2.2)
  have hc1 : CE S1 a c0 as0 kl (q.1, q.2.1, q.2.2 + 1) := by
    obtain ⟨k1, k2, k3, k4⟩ := hc
    exact ⟨by rw [(o1.2 a ha.1).1]; exact k1, fun i hi => by rw [(o1.2 (a + 1) ha.2.1).2.2.2.1]; exact k2 i hi, by rw [(o1.2 38 (by decide)).1]; exact k3, by rw [(o1.2 a ha.1).1]; exact k4⟩
  have sty : sTy X L q.1 = tTy (tkJ X L j) := by rw [hq]; rfl
  have c1 : CS S1 X L (nx q.1) := by rw [hq]; exact c1
  -- a leaf with a name
  have named : ∀ (nl : List (List Int32)) (b n ty : Nat), ty < 1000 → n ≤ 90 → nl.length ≤ n → nl.length ≤ 8 → NLc S1 b nl → ∃ v S2, f106 N b n (Int32.ofNat nl.length) S1 = some (v, S2) ∧ ∃ S3, (mb (gRo isCv 38 2) fun r1 => mb (f2 N r1 (Int32.ofNat ty) v) fun _ => mb (gI 38 4) fun v4 => if v4 = 0 then mret () else (if Int32.ofNat ty < 100 then mret () else (if Int32.ofNat ty ≥ 111 then mret () else (mb (gRo isCv 38 2) fun r6 => mb (gI r6 6) fun v8 => mb (pI r6 6 (v8 ||| (1 <<< ((Int32.ofNat ty - 100) &&& 31)))) fun _ => mret ())))) S2 = some ((), S3) ∧ CS S3 X L (knN X L nl (nx q.1)) ∧ RC S3 a st kl kn ln ∧ (gd (knN X L nl (nx q.1)) = true → CE S3 a c0 as0 kl (knN X L nl (nx q.1), q.2.1 ++ [(ty, optI (ixN nl (nmV X L (nx q.1))))], q.2.2 + 1)) ∧ offE a S S3 := by
    intro nl b n ty hty hn hnl hnl8 hNL
    obtain ⟨v, S2, e2, p2, c2, o2⟩ := q106 (N := N) (b := b) (n := n) (nl := nl) (by omega) hb c1 hn hnl hNL
    have oE2 : offE a S1 S2 := o2.e ha.1 ha.2.1
    have hr2 := RC_off oa ost hr1 oE2 (by rw [(o2.2 38 (by decide)).1]; exact hr1.2.2.2.2.2.2.2.2.2)
    have hc2 : CE S2 a c0 as0 kl (q.1, q.2.1, q.2.2 + 1) := by
      obtain ⟨k1, k2, k3, k4⟩ := hc1
      exact ⟨by rw [(o2.2 a ha.1).1]; exact k1, fun i hi => by rw [(o2.2 (a + 1) ha.2.1).2.2.2.1]; exact k2 i hi, by rw [(o2.2 38 (by decide)).1]; exact k3, by rw [(o2.2 a ha.1).1]; exact k4⟩
    obtain ⟨S3, e3, c3, r3, k3, o3⟩ := leafE (N := N) (X := X) (L := L) (ty := ty) (v := v) (σ' := knN X L nl (nx q.1)) oa ost hty hr2 c2 hc2 hlen
    refine ⟨v, S2, e2, S3, e3, c3, r3, fun hg => ?_, (oE1.tr oE2).tr o3⟩
    rw [← p2 (gd_kn hg).2.1]
    exact k3
  have k0 : ms_R S 38 0 = some 6 := hr.1
  have k01 : ms_R S1 38 0 = some 6 := hr1.1
  unfold f16
  simp only [mE]
  rw [EgRo k0 isA6, m99, EgRo k0 isA6, m100]
  simp only [mE]
  unfold pLf
  rw [sty]
  by_cases h111 : tTy (tkJ X L j) = 111
  · rw [if_neg (fun z => z (by rw [h111]; rfl)), if_pos h111]
    obtain ⟨v, S2, e2, S3, e3, r⟩ := named kn (a + 2) 6 111 (by omega) (by omega) hk6 (by omega) hr1.2.2.2.2.2.1
    have m106 : ∀ {β : Type} {f' : Int32 → mM β}, mb (f106 N (a + 2) 6 (Int32.ofNat kn.length)) f' S1 = f' v S2 := by intro β f'; simp only [mb, e2]
    rw [EgRo k01 isA6, EgRo hr1.2.2.1 (isCv_o oa), EgRo hr1.2.2.1 (isCv_o oa)]
    simp only [mE, hr1.2.2.2.2.1]
    rw [m106, h111]
    exact ⟨S3, e3, r⟩
  · have hne : Int32.ofNat (tTy (tkJ X L j)) ≠ 111 := fun z => h111 ((ofN_eq (j := 111) (by omega) (by omega)).1 z)
    rw [if_pos hne, if_neg h111]
    by_cases h112 : tTy (tkJ X L j) = 112
    · rw [if_neg (fun z => z (by rw [h112]; rfl)), if_pos h112]
      obtain ⟨v, S2, e2, S3, e3, r⟩ := named ln (st + 5) 8 112 (by omega) (by omega) hl8 (by omega) hr1.2.2.2.2.2.2.2.1
      have m106 : ∀ {β : Type} {f' : Int32 → mM β}, mb (f106 N (st + 5) 8 (Int32.ofNat ln.length)) f' S1 = f' v S2 := by intro β f'; simp only [mb, e2]
      rw [EgRo k01 isA6, EgRo hr1.2.1 (isSt_o ost), EgRo hr1.2.1 (isSt_o ost)]
      simp only [mE, hr1.2.2.2.2.2.2.1]
      rw [m106, h112]
      exact ⟨S3, e3, r⟩
    · have hne2 : Int32.ofNat (tTy (tkJ X L j)) ≠ 112 := fun z => h112 ((ofN_eq (j := 112) (by omega) (by omega)).1 z)
      rw [if_pos hne2, if_neg h112]
      have fin : ∀ v : Int32, v = (if tTy (tkJ X L j) = 3 then nuV X L q.1 else 0) → ∃ S3, (mb (gRo isCv 38 2) fun r1 => mb (f2 N r1 (Int32.ofNat (tTy (tkJ X L j))) v) fun _ => mb (gI 38 4) fun v4 => if v4 = 0 then mret () else (if Int32.ofNat (tTy (tkJ X L j)) < 100 then mret () else (if Int32.ofNat (tTy (tkJ X L j)) ≥ 111 then mret () else (mb (gRo isCv 38 2) fun r6 => mb (gI r6 6) fun v8 => mb (pI r6 6 (v8 ||| (1 <<< ((Int32.ofNat (tTy (tkJ X L j)) - 100) &&& 31)))) fun _ => mret ())))) S1 = some ((), S3) ∧ CS S3 X L (nx q.1) ∧ RC S3 a st kl kn ln ∧ (gd (nx q.1) = true → CE S3 a c0 as0 kl (nx q.1, q.2.1 ++ [(tTy (tkJ X L j), if tTy (tkJ X L j) = 3 then nuV X L q.1 else 0)], q.2.2 + 1)) ∧ offE a S S3 := by
        intro v hv
        obtain ⟨S3, e3, c3, r3, k3, o3⟩ := leafE (N := N) (X := X) (L := L) (ty := tTy (tkJ X L j)) (v := v) (σ' := nx q.1) oa ost htb hr1 c1 hc1 hlen
        rw [hv] at k3
        exact ⟨S3, e3, c3, r3, fun _ => k3, oE1.tr o3⟩
      by_cases h3 : tTy (tkJ X L j) = 3
      · rw [if_pos (show Int32.ofNat (tTy (tkJ X L j)) = 3 by rw [h3]; rfl)]
        exact fin _ (by rw [if_pos h3, p0 j rfl h3, hq]; rfl)
      · have hne3 : ¬ Int32.ofNat (tTy (tkJ X L j)) = 3 := fun z => h3 ((ofN_eq (j := 3) (by omega) (by omega)).1 z)
        rw [if_neg hne3]
        exact fin _ (by rw [if_neg h3])
end EX2
