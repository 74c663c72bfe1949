/-! a strait's text: lands, and all of it; the class -/
section ST2
variable {N : Nat} {X : Nat → Int32} {L : Nat} {a : Nat}
theorem q74 {S : ms_S} {j n : Nat} {cs : List Cl} {ls : List Ld} (hN : 100 ≤ N) (ha : a = 11 ∨ a = 20) (hb : TxB X L) (h : CS S X L (.inr j)) (ht : tTy (tkJ X L j) = 112) (hc : ls.length < 8) (hs : StC S a cs ls n) : ∃ S1, f74 N a S = some ((), S1) ∧ CS S1 X L (l4 X L (ls.map (·.1)) (.inr j)) ∧ (gd (l4 X L (ls.map (·.1)) (.inr j)) = true → StC S1 a cs (ls ++ [landV X L (ls.map (·.1)) (.inr j)]) n) ∧ offSt a S S1 := by
  obtain ⟨s4, s7, s8, s9, s10, sAr, sN, sS⟩ := hs
  have C0 : ∃ c, c = ls.length := ⟨_, rfl⟩
  obtain ⟨c, hcc⟩ := C0
  have hlen : (ls.map (·.1)).length = c := by rw [List.length_map, ← hcc]
  rw [← hcc] at s7 sS hc
  have k1 : inR (Int32.ofNat c) 8 := ofN_inR (by omega) (by omega)
  have k2 := ofN_cl (i := c) (by omega)
  have fI : ∀ {S' S'' : ms_S}, offX S' S'' → ms_I S'' a = ms_I S' a := fun o => (o.2 a (by omega)).1
  obtain ⟨S1, e1, q1, o1⟩ := q100 (N := N) hb h (by omega)
  have q1 : CS S1 X L (nx (.inr j)) := q1
  have i1 : ms_I S1 a 7 = Int32.ofNat c := by rw [fI o1]; exact s7
  obtain ⟨v2, S2, e2, p2, q2, o2⟩ := q105 (N := N) (b := a + 5) (n := 8) (nl := ls.map (·.1)) hN hb q1 (by omega) (by omega) (fun i hi => by rw [(o1.2 (a + 5) (by omega)).2.2.2.2.1]; exact sN i hi)
  rw [hlen] at e2
  have W1e : ∃ W, W = ms_setL S2 (a + 5) c v2 := ⟨_, rfl⟩
  obtain ⟨W1, hW1⟩ := W1e
  have g1 : offX S S2 := o1.tr o2
  have q2 : CS W1 X L (l2 X L (ls.map (·.1)) (.inr j)) := by rw [hW1]; exact CS_L q2 (by omega)
  have w1I : ms_I W1 a = ms_I S a := by rw [hW1]; simp only [mGo]; exact fI g1
  obtain ⟨S3, e3, q3, o3⟩ := q102 (N := N) (ty := 107) hb (by omega) q2
  have N0 : ∃ v : Int32, v = if isT X L 107 (l2 X L (ls.map (·.1)) (.inr j)) = true then 1 else 0 := ⟨_, rfl⟩
  obtain ⟨vn, hvn⟩ := N0
  have vn01 : vn = 0 ∨ vn = 1 := by rw [hvn]; split <;> simp
  rw [← hvn] at e3
  have W2e : ∃ W, W = ms_setA S3 (a + 6) c vn := ⟨_, rfl⟩
  obtain ⟨W2, hW2⟩ := W2e
  have q3 : CS W2 X L (ac X L 107 (l2 X L (ls.map (·.1)) (.inr j))) := by rw [hW2]; exact CS_A q3 (by omega) (by omega)
  have w2I : ms_I W2 a = ms_I S a := by rw [hW2]; simp only [mGo]; rw [fI o3, w1I]
  obtain ⟨S4, e4, q4, o4⟩ := q103 (N := N) (ty := 59) hb (by omega) q3
  have t4I : ms_I S4 a = ms_I S a := by rw [fI o4, w2I]
  have i4 : ms_I S4 a 7 = Int32.ofNat c := by rw [t4I]; exact s7
  have iW1 : ms_I W1 a 7 = Int32.ofNat c := by rw [w1I]; exact s7
  refine ⟨ms_setI S4 a 7 (Int32.ofNat (c + 1)), ?_, CS_I q4 (by omega), fun hg => ?_, ?_⟩
  · have m1 : ∀ {β : Type} {f' : Unit → mM β}, mb (f100 N) f' S = f' () S1 := by intro β f'; simp only [mb, e1]
    have m2 : ∀ {β : Type} {f' : Int64 → mM β}, mb (f105 N (a + 5) 8 (Int32.ofNat c)) f' S1 = f' v2 S2 := by intro β f'; simp only [mb, e2]
    have m3 : ∀ {β : Type} {f' : Int32 → mM β}, mb (f102 N 107) f' W1 = f' vn S3 := by intro β f'; have e3 : f102 N 107 W1 = _ := e3; simp only [mb, e3]
    have m4 : ∀ {β : Type} {f' : Unit → mM β}, mb (f103 N 59) f' W2 = f' () S4 := by intro β f'; have e4 : f103 N 59 W2 = _ := e4; simp only [mb, e4]
    unfold f74
    rw [m1]
    simp only [mE, i1]
    rw [m2]
    simp only [mE, mF, k1, k2, ← hW1, iW1]
    rw [m3]
    simp only [mE, k1, k2, vpb vn01, ← hW2]
    rw [m4]
    simp only [mE, i4, ofN_s]
  · have h1 := gd_dm hg
    have h2 : gd (l2 X L (ls.map (·.1)) (.inr j)) = true := by rw [← gd_ac (X := X) (L := L) (ty := 107)]; exact h1.1
    have h3 := gd_nw (show gd (nwN X L (ls.map (·.1)) (nx (.inr j))) = true from h2)
    have ev2 := p2 h3.2.1
    have hjn : j + 1 < tkN X L := (tkJ_nx hb (show j < tkN X L from h.2.2.1) (by omega)).1
    have hlt := (nm_ltw hb hjn (Or.inl (of_decide_eq_true h3.2.1))).1
    have eV : landV X L (ls.map (·.1)) (.inr j) = (nmV X L (nx (.inr j)), vn) := by rw [hvn]; rfl
    have xL : ∀ i, ms_L (ms_setI S4 a 7 (Int32.ofNat (c + 1))) (a + 5) i = if i = c then v2 else ms_L S (a + 5) i := by
      intro i
      simp only [mGo]
      rw [(o4.2 (a + 5) (by omega)).2.2.2.2.1, hW2]
      simp only [mGo]
      rw [(o3.2 (a + 5) (by omega)).2.2.2.2.1, hW1]
      simp only [mG, true_and]
      rw [(g1.2 (a + 5) (by omega)).2.2.2.2.1]
    have xA : ∀ b i, a + 1 ≤ b → b ≤ a + 6 → ms_A (ms_setI S4 a 7 (Int32.ofNat (c + 1))) b i = if b = a + 6 ∧ i = c then vn else ms_A S b i := by
      intro b i hb1 hb2
      simp only [mGo]
      rw [(o4.2 b (by omega)).2.2.2.1, hW2]
      simp only [mG]
      rw [(o3.2 b (by omega)).2.2.2.1, hW1]
      simp only [mGo]
      rw [(g1.2 b (by omega)).2.2.2.1]
    refine ⟨by simp [mG]; rw [t4I]; exact s4, by rw [List.length_append, ← hcc]; simp [mG], by simp [mG]; rw [t4I]; exact s8, by simp [mG]; rw [t4I]; exact s9, by simp [mG]; rw [t4I]; exact s10, fun i hi => ?_, fun i hi => ?_, fun i hi => ?_⟩
    · rw [xA (a + 1) i (by omega) (by omega), xA (a + 2) i (by omega) (by omega), xA (a + 3) i (by omega) (by omega), xA (a + 4) i (by omega) (by omega), if_neg (by omega), if_neg (by omega), if_neg (by omega), if_neg (by omega)]
      exact sAr i hi
    · rw [List.map_append, List.length_append, hlen] at hi
      have hi : i < c + 1 := hi
      rw [List.map_append, xL i]
      show _ = pk5 (((ls.map (·.1)) ++ [(landV X L (ls.map (·.1)) (.inr j)).1]).getD i []) ∧ ltw (((ls.map (·.1)) ++ [(landV X L (ls.map (·.1)) (.inr j)).1]).getD i [])
      rw [getD_snoc, hlen]
      by_cases e : i = c
      · rw [if_pos e, if_neg (by omega), if_pos e, eV, ev2]; exact ⟨rfl, hlt⟩
      · rw [if_neg e, if_pos (show i < c by omega)]; exact sN i (by omega)
    · rw [List.length_append, ← hcc] at hi
      have hi : i < c + 1 := hi
      rw [xA (a + 6) i (by omega) (by omega), getD_snoc, ← hcc]
      by_cases e : i = c
      · rw [if_pos ⟨rfl, e⟩, if_neg (by omega), if_pos e, eV]
      · rw [if_neg (fun q => e q.2), if_pos (show i < c by omega)]; exact sS i (by omega)
  · have f1 : offSt a S W1 := by rw [hW1]; exact g1.s.tr ⟨fun j _ => by simp only [mGo], fun b hb hb2 => Eqc_L (by omega)⟩
    have f2 : offSt a W1 W2 := by rw [hW2]; exact o3.s.tr (offSt.A (by omega) (by omega))
    exact ((f1.tr f2).tr o4.s).tr (offSt.I (by omega))
/-- how far a state of reading is -/
def adv (X : Nat → Int32) (L : Nat) (σ σ' : Sg) : Prop := gd σ' = true → ∃ j j', σ = .inr j ∧ σ' = .inr j' ∧ j < j'
theorem sTy_0 {σ : Sg} (hb : TxB X L) (h : cAt X L σ < tkN X L) (h0 : sTy X L σ ≠ 0) : ∃ j, σ = .inr j ∧ j < tkN X L ∧ tTy (tkJ X L j) ≠ 0 := by
  cases σ with
  | inl e => exact absurd rfl h0
  | inr j => exact ⟨j, rfl, h, h0⟩
def idx : Sg → Nat
  | .inl _ => 0
  | .inr j => j
theorem idx_nx {σ : Sg} (h : gd σ = true) : idx (nx σ) = idx σ + 1 := by cases σ with | inl e => cases h | inr j => rfl
theorem idx_dm {σ : Sg} {ty : Nat} (h : gd (dm X L ty σ) = true) : idx (dm X L ty σ) = idx σ + 1 := by
  obtain ⟨h1, _, h3⟩ := gd_dm h
  rw [h3, idx_nx h1]
theorem idx_nb {σ : Sg} {lo hi : Int32} (h : gd (nb X L lo hi σ) = true) : idx (nb X L lo hi σ) = idx σ + 1 := by
  obtain ⟨h1, _, _, h3⟩ := gd_nb h
  rw [h3, idx_nx h1]
theorem idx_ac {σ : Sg} {ty : Nat} (h : gd σ = true) : idx σ ≤ idx (ac X L ty σ) := by
  unfold ac
  split
  · rw [idx_nx h]; omega
  · exact Nat.le_refl _
theorem idx_c9 {σ : Sg} (h : gd (c9 X L σ) = true) : idx σ < idx (c9 X L σ) := by
  have h1 := gd_dm h
  have h2 : gd (c7 X L σ) = true := by rw [← gd_ac (X := X) (L := L) (ty := 121)]; exact h1.1
  have h3 := gd_nb (show gd (nb X L 0 9 (c6 X L σ)) = true from h2)
  have h4 := gd_c6 h3.1
  have h5 := gd_nb (show gd (nb X L 0 9 (c4 X L σ)) = true from h4.1)
  have h6 := gd_dm (show gd (dm X L 118 (nb X L 1 99 (c2 X L σ))) = true from h5.1)
  have h7 := gd_nb h6.1
  have h8 := gd_dm (show gd (dm X L 117 (nx σ)) = true from h7.1)
  have g0 : gd σ = true := by rw [← gd_nx]; exact h8.1
  have i1 := idx_nx g0
  have i2 : idx (c2 X L σ) = _ := idx_dm h7.1
  have i3 := idx_nb h6.1
  have i4 : idx (c4 X L σ) = _ := idx_dm h5.1
  have i5 : idx (c5 X L σ) = _ := idx_nb h4.1
  have i6 : idx (c6 X L σ) = idx (c5 X L σ) + 1 := by rw [h4.2, idx_nx h4.1]
  have i7 : idx (c7 X L σ) = _ := idx_nb h2
  have i8 := idx_ac (X := X) (L := L) (ty := 121) h2
  have i9 : idx (c9 X L σ) = _ := idx_dm h
  omega
theorem idx_l4 {σ : Sg} {nl : List (List Int32)} (h : gd (l4 X L nl σ) = true) : idx σ < idx (l4 X L nl σ) := by
  have h1 := gd_dm h
  have h2 : gd (l2 X L nl σ) = true := by rw [← gd_ac (X := X) (L := L) (ty := 107)]; exact h1.1
  have h3 := gd_nw (show gd (nwN X L nl (nx σ)) = true from h2)
  have g0 : gd σ = true := by rw [← gd_nx]; exact h3.1
  have i1 := idx_nx g0
  have i2 : idx (l2 X L nl σ) = idx (nx σ) + 1 := by
    show idx (nwN X L nl (nx σ)) = _
    rw [h3.2.2.2, idx_nx h3.1]
  have i8 := idx_ac (X := X) (L := L) (ty := 107) h2
  have i9 : idx (l4 X L nl σ) = _ := idx_dm h
  omega
theorem idx_stp {q : St} (h : gd (stp1 X L q).1 = true) : gd q.1 = true ∧ idx q.1 < idx (stp1 X L q).1 := by
  unfold stp1 at *
  split at h
  · rename_i hc
    rw [if_pos hc]
    exact ⟨(gd_c9 h).1, idx_c9 h⟩
  · rename_i hc
    split at h
    · rename_i hc2
      rw [if_neg hc, if_pos hc2]
      have h1 := gd_dm h
      have h2 : gd (l2 X L (q.2.2.1.map (·.1)) q.1) = true := by rw [← gd_ac (X := X) (L := L) (ty := 107)]; exact h1.1
      have h3 := gd_nw (show gd (nwN X L (q.2.2.1.map (·.1)) (nx q.1)) = true from h2)
      exact ⟨by rw [← gd_nx]; exact h3.1, idx_l4 h⟩
    · rw [gd_rf] at h; cases h
theorem stp_len {q : St} (h : q.2.1.length ≤ 20 ∧ q.2.2.1.length ≤ 8) : (stp1 X L q).2.1.length ≤ 20 ∧ (stp1 X L q).2.2.1.length ≤ 8 := by
  unfold stp1
  split
  · rename_i hc
    refine ⟨?_, h.2⟩
    show (q.2.1 ++ [cellV X L q.1]).length ≤ 20
    rw [List.length_append]
    have := hc.2
    show q.2.1.length + 1 ≤ 20
    omega
  · split
    · rename_i hc
      refine ⟨h.1, ?_⟩
      show (q.2.2.1 ++ [landV X L (q.2.2.1.map (·.1)) q.1]).length ≤ 8
      rw [List.length_append]
      have := hc.2
      show q.2.2.1.length + 1 ≤ 8
      omega
    · exact h
theorem straitL {K : Int32 → mM Unit} (hN : 100 ≤ N) (ha : a = 11 ∨ a = 20) (hb : TxB X L) : ∀ f i n (q : St) (S : ms_S), tkN X L ≤ f + idx q.1 → f < n → (gd q.1 = true → i ≤ idx q.1) → i ≤ 1200 → (q.2.1.length ≤ 20 ∧ q.2.2.1.length ≤ 8) → CS S X L q.1 → (gd q.1 = true → StC S a q.2.1 q.2.2.1 q.2.2.2) → ∃ x S1, f72_L27 N a K n (Int32.ofNat i) S = K x S1 ∧ CS S1 X L (stR1 X L f q).1 ∧ (gd (stR1 X L f q).1 = true → StC S1 a (stR1 X L f q).2.1 (stR1 X L f q).2.2.1 (stR1 X L f q).2.2.2) ∧ offSt a S S1 := by
  have hn := tkN_le hb
  intro f
  induction f with
  | zero =>
    intro i n q S hf hn' hi hi2 hql h hs
    obtain ⟨n, rfl⟩ : ∃ p, n = p + 1 := ⟨n - 1, by omega⟩
    -- no token is left: that cannot be good
    have h0 : sTy X L q.1 = 0 := by
      cases hq : q.1 with
      | inl e => rfl
      | inr j =>
        rw [hq] at h hf
        have h3 : j < tkN X L := h.2.2.1
        have hf : tkN X L ≤ 0 + j := hf
        omega
    refine ⟨Int32.ofNat i, S, ?_, h, hs, offSt.rf⟩
    rw [f72_L27]
    simp only [mE]
    by_cases h12 : Int32.ofNat i ≥ 1200
    · rw [if_pos h12]
    · rw [if_neg h12, E98 hb h, h0, if_pos (show Int32.ofNat 0 = 0 from rfl)]
  | succ f ih =>
    intro i n q S hf hn' hi hi2 hql h hs
    obtain ⟨n, rfl⟩ : ∃ p, n = p + 1 := ⟨n - 1, by omega⟩
    by_cases h0 : sTy X L q.1 = 0
    · have e : stR1 X L (f + 1) q = q := if_pos h0
      rw [e]
      refine ⟨Int32.ofNat i, S, ?_, h, hs, offSt.rf⟩
      rw [f72_L27]
      simp only [mE]
      by_cases h12 : Int32.ofNat i ≥ 1200
      · rw [if_pos h12]
      · rw [if_neg h12, E98 hb h, h0, if_pos (show Int32.ofNat 0 = 0 from rfl)]
    · have e : stR1 X L (f + 1) q = stR1 X L f (stp1 X L q) := if_neg h0
      rw [e]
      obtain ⟨j, hj, hjl, hj0⟩ := sTy_0 hb h.2.2.1 h0
      obtain ⟨σ, cs, ls, m⟩ := q
      have hj : σ = .inr j := hj
      subst hj
      have hs := hs rfl
      have hi := hi rfl
      have hi : i ≤ j := hi
      have hjl2 : j + 1 < tkN X L := (tkJ_nx hb hjl hj0).1
      have htb : sTy X L (.inr j) < 1000 := sTy_bd hb h.2.2.1
      have hty : sTy X L (.inr j) = tTy (tkJ X L j) := rfl
      have h12 : ¬ Int32.ofNat i ≥ 1200 := fun p => by have := (ofN_le (i := 1200) (j := i) (by omega) (by omega)).1 p; omega
      -- behind a line
      have done : ∀ (S1 : ms_S), CS S1 X L (stp1 X L (.inr j, cs, ls, m)).1 → (gd (stp1 X L (.inr j, cs, ls, m)).1 = true → StC S1 a (stp1 X L (.inr j, cs, ls, m)).2.1 (stp1 X L (.inr j, cs, ls, m)).2.2.1 m) → ms_I S1 a 8 = ms_I S1 a 8 → offSt a S S1 → (gd (stp1 X L (.inr j, cs, ls, m)).1 = true → (stp1 X L (.inr j, cs, ls, m)).2.2.2 = m + 1) → ∃ x S2, (mb (gI a 8) fun v8 => mb (pI a 8 (v8 + 1)) fun _ => f72_L27 N a K n (Int32.ofNat i + 1)) S1 = K x S2 ∧ CS S2 X L (stR1 X L f (stp1 X L (.inr j, cs, ls, m))).1 ∧ (gd (stR1 X L f (stp1 X L (.inr j, cs, ls, m))).1 = true → StC S2 a (stR1 X L f (stp1 X L (.inr j, cs, ls, m))).2.1 (stR1 X L f (stp1 X L (.inr j, cs, ls, m))).2.2.1 (stR1 X L f (stp1 X L (.inr j, cs, ls, m))).2.2.2) ∧ offSt a S S2 := by
        intro S1 c1 s1 _ o1 hm
        have hadv : gd (stp1 X L (.inr j, cs, ls, m)).1 = true → j < idx (stp1 X L (.inr j, cs, ls, m)).1 := fun hg => (idx_stp hg).2
        have hfu : tkN X L ≤ f + idx (stp1 X L (.inr j, cs, ls, m)).1 ∨ gd (stp1 X L (.inr j, cs, ls, m)).1 = false := by
          cases hg : gd (stp1 X L (.inr j, cs, ls, m)).1 with
          | false => exact Or.inr rfl
          | true => left; have := hadv hg; have hf : tkN X L ≤ f + 1 + j := hf; omega
        have X0 : ∃ Y, Y = ms_setI S1 a 8 (ms_I S1 a 8 + 1) := ⟨_, rfl⟩
        obtain ⟨Y, hY⟩ := X0
        have cY : CS Y X L (stp1 X L (.inr j, cs, ls, m)).1 := by rw [hY]; exact CS_I c1 (by omega)
        have oY : offSt a S Y := by rw [hY]; exact o1.tr (offSt.I (by omega))
        have sY : gd (stp1 X L (.inr j, cs, ls, m)).1 = true → StC Y a (stp1 X L (.inr j, cs, ls, m)).2.1 (stp1 X L (.inr j, cs, ls, m)).2.2.1 (stp1 X L (.inr j, cs, ls, m)).2.2.2 := fun hg => by
          obtain ⟨t4, t7, t8, t9, t10, tA, tN, tS⟩ := s1 hg
          rw [hm hg, hY]
          refine ⟨by simp [mG]; exact t4, by simp [mG]; exact t7, by simp only [mG, and_self, if_true]; rw [t8, ofN_s], by simp [mG]; exact t9, by simp [mG]; exact t10, fun p hp => ?_, fun p hp => ?_, fun p hp => ?_⟩
          · simp only [mGo]; exact tA p hp
          · simp only [mGo]; exact tN p hp
          · simp only [mGo]; exact tS p hp
        simp only [mE, ← hY, ofN_s]
        rcases hfu with hfu | hbad
        · obtain ⟨x, S2, e2, c2, s2, o2⟩ := ih (i + 1) n (stp1 X L (.inr j, cs, ls, m)) Y hfu (by omega) (fun hg => by have := hadv hg; omega) (by omega) (stp_len hql) cY sY
          exact ⟨x, S2, e2, c2, s2, oY.tr o2⟩
        · -- a fault: the loop ends at once
          have h00 : sTy X L (stp1 X L (.inr j, cs, ls, m)).1 = 0 := by
            cases hq : (stp1 X L (.inr j, cs, ls, m)).1 with
            | inl e => rfl
            | inr p => rw [hq] at hbad; cases hbad
          have es : stR1 X L f (stp1 X L (.inr j, cs, ls, m)) = stp1 X L (.inr j, cs, ls, m) := by
            cases f with
            | zero => rfl
            | succ f => exact if_pos h00
          rw [es]
          obtain ⟨n', rfl⟩ : ∃ p, n = p + 1 := ⟨n - 1, by omega⟩
          refine ⟨Int32.ofNat (i + 1), Y, ?_, cY, sY, oY⟩
          rw [f72_L27]
          simp only [mE]
          by_cases h12 : Int32.ofNat (i + 1) ≥ 1200
          · rw [if_pos h12]
          · rw [if_neg h12, E98 hb cY, h00, if_pos (show Int32.ofNat 0 = 0 from rfl)]
      have hne0 : ¬ Int32.ofNat (sTy X L (.inr j)) = 0 := fun p => hj0 ((ofN_eq (i := tTy (tkJ X L j)) (j := 0) (by have htb2 : tTy (tkJ X L j) < 1000 := htb; omega) (by omega)).1 p)
      rw [f72_L27]
      simp only [mE, if_neg h12]
      have h : CS S X L (.inr j) := h
      rw [E98 hb h]
      simp only [mE, if_neg hne0]
      rw [E98 hb h]
      by_cases hcell : sTy X L (.inr j) = 116 ∧ cs.length < 20
      · have e1 : stp1 X L (.inr j, cs, ls, m) = (c9 X L (.inr j), cs ++ [cellV X L (.inr j)], ls, m + 1) := if_pos hcell
        simp only [mE]
        rw [if_neg (fun p => p (by rw [hcell.1]; rfl))]
        simp only [mE, hs.1]
        rw [if_neg (fun p => by have := (ofN_le (i := 20) (j := cs.length) (by omega) (by omega)).1 p; omega)]
        obtain ⟨S1, q1, c1, s1, o1⟩ := q73 (N := N) ha hb h hcell.1 hcell.2 hs
        have m73 : ∀ {β : Type} {f' : Unit → mM β}, mb (f73 N a) f' S = f' () S1 := by intro β f'; simp only [mb, q1]
        rw [m73]
        exact done S1 (by rw [e1]; exact c1) (fun hg => by rw [e1] at hg ⊢; exact s1 hg) rfl o1 (fun _ => by rw [e1])
      · -- not a cell
        have J67 : ∃ x S2, ((mb (f98 N) fun v12 => if v12 ≠ 112 then (mb (f101 N 2) fun _ => (mb (gI a 8) fun v8 => mb (pI a 8 (v8 + 1)) fun _ => f72_L27 N a K n (Int32.ofNat i + 1))) else (mb (gI a 7) fun v14 => if v14 ≥ 8 then (mb (f101 N 2) fun _ => (mb (gI a 8) fun v8 => mb (pI a 8 (v8 + 1)) fun _ => f72_L27 N a K n (Int32.ofNat i + 1))) else (mb (f74 N a) fun _ => (mb (gI a 8) fun v8 => mb (pI a 8 (v8 + 1)) fun _ => f72_L27 N a K n (Int32.ofNat i + 1)))))) S = K x S2 ∧ CS S2 X L (stR1 X L f (stp1 X L (.inr j, cs, ls, m))).1 ∧ (gd (stR1 X L f (stp1 X L (.inr j, cs, ls, m))).1 = true → StC S2 a (stR1 X L f (stp1 X L (.inr j, cs, ls, m))).2.1 (stR1 X L f (stp1 X L (.inr j, cs, ls, m))).2.2.1 (stR1 X L f (stp1 X L (.inr j, cs, ls, m))).2.2.2) ∧ offSt a S S2 := by
          rw [E98 hb h]
          have bad : ¬ (sTy X L (.inr j) = 112 ∧ ls.length < 8) → ∃ x S2, ((mb (f101 N 2) fun _ => (mb (gI a 8) fun v8 => mb (pI a 8 (v8 + 1)) fun _ => f72_L27 N a K n (Int32.ofNat i + 1)))) S = K x S2 ∧ CS S2 X L (stR1 X L f (stp1 X L (.inr j, cs, ls, m))).1 ∧ (gd (stR1 X L f (stp1 X L (.inr j, cs, ls, m))).1 = true → StC S2 a (stR1 X L f (stp1 X L (.inr j, cs, ls, m))).2.1 (stR1 X L f (stp1 X L (.inr j, cs, ls, m))).2.2.1 (stR1 X L f (stp1 X L (.inr j, cs, ls, m))).2.2.2) ∧ offSt a S S2 := by
            intro hland
            have e1 : stp1 X L (.inr j, cs, ls, m) = (rf X L 2 (.inr j), cs, ls, m + 1) := by
              show (if _ then _ else _) = _
              rw [if_neg hcell, if_neg hland]
            obtain ⟨S1, q1, c1, o1⟩ := q101 (N := N) (c := 2) hb (by omega) h
            have q1 : f101 N 2 S = _ := q1
            have m101 : ∀ {β : Type} {f' : Unit → mM β}, mb (f101 N 2) f' S = f' () S1 := by intro β f'; simp only [mb, q1]
            rw [m101]
            refine done S1 (by rw [e1]; exact c1) (fun hg => ?_) rfl o1.s (fun _ => by rw [e1])
            rw [e1] at hg
            cases hg
          by_cases hl : sTy X L (.inr j) = 112
          · rw [if_neg (fun p => p (by rw [hl]; rfl))]
            simp only [mE, hs.2.1]
            by_cases hl8 : ls.length < 8
            · have e1 : stp1 X L (.inr j, cs, ls, m) = (l4 X L (ls.map (·.1)) (.inr j), cs, ls ++ [landV X L (ls.map (·.1)) (.inr j)], m + 1) := by
                show (if _ then _ else _) = _
                rw [if_neg hcell, if_pos ⟨hl, hl8⟩]
              rw [if_neg (fun p => by have := (ofN_le (i := 8) (j := ls.length) (by omega) (by omega)).1 p; omega)]
              obtain ⟨S1, q1, c1, s1, o1⟩ := q74 (N := N) hN ha hb h hl hl8 hs
              have m74 : ∀ {β : Type} {f' : Unit → mM β}, mb (f74 N a) f' S = f' () S1 := by intro β f'; simp only [mb, q1]
              rw [m74]
              exact done S1 (by rw [e1]; exact c1) (fun hg => by rw [e1] at hg ⊢; exact s1 hg) rfl o1 (fun _ => by rw [e1])
            · have hge : Int32.ofNat ls.length ≥ 8 := by
                have hl9 : ls.length ≤ 8 := hql.2
                exact (ofN_le (i := 8) (by omega) (by omega)).2 (by omega)
              rw [if_pos hge]
              exact bad (fun p => hl8 p.2)
          · have hne : Int32.ofNat (sTy X L (.inr j)) ≠ 112 := fun p => hl ((ofN_eq (j := 112) (by omega) (by omega)).1 p)
            rw [if_pos hne]
            exact bad (fun p => hl p.1)
        simp only [mE]
        by_cases h116 : sTy X L (.inr j) = 116
        · rw [if_neg (fun p => p (by rw [h116]; rfl))]
          simp only [mE, hs.1]
          have hge : Int32.ofNat cs.length ≥ 20 := by
            have hl9 : cs.length ≤ 20 := hql.1
            exact (ofN_le (i := 20) (by omega) (by omega)).2 (by have : ¬ cs.length < 20 := fun p => hcell ⟨h116, p⟩; omega)
          rw [if_pos hge]
          exact J67
        · have hne : Int32.ofNat (sTy X L (.inr j)) ≠ 116 := fun p => h116 ((ofN_eq (j := 116) (by omega) (by omega)).1 p)
          rw [if_pos hne]
          exact J67
end ST2
