/-! a strait's text: the class -/
abbrev Cl : Type := Int32 × Int32 × Int32 × Int32
abbrev Ld : Type := List Int32 × Int32
section STM
variable {X : Nat → Int32} {L : Nat}
def c2 (X : Nat → Int32) (L : Nat) (σ : Sg) : Sg := dm X L 117 (nx σ)
def c4 (X : Nat → Int32) (L : Nat) (σ : Sg) : Sg := dm X L 118 (nb X L 1 99 (c2 X L σ))
def c5 (X : Nat → Int32) (L : Nat) (σ : Sg) : Sg := nb X L 0 9 (c4 X L σ)
def c6 (X : Nat → Int32) (L : Nat) (σ : Sg) : Sg := if isT X L 120 (c5 X L σ) = true then nx (c5 X L σ) else dm X L 119 (c5 X L σ)
def c7 (X : Nat → Int32) (L : Nat) (σ : Sg) : Sg := nb X L 0 9 (c6 X L σ)
def c9 (X : Nat → Int32) (L : Nat) (σ : Sg) : Sg := dm X L 59 (ac X L 121 (c7 X L σ))
def cellV (X : Nat → Int32) (L : Nat) (σ : Sg) : Cl := (nuV X L (c2 X L σ), nuV X L (c4 X L σ), if isT X L 120 (c5 X L σ) = true then -(nuV X L (c6 X L σ)) else nuV X L (c6 X L σ), if isT X L 121 (c7 X L σ) = true then 1 else 0)
def l2 (X : Nat → Int32) (L : Nat) (nl : List (List Int32)) (σ : Sg) : Sg := nwN X L nl (nx σ)
def l4 (X : Nat → Int32) (L : Nat) (nl : List (List Int32)) (σ : Sg) : Sg := dm X L 59 (ac X L 107 (l2 X L nl σ))
def landV (X : Nat → Int32) (L : Nat) (nl : List (List Int32)) (σ : Sg) : Ld := (nmV X L (nx σ), if isT X L 107 (l2 X L nl σ) = true then 1 else 0)
abbrev St : Type := Sg × List Cl × List Ld × Nat
def stp1 (X : Nat → Int32) (L : Nat) (q : St) : St := if sTy X L q.1 = 116 ∧ q.2.1.length < 20 then (c9 X L q.1, q.2.1 ++ [cellV X L q.1], q.2.2.1, q.2.2.2 + 1) else if sTy X L q.1 = 112 ∧ q.2.2.1.length < 8 then (l4 X L (q.2.2.1.map (·.1)) q.1, q.2.1, q.2.2.1 ++ [landV X L (q.2.2.1.map (·.1)) q.1], q.2.2.2 + 1) else (rf X L 2 q.1, q.2.1, q.2.2.1, q.2.2.2 + 1)
def stR1 (X : Nat → Int32) (L : Nat) : Nat → St → St
  | 0, q => q
  | f + 1, q => if sTy X L q.1 = 0 then q else stR1 X L f (stp1 X L q)
theorem gd_nx {σ : Sg} : gd (nx σ) = gd σ := by cases σ <;> rfl
theorem gd_rf {σ : Sg} {c : Nat} : gd (rf X L c σ) = false := by cases σ <;> rfl
theorem gd_dm {σ : Sg} {ty : Nat} (h : gd (dm X L ty σ) = true) : gd σ = true ∧ isT X L ty σ = true ∧ dm X L ty σ = nx σ := by
  unfold dm at *
  split at h
  · rename_i ht; rw [gd_nx] at h; exact ⟨h, ht, if_pos ht⟩
  · rw [gd_rf] at h; cases h
theorem gd_nb {σ : Sg} {lo hi : Int32} (h : gd (nb X L lo hi σ) = true) : gd σ = true ∧ isT X L 3 σ = true ∧ (lo ≤ nuV X L σ ∧ nuV X L σ ≤ hi) ∧ nb X L lo hi σ = nx σ := by
  unfold nb at *
  split at h
  · rename_i ht
    split at h
    · rename_i hr; rw [gd_nx] at h; exact ⟨h, ht, hr, by rw [if_pos ht, if_pos hr]⟩
    · rw [gd_rf] at h; cases h
  · rw [gd_rf] at h; cases h
theorem gd_ac {σ : Sg} {ty : Nat} : gd (ac X L ty σ) = gd σ := by
  unfold ac
  split
  · exact gd_nx
  · rfl
theorem gd_nw {σ : Sg} {nl : List (List Int32)} (h : gd (nwN X L nl σ) = true) : gd σ = true ∧ isT X L 2 σ = true ∧ ixN nl (nmV X L σ) = none ∧ nwN X L nl σ = nx σ := by
  unfold nwN at *
  split at h
  · rename_i ht
    split at h
    · rename_i hr; rw [gd_nx] at h; exact ⟨h, ht, hr, by rw [if_pos ht, if_pos hr]⟩
    · rw [gd_rf] at h; cases h
  · rw [gd_rf] at h; cases h
theorem gd_kn {σ : Sg} {nl : List (List Int32)} (h : gd (knN X L nl σ) = true) : gd σ = true ∧ isT X L 2 σ = true ∧ ixN nl (nmV X L σ) ≠ none ∧ knN X L nl σ = nx σ := by
  unfold knN at *
  split at h
  · rename_i ht
    split at h
    · rw [gd_rf] at h; cases h
    · rename_i hr; rw [gd_nx] at h; exact ⟨h, ht, hr, by rw [if_pos ht, if_neg hr]⟩
  · rw [gd_rf] at h; cases h
theorem gd_c6 {σ : Sg} (h : gd (c6 X L σ) = true) : gd (c5 X L σ) = true ∧ c6 X L σ = nx (c5 X L σ) := by
  unfold c6 at *
  split at h
  · rename_i ht; rw [gd_nx] at h; exact ⟨h, if_pos ht⟩
  · rename_i ht; have := gd_dm h; exact ⟨this.1, by rw [if_neg ht]; exact this.2.2⟩
theorem gd_c9 {σ : Sg} (h : gd (c9 X L σ) = true) : gd σ = true ∧ isT X L 3 (c2 X L σ) = true ∧ isT X L 3 (c4 X L σ) = true ∧ isT X L 3 (c6 X L σ) = true ∧ (1 ≤ nuV X L (c2 X L σ) ∧ nuV X L (c2 X L σ) ≤ 99) ∧ (0 ≤ nuV X L (c4 X L σ) ∧ nuV X L (c4 X L σ) ≤ 9) ∧ (0 ≤ nuV X L (c6 X L σ) ∧ nuV X L (c6 X L σ) ≤ 9) ∧ gd (c7 X L σ) = true := by
  have h1 := gd_dm h
  have h2 : gd (c7 X L σ) = true := by rw [← gd_ac (X := X) (L := L) (ty := 121)]; exact h1.1
  have h3 := gd_nb (show gd (nb X L 0 9 (c6 X L σ)) = true from h2)
  have h4 := gd_c6 h3.1
  have h5 := gd_nb (show gd (nb X L 0 9 (c4 X L σ)) = true from h4.1)
  have h6 := gd_dm (show gd (dm X L 118 (nb X L 1 99 (c2 X L σ))) = true from h5.1)
  have h7 := gd_nb h6.1
  have h8 := gd_dm (show gd (dm X L 117 (nx σ)) = true from h7.1)
  exact ⟨by rw [← gd_nx]; exact h8.1, h7.2.1, h5.2.1, h3.2.1, h7.2.2.1, h5.2.2.1, h3.2.2.1, h2⟩
theorem goF_congr {f g : Nat → Int32} : ∀ n, (∀ i, i < n → f i = g i) → goF f n = goF g n ∧ goT f n = goT g n := by
  intro n
  induction n with
  | zero => intro _; exact ⟨rfl, rfl⟩
  | succ n ih =>
    intro h
    obtain ⟨h1, h2⟩ := ih (fun i hi => h i (by omega))
    unfold goF goT
    rw [h1, h2, h n (by omega)]
    exact ⟨rfl, rfl⟩
end STM
def zC : Cl := (0, 0, 0, 0)
def zL : Ld := ([], 0)
def narF (cs : List Cl) (i : Nat) : Int32 := (cs.getD i zC).2.2.2
/-- a strait's object, as far as it is read -/
def StC (S : ms_S) (a : Nat) (cs : List Cl) (ls : List Ld) (n : Nat) : Prop := ms_I S a 4 = Int32.ofNat cs.length ∧ ms_I S a 7 = Int32.ofNat ls.length ∧ ms_I S a 8 = Int32.ofNat n ∧ ms_I S a 9 = goF (narF cs) cs.length ∧ ms_I S a 10 = goT (narF cs) cs.length
  ∧ (∀ i, i < cs.length → ms_A S (a + 1) i = (cs.getD i zC).1 ∧ ms_A S (a + 2) i = (cs.getD i zC).2.1 ∧ ms_A S (a + 3) i = (cs.getD i zC).2.2.1 ∧ ms_A S (a + 4) i = (cs.getD i zC).2.2.2)
  ∧ NLc S (a + 5) (ls.map (·.1)) ∧ (∀ i, i < ls.length → ms_A S (a + 6) i = (ls.getD i zL).2)
theorem getD_snoc {α : Type} {l : List α} {x d : α} {p : Nat} : (l ++ [x]).getD p d = if p < l.length then l.getD p d else if p = l.length then x else d := by
  rw [List.getD_eq_getElem?_getD, List.getElem?_append]
  by_cases h : p < l.length
  · rw [if_pos h, if_pos h, List.getD_eq_getElem?_getD]
  · rw [if_neg h, if_neg h]
    by_cases e : p = l.length
    · rw [if_pos e, e, Nat.sub_self]; rfl
    · rw [if_neg e]
      rw [List.getElem?_eq_none (by simp; omega)]
      rfl
def offSt (a : Nat) (S S1 : ms_S) : Prop := (∀ j, ¬ (5 ≤ j ∧ j ≤ 7) → ms_I S1 6 j = ms_I S 6 j) ∧ ∀ b, b ≠ 6 → ¬ (a ≤ b ∧ b ≤ a + 6) → Eqc S S1 b
theorem offSt.rf {a : Nat} {S : ms_S} : offSt a S S := ⟨fun _ _ => rfl, fun _ _ _ => Eqc.rf⟩
theorem offSt.tr {a : Nat} {S S1 S2 : ms_S} (h : offSt a S S1) (q : offSt a S1 S2) : offSt a S S2 := ⟨fun j hj => (q.1 j hj).trans (h.1 j hj), fun b hb hb2 => (h.2 b hb hb2).tr (q.2 b hb hb2)⟩
theorem offX.s {a : Nat} {S S1 : ms_S} (h : offX S S1) : offSt a S S1 := ⟨h.1, fun b hb _ => h.2 b hb⟩
theorem offSt.A {a k i : Nat} {S : ms_S} {v : Int32} (h6 : k ≠ 6) (hk : a ≤ k ∧ k ≤ a + 6) : offSt a S (ms_setA S k i v) := ⟨fun j _ => by simp only [mGo], fun b hb hb2 => Eqc_A (by omega)⟩
theorem offSt.I {a i : Nat} {S : ms_S} {v : Int32} (h6 : a ≠ 6) : offSt a S (ms_setI S a i v) := ⟨fun j _ => by simp only [mG, show ¬ ((6 : Nat) = a) from fun q => h6 q.symm, false_and, if_false], fun b hb hb2 => Eqc_I (by omega)⟩
section STC
variable {N : Nat} {X : Nat → Int32} {L : Nat} {a : Nat}
theorem CS_A {S : ms_S} {σ : Sg} {k i : Nat} {v : Int32} (h : CS S X L σ) (hk : k ≠ 8) (hk2 : k ≠ 9) : CS (ms_setA S k i v) X L σ := by
  obtain ⟨⟨h1, h2⟩, h3, h4, h5⟩ := h
  refine ⟨⟨by simp only [mGo]; exact h1, fun j hj => ?_⟩, by simp only [mGo]; exact h3, h4, ?_⟩
  · rw [(Eqc_A (show (8 : Nat) ≠ k from fun q => hk q.symm)).2.2.2.1, (Eqc_A (show (9 : Nat) ≠ k from fun q => hk2 q.symm)).2.2.2.1]
    simp only [mGo]
    exact h2 j hj
  · cases σ with
    | inl e => simp only [mGo]; exact h5
    | inr j => simp only [mGo]; exact h5
theorem CS_I {S : ms_S} {σ : Sg} {k i : Nat} {v : Int32} (h : CS S X L σ) (hk : k ≠ 6) : CS (ms_setI S k i v) X L σ := by
  have e6 : ∀ j, ms_I (ms_setI S k i v) 6 j = ms_I S 6 j := fun j => by simp only [mG, show ¬ ((6 : Nat) = k) from fun q => hk q.symm, false_and, if_false]
  obtain ⟨⟨h1, h2⟩, h3, h4, h5⟩ := h
  refine ⟨⟨by rw [e6]; exact h1, fun j hj => ?_⟩, by rw [e6]; exact h3, h4, ?_⟩
  · simp only [mGo]
    exact h2 j hj
  · cases σ with
    | inl e => rw [e6, e6]; exact h5
    | inr j => rw [e6, e6]; exact h5
theorem CS_L {S : ms_S} {σ : Sg} {k i : Nat} {v : Int64} (h : CS S X L σ) (hk : k ≠ 10) : CS (ms_setL S k i v) X L σ := by
  obtain ⟨⟨h1, h2⟩, h3, h4, h5⟩ := h
  refine ⟨⟨by simp only [mGo]; exact h1, fun j hj => ?_⟩, by simp only [mGo]; exact h3, h4, ?_⟩
  · rw [(Eqc_L (show (10 : Nat) ≠ k from fun q => hk q.symm)).2.2.2.2.1]
    simp only [mGo]
    exact h2 j hj
  · cases σ with
    | inl e => simp only [mGo]; exact h5
    | inr j => simp only [mGo]; exact h5
set_option maxHeartbeats 2000000 in
theorem q73 {S : ms_S} {j n : Nat} {cs : List Cl} {ls : List Ld} (ha : a = 11 ∨ a = 20) (hb : TxB X L) (h : CS S X L (.inr j)) (ht : tTy (tkJ X L j) = 116) (hc : cs.length < 20) (hs : StC S a cs ls n) : ∃ S1, f73 N a S = some ((), S1) ∧ CS S1 X L (c9 X L (.inr j)) ∧ (gd (c9 X L (.inr j)) = true → StC S1 a (cs ++ [cellV X L (.inr j)]) ls n) ∧ offSt a S S1 := by
  obtain ⟨s4, s7, s8, s9, s10, sAr, sN, sS⟩ := hs
  have C0 : ∃ c, c = cs.length := ⟨_, rfl⟩
  obtain ⟨c, hcc⟩ := C0
  rw [← hcc] at s4 s9 s10 sAr hc
  have k1 : inR (Int32.ofNat c) 20 := ofN_inR (by omega) (by omega)
  have k2 := ofN_cl (i := c) (by omega)
  have fI : ∀ {S' S'' : ms_S}, offX S' S'' → ms_I S'' a = ms_I S' a := fun o => (o.2 a (by omega)).1
  -- depth
  obtain ⟨S1, e1, q1, o1⟩ := q100 (N := N) hb h (by omega)
  obtain ⟨S2, e2, q2, o2⟩ := q103 (N := N) (ty := 117) hb (by omega) q1
  obtain ⟨v3, S3, e3, p3, q3, o3⟩ := q104 (N := N) (lo := 1) (hi := 99) hb q2
  have W1e : ∃ W, W = ms_setA S3 (a + 1) c v3 := ⟨_, rfl⟩
  obtain ⟨W1, hW1⟩ := W1e
  have g1 : offX S S3 := (o1.tr o2).tr o3
  have q3 : CS W1 X L (nb X L 1 99 (c2 X L (.inr j))) := by rw [hW1]; exact CS_A q3 (by omega) (by omega)
  have w1I : ms_I W1 a = ms_I S a := by rw [hW1]; simp only [mGo]; exact fI g1
  -- bend
  obtain ⟨S4, e4, q4, o4⟩ := q103 (N := N) (ty := 118) hb (by omega) q3
  obtain ⟨v5, S5, e5, p5, q5, o5⟩ := q104 (N := N) (lo := 0) (hi := 9) hb q4
  have W2e : ∃ W, W = ms_setA S5 (a + 2) c v5 := ⟨_, rfl⟩
  obtain ⟨W2, hW2⟩ := W2e
  have g2 : offX W1 S5 := o4.tr o5
  have q5 : CS W2 X L (c5 X L (.inr j)) := by rw [hW2]; exact CS_A q5 (by omega) (by omega)
  have w2I : ms_I W2 a = ms_I S a := by rw [hW2]; simp only [mGo]; rw [fI g2, w1I]
  -- current
  obtain ⟨S6, e6, q6, o6⟩ := q102 (N := N) (ty := 120) hb (by omega) q5
  have key6 : ∃ S7, ((isT X L 120 (c5 X L (.inr j)) = true ∧ S7 = S6) ∨ (¬ isT X L 120 (c5 X L (.inr j)) = true ∧ f103 N 119 S6 = some ((), S7))) ∧ CS S7 X L (c6 X L (.inr j)) ∧ offX S6 S7 := by
    unfold ac at q6
    unfold c6
    by_cases hb120 : isT X L 120 (c5 X L (.inr j)) = true
    · rw [if_pos hb120] at q6
      rw [if_pos hb120]
      exact ⟨S6, Or.inl ⟨hb120, rfl⟩, q6, offX.rf⟩
    · rw [if_neg hb120] at q6
      rw [if_neg hb120]
      obtain ⟨S7, e7, q7, o7⟩ := q103 (N := N) (ty := 119) hb (by omega) q6
      exact ⟨S7, Or.inr ⟨hb120, e7⟩, q7, o7⟩
  obtain ⟨S7, e7, q7, o7⟩ := key6
  obtain ⟨v8, S8, e8, p8, q8, o8⟩ := q104 (N := N) (lo := 0) (hi := 9) hb q7
  have V0 : ∃ v : Int32, v = if isT X L 120 (c5 X L (.inr j)) = true then -v8 else v8 := ⟨_, rfl⟩
  obtain ⟨vc, hvc⟩ := V0
  have W3e : ∃ W, W = ms_setA S8 (a + 3) c vc := ⟨_, rfl⟩
  obtain ⟨W3, hW3⟩ := W3e
  have g3 : offX W2 S8 := (o6.tr o7).tr o8
  have q8 : CS W3 X L (c7 X L (.inr j)) := by rw [hW3]; exact CS_A q8 (by omega) (by omega)
  have w3I : ms_I W3 a = ms_I S a := by rw [hW3]; simp only [mGo]; rw [fI g3, w2I]
  -- narrow
  obtain ⟨S9, e9, q9, o9⟩ := q102 (N := N) (ty := 121) hb (by omega) q8
  have N0 : ∃ v : Int32, v = if isT X L 121 (c7 X L (.inr j)) = true then 1 else 0 := ⟨_, rfl⟩
  obtain ⟨vn, hvn⟩ := N0
  have vn01 : vn = 0 ∨ vn = 1 := by rw [hvn]; split <;> simp
  rw [← hvn] at e9
  have W4e : ∃ W, W = ms_setA S9 (a + 4) c vn := ⟨_, rfl⟩
  obtain ⟨W4, hW4⟩ := W4e
  have q9 : CS W4 X L (ac X L 121 (c7 X L (.inr j))) := by rw [hW4]; exact CS_A q9 (by omega) (by omega)
  have w4I : ms_I W4 a = ms_I S a := by rw [hW4]; simp only [mGo]; rw [fI o9, w3I]
  obtain ⟨S10, e10, q10, o10⟩ := q103 (N := N) (ty := 59) hb (by omega) q9
  have t10I : ms_I S10 a = ms_I S a := by rw [fI o10, w4I]
  have a4 : ms_A S10 (a + 4) c = vn := by rw [(o10.2 (a + 4) (by omega)).2.2.2.1, hW4]; simp [mG]
  -- the gorge
  have GT : ∃ S11, (if vn = 0 then (some ((), ms_setI S10 a 4 (Int32.ofNat (c + 1))) : Option (Unit × ms_S)) else some ((), ms_setI (ms_setI (ms_setI S10 a 9 (if goF (narF cs) c = -1 then Int32.ofNat c else goF (narF cs) c)) a 10 (Int32.ofNat c)) a 4 (Int32.ofNat (c + 1)))) = some ((), S11) ∧ ms_I S11 a 4 = Int32.ofNat (c + 1) ∧ ms_I S11 a 7 = ms_I S a 7 ∧ ms_I S11 a 8 = ms_I S a 8 ∧ ms_I S11 a 9 = (if goF (narF cs) c = -1 ∧ vn ≠ 0 then Int32.ofNat c else goF (narF cs) c) ∧ ms_I S11 a 10 = (if vn ≠ 0 then Int32.ofNat c else goT (narF cs) c) ∧ ms_A S11 = ms_A S10 ∧ ms_L S11 = ms_L S10 ∧ offSt a S10 S11 ∧ CS S11 X L (c9 X L (.inr j)) := by
    by_cases h0 : vn = 0
    · rw [if_pos h0]
      refine ⟨_, rfl, by simp [mG], by simp [mG]; rw [t10I], by simp [mG]; rw [t10I], ?_, ?_, by simp only [mGo], by simp only [mGo], offSt.I (by omega), CS_I q10 (by omega)⟩
      · rw [if_neg (fun q => q.2 h0)]; simp [mG]; rw [t10I]; exact s9
      · rw [if_neg (fun q => q h0)]; simp [mG]; rw [t10I]; exact s10
    · rw [if_neg h0]
      refine ⟨_, rfl, by simp [mG], by simp [mG]; rw [t10I], by simp [mG]; rw [t10I], ?_, ?_, by simp only [mGo], by simp only [mGo], ((offSt.I (by omega)).tr (offSt.I (by omega))).tr (offSt.I (by omega)), CS_I (CS_I (CS_I q10 (by omega)) (by omega)) (by omega)⟩
      · simp only [mG, true_and, show ¬ ((9 : Nat) = 4) by decide, show ¬ ((9 : Nat) = 10) by decide, if_false, if_true]
        by_cases hm : goF (narF cs) c = -1
        · rw [if_pos hm, if_pos ⟨hm, h0⟩]
        · rw [if_neg hm, if_neg (fun q => hm q.1)]
      · rw [if_pos h0]; simp [mG]
  obtain ⟨S11, e11, r4, r7, r8, r9, r10, rA, rL, o11, q11⟩ := GT
  refine ⟨S11, ?_, q11, fun hg => ?_, ?_⟩
  · have m1 : ∀ {β : Type} {f' : Unit → mM β}, mb (f100 N) f' S = f' () S1 := by intro β f'; simp only [mb, e1]
    have m2 : ∀ {β : Type} {f' : Unit → mM β}, mb (f103 N 117) f' S1 = f' () S2 := by intro β f'; have e2 : f103 N 117 S1 = _ := e2; simp only [mb, e2]
    have m3 : ∀ {β : Type} {f' : Int32 → mM β}, mb (f104 N 1 99) f' S2 = f' v3 S3 := by intro β f'; simp only [mb, e3]
    have m4 : ∀ {β : Type} {f' : Unit → mM β}, mb (f103 N 118) f' W1 = f' () S4 := by intro β f'; have e4 : f103 N 118 W1 = _ := e4; simp only [mb, e4]
    have m5 : ∀ {β : Type} {f' : Int32 → mM β}, mb (f104 N 0 9) f' S4 = f' v5 S5 := by intro β f'; simp only [mb, e5]
    have m6 : ∀ {β : Type} {f' : Int32 → mM β}, mb (f102 N 120) f' W2 = f' (if isT X L 120 (c5 X L (.inr j)) = true then 1 else 0) S6 := by intro β f'; have e6 : f102 N 120 W2 = _ := e6; simp only [mb, e6]
    have m8 : ∀ {β : Type} {f' : Int32 → mM β}, mb (f104 N 0 9) f' S7 = f' v8 S8 := by intro β f'; simp only [mb, e8]
    have m9 : ∀ {β : Type} {f' : Int32 → mM β}, mb (f102 N 121) f' W3 = f' vn S9 := by intro β f'; have e9 : f102 N 121 W3 = _ := e9; simp only [mb, e9]
    have m10 : ∀ {β : Type} {f' : Unit → mM β}, mb (f103 N 59) f' W4 = f' () S10 := by intro β f'; have e10 : f103 N 59 W4 = _ := e10; simp only [mb, e10]
    have i2 : ms_I S2 a 4 = Int32.ofNat c := by rw [fI (o1.tr o2)]; exact s4
    have i4 : ms_I S4 a 4 = Int32.ofNat c := by rw [fI o4, w1I]; exact s4
    have i8 : ms_I S8 a 4 = Int32.ofNat c := by rw [fI g3, w2I]; exact s4
    have i3 : ms_I W3 a 4 = Int32.ofNat c := by rw [w3I]; exact s4
    have i10 : ms_I S10 a 4 = Int32.ofNat c := by rw [t10I]; exact s4
    have i109 : ms_I S10 a 9 = goF (narF cs) c := by rw [t10I]; exact s9
    unfold f73
    simp only [mE]
    rw [m1, m2]
    simp only [mE, i2]
    rw [m3]
    simp only [mE, k1, k2, ← hW1]
    rw [m4]
    simp only [mE, i4]
    rw [m5]
    simp only [mE, k1, k2, ← hW2]
    rw [m6]
    have tail : ∀ (w : Int32), (mb (sA (a + 3) 20 (Int32.ofNat c) vc) fun _ => mb (gI a 4) fun v5 => mb (f102 N 121) fun v7 => mb (sB (a + 4) 20 v5 v7) fun _ => mb (f103 N 59) fun _ => mb (gI a 4) fun v11 => mb (lA (a + 4) 20 v11) fun v13 => if v13 = 0 then (mb (gI a 4) fun v1 => mb (pI a 4 (v1 + 1)) fun _ => mret ()) else (mb (gI a 9) fun v19 => if v19 ≠ (-1) then (mb (gI a 9) fun v21 => (mb (pI a 9 v21) fun _ => mb (gI a 4) fun v16 => mb (pI a 10 v16) fun _ => (mb (gI a 4) fun v1 => mb (pI a 4 (v1 + 1)) fun _ => mret ()))) else (mb (gI a 4) fun v23 => (mb (pI a 9 v23) fun _ => mb (gI a 4) fun v16 => mb (pI a 10 v16) fun _ => (mb (gI a 4) fun v1 => mb (pI a 4 (v1 + 1)) fun _ => mret ()))))) S8 = some ((), S11) := by
      intro w
      simp only [mE, k1, k2, ← hW3, i3]
      rw [m9]
      simp only [mE, k1, k2, vpb vn01, ← hW4]
      rw [m10]
      simp only [mE, i10, k1, k2, a4, i109]
      rw [← e11]
      by_cases h0 : vn = 0
      · rw [if_pos h0, if_pos h0, ofN_s]
      · rw [if_neg h0, if_neg h0]
        have z4 : ∀ w, ms_I (ms_setI S10 a 9 w) a 4 = Int32.ofNat c := fun w => by simp [mG]; exact i10
        have z4b : ∀ w u, ms_I (ms_setI (ms_setI S10 a 9 w) a 10 u) a 4 = Int32.ofNat c := fun w u => by simp [mG]; exact i10
        by_cases hm : goF (narF cs) c = -1
        · rw [if_neg (fun q => q hm), if_pos hm]
          simp only [mE, z4, z4b, ofN_s]
        · rw [if_pos hm, if_neg hm]
          simp only [mE, z4, z4b, ofN_s]
    rcases e7 with ⟨hb120, e7⟩ | ⟨hb120, e7⟩
    · rw [if_pos hb120] at hvc
      rw [if_pos hb120, if_pos (by decide), ← e7, m8]
      simp only [mE, i8]
      rw [if_neg (by decide), ← hvc]
      exact tail 0
    · rw [if_neg hb120] at hvc
      have m7 : ∀ {β : Type} {f' : Unit → mM β}, mb (f103 N 119) f' S6 = f' () S7 := by intro β f'; simp only [mb, e7]
      rw [if_neg hb120, if_neg (fun q => q rfl), m7, m8]
      simp only [mE, i8]
      rw [if_pos trivial, ← hvc]
      exact tail 0
  · obtain ⟨_, g3', g5', g8', _⟩ := gd_c9 hg
    have ev3 := p3 g3'
    have ev5 := p5 g5'
    have ev8 := p8 g8'
    have eV : cellV X L (.inr j) = (v3, v5, vc, vn) := by
      rw [hvc, hvn, ev3, ev5, ev8]
      rfl
    have xA : ∀ i, ms_A S11 (a + 1) i = (if i = c then v3 else ms_A S (a + 1) i) ∧ ms_A S11 (a + 2) i = (if i = c then v5 else ms_A S (a + 2) i) ∧ ms_A S11 (a + 3) i = (if i = c then vc else ms_A S (a + 3) i) ∧ ms_A S11 (a + 4) i = (if i = c then vn else ms_A S (a + 4) i) := by
      intro i
      rw [rA, (o10.2 (a + 1) (by omega)).2.2.2.1, (o10.2 (a + 2) (by omega)).2.2.2.1, (o10.2 (a + 3) (by omega)).2.2.2.1, (o10.2 (a + 4) (by omega)).2.2.2.1, hW4]
      simp only [mG, true_and, show ¬ (a + 1 = a + 4) by omega, show ¬ (a + 2 = a + 4) by omega, show ¬ (a + 3 = a + 4) by omega, false_and, if_false]
      rw [(o9.2 (a + 1) (by omega)).2.2.2.1, (o9.2 (a + 2) (by omega)).2.2.2.1, (o9.2 (a + 3) (by omega)).2.2.2.1, (o9.2 (a + 4) (by omega)).2.2.2.1, hW3]
      simp only [mG, true_and, show ¬ (a + 1 = a + 3) by omega, show ¬ (a + 2 = a + 3) by omega, show ¬ (a + 4 = a + 3) by omega, false_and, if_false]
      rw [(g3.2 (a + 1) (by omega)).2.2.2.1, (g3.2 (a + 2) (by omega)).2.2.2.1, (g3.2 (a + 3) (by omega)).2.2.2.1, (g3.2 (a + 4) (by omega)).2.2.2.1, hW2]
      simp only [mG, true_and, show ¬ (a + 1 = a + 2) by omega, show ¬ (a + 3 = a + 2) by omega, show ¬ (a + 4 = a + 2) by omega, false_and, if_false]
      rw [(g2.2 (a + 1) (by omega)).2.2.2.1, (g2.2 (a + 2) (by omega)).2.2.2.1, (g2.2 (a + 3) (by omega)).2.2.2.1, (g2.2 (a + 4) (by omega)).2.2.2.1, hW1]
      simp only [mG, true_and, show ¬ (a + 2 = a + 1) by omega, show ¬ (a + 3 = a + 1) by omega, show ¬ (a + 4 = a + 1) by omega, false_and, if_false]
      rw [(g1.2 (a + 1) (by omega)).2.2.2.1, (g1.2 (a + 2) (by omega)).2.2.2.1, (g1.2 (a + 3) (by omega)).2.2.2.1, (g1.2 (a + 4) (by omega)).2.2.2.1]
      exact ⟨rfl, rfl, rfl, rfl⟩
    have x6 : ms_A S11 (a + 6) = ms_A S (a + 6) := by
      rw [rA, (o10.2 (a + 6) (by omega)).2.2.2.1, hW4, (Eqc_A (show a + 6 ≠ a + 4 by omega)).2.2.2.1, (o9.2 (a + 6) (by omega)).2.2.2.1, hW3, (Eqc_A (show a + 6 ≠ a + 3 by omega)).2.2.2.1, (g3.2 (a + 6) (by omega)).2.2.2.1, hW2, (Eqc_A (show a + 6 ≠ a + 2 by omega)).2.2.2.1, (g2.2 (a + 6) (by omega)).2.2.2.1, hW1, (Eqc_A (show a + 6 ≠ a + 1 by omega)).2.2.2.1, (g1.2 (a + 6) (by omega)).2.2.2.1]
    have xL : ms_L S11 (a + 5) = ms_L S (a + 5) := by
      rw [rL, (o10.2 (a + 5) (by omega)).2.2.2.2.1, hW4]
      simp only [mGo]
      rw [(o9.2 (a + 5) (by omega)).2.2.2.2.1, hW3]
      simp only [mGo]
      rw [(g3.2 (a + 5) (by omega)).2.2.2.2.1, hW2]
      simp only [mGo]
      rw [(g2.2 (a + 5) (by omega)).2.2.2.2.1, hW1]
      simp only [mGo]
      rw [(g1.2 (a + 5) (by omega)).2.2.2.2.1]
    have nar : ∀ i, i < c → narF (cs ++ [cellV X L (.inr j)]) i = narF cs i := fun i hi => by
      unfold narF
      rw [getD_snoc, ← hcc, if_pos hi]
    have narc : narF (cs ++ [cellV X L (.inr j)]) c = vn := by
      unfold narF
      rw [getD_snoc, ← hcc, if_neg (Nat.lt_irrefl _), if_pos rfl, eV]
    obtain ⟨gc1, gc2⟩ := goF_congr (f := narF (cs ++ [cellV X L (.inr j)])) (g := narF cs) c nar
    refine ⟨by rw [r4, List.length_append, ← hcc]; rfl, by rw [r7]; exact s7, by rw [r8]; exact s8, ?_, ?_, fun i hi => ?_, fun i hi => by rw [xL]; exact sN i hi, fun i hi => by rw [x6]; exact sS i hi⟩
    · rw [r9, List.length_append, ← hcc]
      rw [show goF (narF (cs ++ [cellV X L (.inr j)])) (c + [cellV X L (.inr j)].length) = if goF (narF (cs ++ [cellV X L (.inr j)])) c = -1 ∧ narF (cs ++ [cellV X L (.inr j)]) c ≠ 0 then Int32.ofNat c else goF (narF (cs ++ [cellV X L (.inr j)])) c from rfl, gc1, narc]
    · rw [r10, List.length_append, ← hcc]
      rw [show goT (narF (cs ++ [cellV X L (.inr j)])) (c + [cellV X L (.inr j)].length) = if narF (cs ++ [cellV X L (.inr j)]) c ≠ 0 then Int32.ofNat c else goT (narF (cs ++ [cellV X L (.inr j)])) c from rfl, gc2, narc]
    · rw [List.length_append, ← hcc] at hi
      have hi : i < c + 1 := hi
      obtain ⟨x1, x2, x3, x4⟩ := xA i
      rw [x1, x2, x3, x4, getD_snoc, ← hcc]
      by_cases e : i = c
      · rw [if_pos e, if_pos e, if_pos e, if_pos e, if_neg (by omega), if_pos e, eV]; exact ⟨rfl, rfl, rfl, rfl⟩
      · rw [if_pos (show i < c by omega), if_neg e, if_neg e, if_neg e, if_neg e]; exact sAr i (by omega)
  · have f1 : offSt a S W1 := by rw [hW1]; exact g1.s.tr (offSt.A (by omega) (by omega))
    have f2 : offSt a W1 W2 := by rw [hW2]; exact g2.s.tr (offSt.A (by omega) (by omega))
    have f3 : offSt a W2 W3 := by rw [hW3]; exact g3.s.tr (offSt.A (by omega) (by omega))
    have f4 : offSt a W3 W4 := by rw [hW4]; exact o9.s.tr (offSt.A (by omega) (by omega))
    exact ((((f1.tr f2).tr f3).tr f4).tr o10.s).tr o11
end STC
