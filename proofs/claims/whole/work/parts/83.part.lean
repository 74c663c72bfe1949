/-! part: both -/
def pickP (A : Ab) (a b : Nat) (r : Option T4) (w : Int32) : Int32 := match r with
  | none => -2
  | some q => if w = 0 then Int32.ofNat q.1 else if w = 1 then Int32.ofNat q.2.1 else if w = 2 then Int32.ofNat q.2.2.1 else if w = 3 then Int32.ofNat q.2.2.2 else if w = 4 then kdP A a q.1 q.2.1 q.2.2.1 q.2.2.2 else kdP A b q.1 q.2.1 q.2.2.1 q.2.2.2
def ansPart (A : Ab) (x y w : Int32) : Int32 := if (0 ≤ x ∧ x < 4) ∧ (0 ≤ y ∧ y < 4) ∧ 0 ≤ w ∧ w ≤ 5 then pickP A x.toNatClampNeg y.toNatClampNeg (partM A x.toNatClampNeg y.toNatClampNeg) w else -2
/-- what the class keeps of its last search -/
def CTok (S : ms_S) (A : Ab) : Prop := ms_I S 77 4 = ms_I S 4 20 → ∃ a b, a < 4 ∧ b < 4 ∧ a ≠ b ∧ ms_I S 77 2 = Int32.ofNat a ∧ ms_I S 77 3 = Int32.ofNat b ∧ ResP S A a b (partM A a b)
section PRT
variable {N : Nat} {S : ms_S} {A : Ab}
theorem q53 {x y c : Int32} : f53 N x y c S = some (if ms_I S 77 2 = x ∧ ms_I S 77 3 = y ∧ ms_I S 77 4 = c then 0 else 1, ms_setI (ms_setI (ms_setI S 77 2 x) 77 3 y) 77 4 c) := by
  unfold f53
  simp only [mE]
  by_cases h1 : ms_I S 77 2 = x
  · by_cases h2 : ms_I S 77 3 = y
    · by_cases h3 : ms_I S 77 4 = c
      · simp only [h1, h2, h3, ne_eq, not_true_eq_false, if_false, and_self, if_true, i10, not_false_eq_true]
        simp only [mE, true_or]
      · simp only [h1, h2, h3, ne_eq, not_true_eq_false, not_false_eq_true, if_false, if_true, and_false]
        simp only [mE, or_true]
    · simp only [h1, h2, ne_eq, not_true_eq_false, not_false_eq_true, if_false, if_true, false_and, and_false]
      simp only [mE, or_true]
  · simp only [h1, ne_eq, not_true_eq_false, not_false_eq_true, if_false, if_true, false_and]
    simp only [mE, or_true]
theorem pick_C {a b : Nat} {r : Option T4} {w : Int32} (h : ResP S A a b r) (hw : 0 ≤ w ∧ w ≤ 5) : (mb (gI 77 0) fun v7 => if v7 = 0 then mret (-2) else (mb (lA 78 6 w) fun v9 => mret v9)) S = some (pickP A a b r w, S) := by
  simp only [mE]
  cases r with
  | none =>
    have h : ms_I S 77 0 = 0 := h
    rw [if_pos h]; rfl
  | some q =>
    obtain ⟨h0, g0, g1, g2, g3, g4, g5⟩ := h
    rw [if_neg (by rw [h0]; decide)]
    obtain ⟨k, hk, rfl⟩ := i32_nat (x := w) (n := 6) hw.1 (by omega) (by have := hw.2; have := hw.1; clear g0 g1 g2 g3 g4 g5 h0; grind)
    have i1 : inR (Int32.ofNat k) 6 := ofN_inR hk (by omega)
    simp only [mE, i1, ofN_cl (i := k) (by omega)]
    match k, hk with
    | 0, _ => rw [g0]; rfl
    | 1, _ => rw [g1]; rfl
    | 2, _ => rw [g2]; rfl
    | 3, _ => rw [g3]; rfl
    | 4, _ => rw [g4]; rfl
    | 5, _ => rw [g5]; rfl
theorem C_part {x y w : Int32} (hN : 1300 ≤ N) (h : cBase S A) (hw : WF0 A) (hv : WFv A) (hT : CTok S A) : ∃ S1, f139 N x y w S = some (ansPart A x y w, S1) ∧ cBase S1 A ∧ CTok S1 A ∧ (ms_I S1 77 4 = ms_I S 77 4 ∨ ms_I S1 77 4 = ms_I S 4 20) ∧ ∀ c, ¬ (54 ≤ c ∧ c ≤ 56) → ¬ (77 ≤ c ∧ c ≤ 78) → Eqc S S1 c := by
  have hb := h
  obtain ⟨_, _, ⟨st, st2, e3, _, ho, ⟨_, h7, _, _, hsh⟩, _⟩, _, _, _, ⟨p, p1, p2, p3, p4⟩, _⟩ := h
  have ost : o_st st := by rcases ho with h | h; exact Or.inl h.1; exact Or.inr h.1
  have hn3 : aN A 3 ≤ 20 := hw.1.2.2.2.1
  have base : ∀ S1, (∀ c, ¬ (54 ≤ c ∧ c ≤ 56) → ¬ (77 ≤ c ∧ c ≤ 78) → Eqc S S1 c) → cBase S1 A := fun S1 hE => cBase_fr hb hn3 (fun k _ => by rw [(hE 4 (by omega) (by omega)).1]) (by rw [(hE 4 (by omega) (by omega)).2.2.1]) ⟨by rw [(hE 6 (by omega) (by omega)).1], by rw [(hE 6 (by omega) (by omega)).1]⟩ (fun b _ _ _ _ _ _ _ hb => hE b (by omega) (by omega))
  have e143 : ∀ {z : Int32} {β : Type} {f : Int32 → mM β}, mb (f143 N z) f S = f (if 0 ≤ z ∧ z < 4 then 1 else 0) S := by intro z β f; simp only [mb, q143]
  have no : f139 N x y w S = some (-2, S) → ansPart A x y w = -2 → ∃ S1, f139 N x y w S = some (ansPart A x y w, S1) ∧ cBase S1 A ∧ CTok S1 A ∧ (ms_I S1 77 4 = ms_I S 77 4 ∨ ms_I S1 77 4 = ms_I S 4 20) ∧ ∀ c, ¬ (54 ≤ c ∧ c ≤ 56) → ¬ (77 ≤ c ∧ c ≤ 78) → Eqc S S1 c := fun e1 e2 => ⟨S, by rw [e2]; exact e1, hb, hT, Or.inl rfl, fun _ _ _ => Eqc.rf⟩
  by_cases hx : 0 ≤ x ∧ x < 4
  · by_cases hy : 0 ≤ y ∧ y < 4
    · by_cases hz : 0 ≤ w ∧ w ≤ 5
      · obtain ⟨a, ha, rfl⟩ := i32_nat (n := 4) hx.1 (by omega) hx.2
        obtain ⟨b, hb4, rfl⟩ := i32_nat (n := 4) hy.1 (by omega) hy.2
        have hans : ansPart A (Int32.ofNat a) (Int32.ofNat b) w = pickP A a b (partM A a b) w := by
          unfold ansPart
          rw [if_pos ⟨hx, hy, hz⟩, ofN_cl (by omega), ofN_cl (by omega)]
        by_cases hab : a = b
        · subst hab
          refine no ?_ ?_
          · unfold f139
            simp only [mlet]
            rw [e143, if_pos hx, if_neg (by decide), e143, if_pos hx, if_neg (by decide), E141, if_pos hz, if_neg (by decide), if_neg (by simp)]; rfl
          · rw [hans, partM_self]; rfl
        · have hne : Int32.ofNat a ≠ Int32.ofNat b := fun q => hab ((ofN_eq (by omega) (by omega)).1 q)
          have oT : ∀ c, ¬ (77 ≤ c ∧ c ≤ 78) → Eqc S (ms_setI (ms_setI (ms_setI S 77 2 (Int32.ofNat a)) 77 3 (Int32.ofNat b)) 77 4 (ms_I S 4 20)) c := fun c hc => ((Eqc_I (by omega)).tr (Eqc_I (by omega))).tr (Eqc_I (by omega))
          have m53 : ∀ {β : Type} {f : Int32 → mM β}, mb (f53 N (Int32.ofNat a) (Int32.ofNat b) (ms_I S 4 20)) f S = f (if ms_I S 77 2 = Int32.ofNat a ∧ ms_I S 77 3 = Int32.ofNat b ∧ ms_I S 77 4 = ms_I S 4 20 then 0 else 1) (ms_setI (ms_setI (ms_setI S 77 2 (Int32.ofNat a)) 77 3 (Int32.ofNat b)) 77 4 (ms_I S 4 20)) := by intro β f; simp only [mb, q53]
          by_cases hs : ms_I S 77 2 = Int32.ofNat a ∧ ms_I S 77 3 = Int32.ofNat b ∧ ms_I S 77 4 = ms_I S 4 20
          · obtain ⟨a', b', ha', hb', _, q2, q3, r⟩ := hT hs.2.2
            have ea : a' = a := (ofN_eq (by omega) (by omega)).1 (q2.symm.trans hs.1)
            have eb : b' = b := (ofN_eq (by omega) (by omega)).1 (q3.symm.trans hs.2.1)
            subst ea eb
            have r' : ResP (ms_setI (ms_setI (ms_setI S 77 2 (Int32.ofNat a')) 77 3 (Int32.ofNat b')) 77 4 (ms_I S 4 20)) A a' b' (partM A a' b') := by
              unfold ResP at r ⊢
              cases hpm : partM A a' b' with
              | none => rw [hpm] at r; simpa [mG] using r
              | some q => rw [hpm] at r; simpa [mG, mGo] using r
            refine ⟨_, ?_, base _ (fun c h1 h2 => oT c h2), ?_, Or.inr (by simp [mG]), fun c h1 h2 => oT c h2⟩
            · unfold f139
              simp only [mlet]
              rw [e143, if_pos hx, if_neg (by decide), e143, if_pos hy, if_neg (by decide), E141, if_pos hz, if_neg (by decide), if_pos hne]
              simp only [mE]
              rw [m53, if_pos hs, if_pos rfl, hans]
              exact pick_C r' hz
            · intro _
              exact ⟨a', b', ha, hb4, hab, by simp [mG], by simp [mG], r'⟩
          · obtain ⟨S1, e1, r1, o1⟩ := q54 (N := N) (A := A) (pa := p a) (pb := p b) (a := a) (b := b) (st := st) (S := ms_setI (ms_setI (ms_setI S 77 2 (Int32.ofNat a)) 77 3 (Int32.ofNat b)) 77 4 (ms_I S 4 20)) hN ost (p2 a (by omega)) (p2 b (by omega)) ha hb4 hv (by rw [(oT st (by rcases ost with rfl | rfl <;> omega)).1]; exact h7) hw.1.2.2.1 (fun i hi => by rw [(oT (st + 6) (by rcases ost with rfl | rfl <;> omega)).2.2.2.1]; exact hsh i hi) (fun i hi => (hw.2.2.2.2.1 i hi).1) (cCvAt_fr (p4 a ha).2 (fun c h1 h2 => oT c (by rcases p2 a (by omega) with q | q | q | q | q <;> omega))) (cCvAt_fr (p4 b hb4).2 (fun c h1 h2 => oT c (by rcases p2 b (by omega) with q | q | q | q | q <;> omega)))
            rw [part_eq hv ha hb4] at r1
            have oS : ∀ c, ¬ (54 ≤ c ∧ c ≤ 56) → ¬ (77 ≤ c ∧ c ≤ 78) → Eqc S S1 c := fun c h1 h2 => (oT c h2).tr (o1.1 c h1 h2)
            refine ⟨S1, ?_, base S1 oS, ?_, Or.inr (by rw [o1.2 4 (by omega)]; simp [mG]), oS⟩
            · unfold f139
              simp only [mlet]
              rw [e143, if_pos hx, if_neg (by decide), e143, if_pos hy, if_neg (by decide), E141, if_pos hz, if_neg (by decide), if_pos hne]
              simp only [mE]
              rw [m53, if_neg hs, if_neg (by decide)]
              have i1 : inR (Int32.ofNat a) 4 := ofN_inR ha (by omega)
              have i2 : inR (Int32.ofNat b) 4 := ofN_inR hb4 (by omega)
              rw [ElQo i1 (by rw [ofN_cl (by omega), (oT 29 (by omega)).2.2.2.2.2]; exact (p4 a ha).1) (isCv_o (p2 a (by omega))), ElQo i2 (by rw [ofN_cl (by omega), (oT 29 (by omega)).2.2.2.2.2]; exact (p4 b hb4).1) (isCv_o (p2 b (by omega))), EgRo (by rw [(oT 4 (by omega)).2.2.1]; exact e3) (isSt_o ost)]
              have m54 : ∀ {β : Type} {f : Unit → mM β}, mb (f54 N (p a) (p b) st) f (ms_setI (ms_setI (ms_setI S 77 2 (Int32.ofNat a)) 77 3 (Int32.ofNat b)) 77 4 (ms_I S 4 20)) = f () S1 := by intro β f; simp only [mb, e1]
              rw [m54, hans]
              exact pick_C r1 hz
            · intro _
              exact ⟨a, b, ha, hb4, hab, by rw [o1.2 2 (by omega)]; simp [mG], by rw [o1.2 3 (by omega)]; simp [mG], r1⟩
      · refine no ?_ (by unfold ansPart; rw [if_neg (fun q => hz q.2.2)])
        unfold f139
        simp only [mlet]
        rw [e143, if_pos hx, if_neg (by decide), e143, if_pos hy, if_neg (by decide), E141, if_neg hz, if_pos rfl]; rfl
    · refine no ?_ (by unfold ansPart; rw [if_neg (fun q => hy q.2.1)])
      unfold f139
      simp only [mlet]
      rw [e143, if_pos hx, if_neg (by decide), e143, if_neg hy, if_pos rfl]; rfl
  · refine no ?_ (by unfold ansPart; rw [if_neg (fun q => hx q.1)])
    unfold f139
    simp only [mlet]
    rw [e143, if_neg hx, if_pos rfl]; rfl
/-! the reference -/
theorem ofN_div {v k : Nat} (hv : v < 2147483648) (hk : k < 2147483648) : Int32.ofNat v / Int32.ofNat k = Int32.ofNat (v / k) := by
  apply Int32.toInt_inj.mp
  have hd := Nat.div_le_self v k
  rw [Int32.toInt_div, Int32.toInt_ofNat_of_lt hv, Int32.toInt_ofNat_of_lt hk, Int32.toInt_ofNat_of_lt (by omega)]
  have e : Int.tdiv (v : Int) (k : Int) = ((v / k : Nat) : Int) := rfl
  rw [e]
  generalize v / k = z at *
  unfold Int.bmod
  simp only
  omega
theorem ofN_rem {v k : Nat} (hv : v < 2147483648) (hk : k < 2147483648) : Int32.ofNat v - Int32.ofNat v / Int32.ofNat k * Int32.ofNat k = Int32.ofNat (v % k) := by
  rw [ofN_div hv hk, ofN_mul, ofN_sub (Nat.div_mul_le_self v k)]
  congr 1
  have := Nat.div_add_mod v k
  rw [Nat.mul_comm] at this
  omega
theorem Erem {x y : Int32} (hy : y ≠ 0) {β : Type} {f : Int32 → mM β} : mb (mrem x y) f S = f (x - x / y * y) S := by simp only [mb, mrem, if_neg hy]
theorem Ediv2 {x y : Int32} (hy : y ≠ 0) {β : Type} {f : Int32 → mM β} : mb (mdiv x y) f S = f (x / y) S := by simp only [mb, mdiv, if_neg hy]
end PRT
