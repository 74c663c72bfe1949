/-! plan and goes: the class -/
def CQ2 {α : Type} (f : mM α) (S : ms_S) (A : Ab) (v : α) : Prop := ∃ S1, f S = some (v, S1) ∧ cBase S1 A ∧ CLok S1 A ∧ CPok S1 A ∧ (ms_I S1 57 7 = ms_I S 57 7 ∨ ms_I S1 57 7 = ms_I S 4 20) ∧ (ms_I S1 64 3 = ms_I S 64 3 ∨ ms_I S1 64 3 = ms_I S 4 20) ∧ ∀ b, ¬ (54 ≤ b ∧ b ≤ 76) → Eqc S S1 b
theorem CQ2_same {α : Type} {f : mM α} {S : ms_S} {A : Ab} {v : α} (h : cBase S A) (hL : CLok S A) (hP : CPok S A) (e : f S = some (v, S)) : CQ2 f S A v := ⟨S, e, h, hL, hP, Or.inl rfl, Or.inl rfl, fun _ _ => Eqc.rf⟩
def endF (A : Ab) (s : Nat) (k d : Int32) (p : Nat) : Int32 := begF (bst A s k d).2 p + Int32.ofNat (thA A ((dayN8 A s k d).getD p 0))
def lastF (A : Ab) (s : Nat) (k d : Int32) : Nat → Int32
  | 0 => 0
  | n + 1 => if lastF A s k d n < endF A s k d n then endF A s k d n else lastF A s k d n
def ansPlan (A : Ab) (x d w k : Int32) : Int32 := if (0 ≤ x ∧ x < 4) ∧ 0 ≤ d ∧ d < 1000 then
    (if w = 0 then Int32.ofNat (dayN8 A x.toNatClampNeg k d).length else if w = 1 then Int32.ofNat (bst A x.toNatClampNeg k d).1 else if w = 2 then lastF A x.toNatClampNeg k d (dayN8 A x.toNatClampNeg k d).length else -1) else -1
def pickG (A : Ab) (s : Nat) (k d w : Int32) (p : Nat) : Int32 := if w = 0 then Int32.ofNat ((dayN8 A s k d).getD p 0) else if w = 1 then Int32.ofNat (rdA A ((dayN8 A s k d).getD p 0)) else if w = 2 then begF (bst A s k d).2 p else if w = 3 then endF A s k d p else if w = 4 then plF (bst A s k d).2 p else -1
def ansGoes (A : Ab) (x d n w k : Int32) : Int32 := if (0 ≤ x ∧ x < 4) ∧ 0 ≤ d ∧ d < 1000 then
    (if 0 ≤ n ∧ n ≤ Int32.ofNat (dayN8 A x.toNatClampNeg k d).length - 1 then pickG A x.toNatClampNeg k d w n.toNatClampNeg else -1) else -1
section GOC
variable {N : Nat} {S : ms_S} {A : Ab}
theorem q68 {s : Nat} {d k : Int32} (hN : 20 ≤ N) (hk : CPk S A s d k) : f68 N S = some (lastF A s k d (dayN8 A s k d).length, S) := by
  have h8 : (dayN8 A s k d).length ≤ 8 := dayL_len _
  obtain ⟨_, _, _, _, h6, _, hA⟩ := hk
  have L : ∀ m i n, m + i = (dayN8 A s k d).length → m < n → f68_L4 N (fun x1 _ => mret x1) n (lastF A s k d i) (Int32.ofNat i) S = some (lastF A s k d (dayN8 A s k d).length, S) := by
    intro m
    induction m with
    | zero =>
      intro i n hi hn
      obtain ⟨n, rfl⟩ : ∃ q, n = q + 1 := ⟨n - 1, by omega⟩
      have e : i = (dayN8 A s k d).length := by omega
      subst e
      rw [f68_L4]
      simp only [mE, h6]
      rw [if_pos ((ofN_le (by omega) (by omega)).2 (Nat.le_refl _))]
    | succ m ih =>
      intro i n hi hn
      obtain ⟨n, rfl⟩ : ∃ q, n = q + 1 := ⟨n - 1, by omega⟩
      have hge : ¬ Int32.ofNat i ≥ Int32.ofNat (dayN8 A s k d).length := fun q => by have := (ofN_le (i := (dayN8 A s k d).length) (j := i) (by omega) (by omega)).1 q; omega
      have i1 : inR (Int32.ofNat i) 8 := ofN_inR (by omega) (by omega)
      have i2 := ofN_cl (i := i) (by omega)
      obtain ⟨_, _, _, a68, a69, _⟩ := hA i (by omega)
      have nx := ih (i + 1) n (by omega) (by omega)
      rw [f68_L4]
      simp only [mE, h6, if_neg hge, i1, i2, a68, a69, ofN_s]
      exact nx
  exact L (dayN8 A s k d).length 0 N (by omega) (by omega)
theorem C_plan {x d w k : Int32} (hN : 1300 ≤ N) (h : cBase S A) (hw : WF0 A) (hv : WFv A) (hL : CLok S A) (hP : CPok S A) : CQ2 (f132 N x d w k) S A (ansPlan A x d w k) := by
  have hn3 : aN A 3 ≤ 20 := hw.1.2.2.2.1
  have e143 : ∀ {z : Int32} {β : Type} {f : Int32 → mM β}, mb (f143 N z) f S = f (if 0 ≤ z ∧ z < 4 then 1 else 0) S := by intro z β f; simp only [mb, q143]
  have e142 : ∀ {z : Int32} {β : Type} {f : Int32 → mM β}, mb (f142 N z) f S = f (if 0 ≤ z ∧ z < 1000 then 1 else 0) S := by intro z β f; simp only [mb, q142]
  unfold ansPlan
  by_cases hx : 0 ≤ x ∧ x < 4
  · by_cases hd : 0 ≤ d ∧ d < 1000
    · rw [if_pos ⟨hx, hd⟩]
      obtain ⟨s, hs, rfl⟩ := i32_nat (n := 4) hx.1 (by omega) hx.2
      rw [ofN_cl (by omega)]
      obtain ⟨S1, e1, l1, p1, c1, c2, o1⟩ := q147 (N := N) (A := A) (S := S) (s := s) (k := k) (d := d) hN h hw hv hL hP hs
      have m147 : ∀ {β : Type} {f : Unit → mM β}, mb (f147 N (Int32.ofNat s) d k) f S = f () S1 := by intro β f; simp only [mb, e1]
      refine ⟨S1, ?_, cBase_led h hn3 (fun b hb => o1 b (by omega)), fun _ => ⟨s, k, l1⟩, fun _ => ⟨s, d, k, p1⟩, Or.inr c1, Or.inr c2, fun b hb => o1 b (by omega)⟩
      unfold f132
      simp only [mE]
      rw [e143, if_pos hx, if_neg (by decide), e142, if_pos hd, if_pos (by decide), m147]
      by_cases w0 : w = 0
      · rw [if_pos w0, if_pos w0]
        simp only [mE, p1.2.2.2.2.1]
      · rw [if_neg w0, if_neg w0]
        by_cases w1 : w = 1
        · rw [if_pos w1, if_pos w1]
          simp only [mE, p1.2.2.2.2.2.1]
        · rw [if_neg w1, if_neg w1]
          by_cases w2 : w = 2
          · rw [if_pos w2, if_pos w2]
            have m68 : ∀ {β : Type} {f : Int32 → mM β}, mb (f68 N) f S1 = f (lastF A s k d (dayN8 A s k d).length) S1 := by intro β f; simp only [mb, q68 (show 20 ≤ N by omega) p1]
            rw [m68]; rfl
          · rw [if_neg w2, if_neg w2]; rfl
    · rw [if_neg (fun q => hd q.2)]
      refine CQ2_same h hL hP ?_
      unfold f132
      simp only [mE]
      rw [e143, if_pos hx, if_neg (by decide), e142, if_neg hd, if_neg (fun q => q rfl)]; rfl
  · rw [if_neg (fun q => hx q.1)]
    refine CQ2_same h hL hP ?_
    unfold f132
    simp only [mE]
    rw [e143, if_neg hx, if_pos rfl]; rfl
theorem C_goes {x d m w k : Int32} (hN : 1300 ≤ N) (h : cBase S A) (hw : WF0 A) (hv : WFv A) (hL : CLok S A) (hP : CPok S A) : CQ2 (f133 N x d m w k) S A (ansGoes A x d m w k) := by
  have hn3 : aN A 3 ≤ 20 := hw.1.2.2.2.1
  have e143 : ∀ {z : Int32} {β : Type} {f : Int32 → mM β}, mb (f143 N z) f S = f (if 0 ≤ z ∧ z < 4 then 1 else 0) S := by intro z β f; simp only [mb, q143]
  have e142 : ∀ {z : Int32} {β : Type} {f : Int32 → mM β}, mb (f142 N z) f S = f (if 0 ≤ z ∧ z < 1000 then 1 else 0) S := by intro z β f; simp only [mb, q142]
  unfold ansGoes
  by_cases hx : 0 ≤ x ∧ x < 4
  · by_cases hd : 0 ≤ d ∧ d < 1000
    · rw [if_pos ⟨hx, hd⟩]
      obtain ⟨s, hs, rfl⟩ := i32_nat (n := 4) hx.1 (by omega) hx.2
      rw [ofN_cl (by omega)]
      have h8 : (dayN8 A s k d).length ≤ 8 := dayL_len _
      obtain ⟨S1, e1, l1, p1, c1, c2, o1⟩ := q147 (N := N) (A := A) (S := S) (s := s) (k := k) (d := d) hN h hw hv hL hP hs
      have m147 : ∀ {β : Type} {f : Unit → mM β}, mb (f147 N (Int32.ofNat s) d k) f S = f () S1 := by intro β f; simp only [mb, e1]
      refine ⟨S1, ?_, cBase_led h hn3 (fun b hb => o1 b (by omega)), fun _ => ⟨s, k, l1⟩, fun _ => ⟨s, d, k, p1⟩, Or.inr c1, Or.inr c2, fun b hb => o1 b (by omega)⟩
      unfold f133
      simp only [mE]
      rw [e143, if_pos hx, if_neg (by decide), e142, if_pos hd, if_pos (by decide), m147]
      simp only [mE, p1.2.2.2.2.1]
      rw [E141]
      by_cases hm : 0 ≤ m ∧ m ≤ Int32.ofNat (dayN8 A s k d).length - 1
      · rw [if_pos hm, if_pos hm, if_pos (by decide)]
        obtain ⟨p, hp, rfl⟩ := i32_nat (x := m) (n := (dayN8 A s k d).length) hm.1 (by omega) (by
          have h1 := hm.1
          have h2 := hm.2
          have := i32_of (dayN8 A s k d).length (by omega)
          generalize Int32.ofNat (dayN8 A s k d).length = z at *
          clear h hw hv hL hP e1 l1 p1 o1 c1 c2 hm hx hd
          grind)
        rw [ofN_cl (by omega)]
        have i1 : inR (Int32.ofNat p) 8 := ofN_inR (by omega) (by omega)
        have i2 := ofN_cl (i := p) (by omega)
        obtain ⟨a65, a66, a67, a68, a69, a70⟩ := p1.2.2.2.2.2.2 p hp
        unfold pickG
        by_cases w0 : w = 0
        · rw [if_pos w0, if_pos w0]
          simp only [mE, i1, i2, a65]
        · rw [if_neg w0, if_neg w0]
          by_cases w1 : w = 1
          · rw [if_pos w1, if_pos w1]
            simp only [mE, i1, i2, a67]
          · rw [if_neg w1, if_neg w1]
            by_cases w2 : w = 2
            · rw [if_pos w2, if_pos w2]
              simp only [mE, i1, i2, a69]
            · rw [if_neg w2, if_neg w2]
              by_cases w3 : w = 3
              · rw [if_pos w3, if_pos w3]
                simp only [mE, i1, i2, a69, a68]
                rfl
              · rw [if_neg w3, if_neg w3]
                by_cases w4 : w = 4
                · rw [if_pos w4, if_pos w4]
                  simp only [mE, i1, i2, a70]
                · rw [if_neg w4, if_neg w4]; rfl
      · rw [if_neg hm, if_neg hm, if_neg (fun q => q rfl)]; rfl
    · rw [if_neg (fun q => hd q.2)]
      refine CQ2_same h hL hP ?_
      unfold f133
      simp only [mE]
      rw [e143, if_pos hx, if_neg (by decide), e142, if_neg hd, if_neg (fun q => q rfl)]; rfl
  · rw [if_neg (fun q => hx q.1)]
    refine CQ2_same h hL hP ?_
    unfold f133
    simp only [mE]
    rw [e143, if_neg hx, if_pos rfl]; rfl
end GOC
