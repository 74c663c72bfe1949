/-! the reference's machine: a unit -/
def wH (ty : Nat) : Int32 := if ty = 100 then 116 else if ty = 101 then 108 else if ty = 102 then 100 else if ty = 103 then 103 else if ty = 104 then 107 else if ty = 105 then 111 else if ty = 106 then 119 else if ty = 107 then 115 else if ty = 108 then 78 else if ty = 109 then 79 else if ty = 110 then 68 else if ty = 111 then 75 else if ty = 112 then 76 else 0
theorem wH_v {ty : Nat} : (100 ≤ ty ∧ ty ≤ 112 → wH ty ≠ 0 ∧ (wH ty = 75 ↔ ty = 111) ∧ (wH ty = 76 ↔ ty = 112) ∧ ((wH ty = 78 ∨ wH ty = 79 ∨ wH ty = 68) ↔ (108 ≤ ty ∧ ty ≤ 110)) ∧ ∀ line, ty ≠ 111 → mCh line ty = wH ty) ∧ (¬ (100 ≤ ty ∧ ty ≤ 112) → wH ty = 0) := by
  refine ⟨fun h => ?_, fun h => ?_⟩
  · have : ty = 100 ∨ ty = 101 ∨ ty = 102 ∨ ty = 103 ∨ ty = 104 ∨ ty = 105 ∨ ty = 106 ∨ ty = 107 ∨ ty = 108 ∨ ty = 109 ∨ ty = 110 ∨ ty = 111 ∨ ty = 112 := by omega
    rcases this with z | z | z | z | z | z | z | z | z | z | z | z | z <;> subst z <;> exact ⟨by decide, by decide, by decide, by decide, fun line h => by first | rfl | exact absurd rfl h⟩
  · unfold wH
    rw [if_neg (by omega), if_neg (by omega), if_neg (by omega), if_neg (by omega), if_neg (by omega), if_neg (by omega), if_neg (by omega), if_neg (by omega), if_neg (by omega), if_neg (by omega), if_neg (by omega), if_neg (by omega), if_neg (by omega)]
section UNK
variable {N : Nat} {X : Nat → Int32} {L : Nat} {line c0 : Nat} {kn ln : List (List Int32)}
theorem q184 {S : ms_S} {l : List Int32} {b : Nat} (hN : 100 ≤ N) (h : NK S b kn ln) (hk : kn.length ≤ 6) (hl : ltw l) : f184 N (pk8 l) S = some (optI (ixN kn l), S) := by
  have i4 : inR (4 : Int32) 5 := ofN_inR (i := 4) (by omega) (by omega)
  have j4 : (4 : Int32).toNatClampNeg = 4 := by decide
  have Lp : ∀ k i f, k + i = kn.length → k < f → f184_L2 N (fun (x1 : Int64) (x3 : Int32) => (mret x3)) (fun (x1 : Int64) (x3 : Int32) => (mret (-1))) f (pk8 l) (Int32.ofNat i) S = some (optI (fnd (fun i => decide (kn.getD i [] = l)) k i), S) := by
    intro k
    induction k with
    | zero =>
      intro i f hi hf
      obtain ⟨f, rfl⟩ : ∃ q, f = q + 1 := ⟨f - 1, by omega⟩
      rw [f184_L2]
      simp only [mE, i4, j4, h.1]
      rw [if_pos (show Int32.ofNat i ≥ Int32.ofNat kn.length from (ofN_le (by omega) (by omega)).2 (by omega))]
      rfl
    | succ k ih =>
      intro i f hi hf
      obtain ⟨f, rfl⟩ : ∃ q, f = q + 1 := ⟨f - 1, by omega⟩
      have e1 : 24 + Int32.ofNat i = Int32.ofNat (24 + i) := by rw [show (24 : Int32) = Int32.ofNat 24 from rfl, ofN_add]
      have i1 : inR (Int32.ofNat (24 + i)) 30 := ofN_inR (by omega) (by omega)
      have i2 := ofN_cl (i := 24 + i) (by omega)
      obtain ⟨n1, n2⟩ := h.2.1 i (by omega)
      rw [f184_L2]
      simp only [mE, i4, j4, h.1]
      rw [if_neg (show ¬ Int32.ofNat i ≥ Int32.ofNat kn.length from fun z => by have := (ofN_le (by omega) (by omega)).1 z; omega)]
      simp only [mF, e1, i1, i2, n1]
      unfold fnd
      by_cases hx : kn.getD i [] = l
      · rw [if_neg (fun z => z (lgc.2 (by rw [hx]))), if_pos (decide_eq_true hx)]
        rfl
      · rw [if_pos (fun z => hx ((pk_inj n2 hl).2.1 (lgc.1 z))), if_neg (fun z => hx (of_decide_eq_true z)), ofN_s]
        exact ih (i + 1) f (by omega) (by omega)
  exact Lp kn.length 0 N (by omega) (by omega)
theorem q185 {S : ms_S} {l : List Int32} {b : Nat} (hN : 100 ≤ N) (hb2 : b < 2) (h : NK S b kn ln) (hk : ln.length ≤ 8) (hl : ltw l) : f185 N (pk8 l) S = some (optI (ixN ln l), S) := by
  have B1 : inR (Int32.ofNat b) 2 := ofN_inR (by omega) (by omega)
  have B2 := ofN_cl (i := b) (by omega)
  have Lp : ∀ k i f, k + i = ln.length → k < f → f185_L2 N (fun (x1 : Int64) (x3 : Int32) => (mret x3)) (fun (x1 : Int64) (x3 : Int32) => (mret (-1))) f (pk8 l) (Int32.ofNat i) S = some (optI (fnd (fun i => decide (ln.getD i [] = l)) k i), S) := by
    intro k
    induction k with
    | zero =>
      intro i f hi hf
      obtain ⟨f, rfl⟩ : ∃ q, f = q + 1 := ⟨f - 1, by omega⟩
      rw [f185_L2]
      simp only [mE, h.2.2.1, B1, B2, h.2.2.2.1]
      rw [if_pos (show Int32.ofNat i ≥ Int32.ofNat ln.length from (ofN_le (by omega) (by omega)).2 (by omega))]
      rfl
    | succ k ih =>
      intro i f hi hf
      obtain ⟨f, rfl⟩ : ∃ q, f = q + 1 := ⟨f - 1, by omega⟩
      have e1 : 8 * Int32.ofNat b + Int32.ofNat i = Int32.ofNat (8 * b + i) := by rw [show (8 : Int32) = Int32.ofNat 8 from rfl, ofN_mul, ofN_add]
      have i1 : inR (Int32.ofNat (8 * b + i)) 16 := ofN_inR (by omega) (by omega)
      have i2 := ofN_cl (i := 8 * b + i) (by omega)
      obtain ⟨n1, n2⟩ := h.2.2.2.2 i (by omega)
      rw [f185_L2]
      simp only [mE, h.2.2.1, B1, B2, h.2.2.2.1]
      rw [if_neg (show ¬ Int32.ofNat i ≥ Int32.ofNat ln.length from fun z => by have := (ofN_le (by omega) (by omega)).1 z; omega)]
      simp only [mE, mF, h.2.2.1, e1, i1, i2, n1]
      unfold fnd
      by_cases hx : ln.getD i [] = l
      · rw [if_neg (fun z => z (lgc.2 (by rw [hx]))), if_pos (decide_eq_true hx)]
        rfl
      · rw [if_pos (fun z => hx ((pk_inj n2 hl).2.1 (lgc.1 z))), if_neg (fun z => hx (of_decide_eq_true z)), ofN_s]
        exact ih (i + 1) f (by omega) (by omega)
  exact Lp ln.length 0 N (by omega) (by omega)
theorem optI_nn {o : Option Nat} (h : ∀ i, o = some i → i < 100) : (optI o ≥ 0) ↔ o ≠ none := by
  cases o with
  | none => exact ⟨fun z => absurd z (by decide), fun z => absurd rfl z⟩
  | some i => exact ⟨fun _ z => by (cases z), fun _ => ofN_nn (i := i) (by have := h i rfl; omega)⟩
theorem q191 {S : ms_S} {j b : Nat} {p : Int32} {nl : List (List Int32)} (hN : 1300 ≤ N) (hb : TxB X L) (hb2 : b < 2) (h : NK S b kn ln) (hk : kn.length ≤ 6) (hl : ln.length ≤ 8) (hp : (p = 0 ∧ nl = ln) ∨ (p = 1 ∧ nl = kn)) (hm : MS S X L (.inr j)) : ∃ v S1, f191 N p S = some (v, S1) ∧ (gd (knN X L nl (.inr j)) = true → v = optI (ixN nl (nmV X L (.inr j)))) ∧ MS S1 X L (knN X L nl (.inr j)) ∧ offM S S1 := by
  have hm' := hm
  obtain ⟨m1, m2, m3, m4, m5⟩ := hm
  have hnl : nl.length ≤ 8 := by rcases hp with z | z <;> (rw [z.2]; omega)
  have k8 : ms_I S 131 8 = clsT (tTy (tkJ X L j)) := m3.2.2.1
  -- once a fault stands
  have bad : ∀ (S1 : ms_S) (e : Nat × Nat) (y : Int32), MS S1 X L (.inl e) → (mb (f155 N) fun v1 => if v1 = 0 then mret y else (mb (f158 N) fun _ => mret y)) S1 = some (y, S1) := fun S1 e y hm1 => by
    rw [E155 hm1, show gd (.inl e) = false from rfl]
    rfl
  unfold f191
  simp only [mE, k8]
  by_cases h2 : tTy (tkJ X L j) = 2
  · have c2 := clsT_v.2.2.1.2 h2
    have hlt : ltw (nmV X L (.inr j)) := (nm_ltw hb m2 (Or.inl h2)).1
    have nm : ms_J S 131 10 = pk8 (nmV X L (.inr j)) := m3.2.2.2.2 (Or.inl h2)
    have hT : isT X L 2 (.inr j) = true := decide_eq_true h2
    rw [if_neg (fun z => z c2)]
    -- the name's place
    have rest : ∃ v S1, (mb (gI 131 8) fun v4 => if v4 = 2 then (if optI (ixN nl (nmV X L (.inr j))) ≥ 0 then (mb (f155 N) fun v1 => if v1 = 0 then mret (optI (ixN nl (nmV X L (.inr j)))) else (mb (f158 N) fun _ => mret (optI (ixN nl (nmV X L (.inr j)))))) else (mb (gI 131 6) fun v6 => mb (f154 N 5 v6) fun _ => (mb (f155 N) fun v1 => if v1 = 0 then mret (optI (ixN nl (nmV X L (.inr j)))) else (mb (f158 N) fun _ => mret (optI (ixN nl (nmV X L (.inr j)))))))) else (mb (f161 N) fun _ => (mb (f155 N) fun v1 => if v1 = 0 then mret (optI (ixN nl (nmV X L (.inr j)))) else (mb (f158 N) fun _ => mret (optI (ixN nl (nmV X L (.inr j)))))))) S = some (v, S1) ∧ (gd (knN X L nl (.inr j)) = true → v = optI (ixN nl (nmV X L (.inr j)))) ∧ MS S1 X L (knN X L nl (.inr j)) ∧ offM S S1 := by
      simp only [mE, k8]
      rw [if_pos c2]
      have ek : knN X L nl (.inr j) = if ixN nl (nmV X L (.inr j)) = none then rf X L 5 (.inr j) else nx (.inr j) := if_pos hT
      have hnn := optI_nn (o := ixN nl (nmV X L (.inr j))) (fun i hi => by have := (fnd_some _ _ _ hi).2.1; omega)
      by_cases hx : ixN nl (nmV X L (.inr j)) = none
      · rw [if_neg (fun z => hnn.1 z hx), ek, if_pos hx]
        obtain ⟨S1, e1, q1, o1, _⟩ := q154 (N := N) (c := 5) (p := tAt (tkJ X L j)) hb (by omega) hm'
        have er : rf X L 5 (.inr j) = fa 5 (tAt (tkJ X L j)) (.inr j) := by
          show Sum.inl _ = Sum.inl _
          rw [if_neg (by omega)]
        have e1 : f154 N 5 (Int32.ofNat (tAt (tkJ X L j))) S = _ := e1
        have m154 : ∀ {β : Type} {f' : Unit → mM β}, mb (f154 N 5 (Int32.ofNat (tAt (tkJ X L j)))) f' S = f' () S1 := by intro β f'; simp only [mb, e1]
        refine ⟨optI (ixN nl (nmV X L (.inr j))), S1, ?_, fun _ => rfl, by rw [er]; exact q1, o1⟩
        rw [m3.1, m154]
        exact bad S1 _ _ q1
      · rw [if_pos (hnn.2 hx), ek, if_neg hx]
        obtain ⟨S1, e1, q1, o1⟩ := qnext (N := N) hN hb hm' (by omega) (by omega)
        refine ⟨_, S1, ?_, fun _ => rfl, q1, o1⟩
        rw [E155 hm', show gd (.inr j) = true from rfl, if_pos rfl, if_neg (by decide)]
        simp only [mb, e1]
        rfl
    rcases hp with ⟨rfl, rfl⟩ | ⟨rfl, rfl⟩
    · rw [if_pos rfl]
      have m185 : ∀ {β : Type} {f' : Int32 → mM β}, mb (f185 N (pk8 (nmV X L (.inr j)))) f' S = f' (optI (ixN nl (nmV X L (.inr j)))) S := by intro β f'; simp only [mb, q185 (N := N) (by omega) hb2 h hl hlt]
      simp only [mF, nm]
      rw [m185]
      exact rest
    · rw [if_neg (by decide)]
      have m184 : ∀ {β : Type} {f' : Int32 → mM β}, mb (f184 N (pk8 (nmV X L (.inr j)))) f' S = f' (optI (ixN nl (nmV X L (.inr j)))) S := by intro β f'; simp only [mb, q184 (N := N) (by omega) h hk hlt]
      simp only [mF, nm]
      rw [m184]
      exact rest
  · have c2 : ¬ clsT (tTy (tkJ X L j)) = 2 := fun z => h2 (clsT_v.2.2.1.1 z)
    have hT : ¬ isT X L 2 (.inr j) = true := fun z => h2 (of_decide_eq_true z)
    have ek : knN X L nl (.inr j) = rf X L 2 (.inr j) := if_neg hT
    obtain ⟨S1, e1, q1, o1, _⟩ := q161 (N := N) hb hm'
    have m161 : ∀ {β : Type} {f' : Unit → mM β}, mb (f161 N) f' S = f' () S1 := by intro β f'; simp only [mb, e1]
    rw [ek]
    refine ⟨-1, S1, ?_, (fun z => by rw [show gd (rf X L 2 (.inr j)) = false from gd_rf] at z; cases z), q1, o1⟩
    rw [if_pos c2, if_neg c2, m161]
    exact bad S1 _ _ q1
theorem q189 {S : ms_S} {j : Nat} (hb : TxB X L) (h : MS S X L (.inr j)) : f189 N S = some (wH (tTy (tkJ X L j)), S) := by
  have a : ∀ {i : Nat} {β : Type} {f : Int32 → mM β}, i < 31 → mb (f160 N (K8I i)) f S = f (if tTy (tkJ X L j) = 100 + i then 1 else 0) S := by intro i β f hi; exact E160 hb hi h
  have y : ∀ {p : Prop} [Decidable p] {β : Type} {a b : β}, p → (if (if p then (1 : Int32) else 0) = 0 then a else b) = b := by intro p _ β a b hp; rw [if_pos hp, if_neg (by decide)]
  have n : ∀ {p : Prop} [Decidable p] {β : Type} {a b : β}, ¬ p → (if (if p then (1 : Int32) else 0) = 0 then a else b) = a := by intro p _ β a b hp; rw [if_neg hp, if_pos rfl]
  have st : ∀ {i : Nat} {v w : Int32} {A B : mM Int32}, i < 31 → (A S = some (w, S)) → (B = mret v) → (mb (f160 N (K8I i)) fun v1 => if v1 = 0 then A else B) S = some (if tTy (tkJ X L j) = 100 + i then v else w, S) := by
    intro i v w A B hi hA hB
    rw [a hi]
    by_cases ht : tTy (tkJ X L j) = 100 + i
    · rw [y ht, if_pos ht, hB]; rfl
    · rw [n ht, if_neg ht, hA]
  unfold f189 wH
  simp only [mE]
  refine st (i := 0) (by omega) (st (i := 1) (by omega) (st (i := 2) (by omega) (st (i := 3) (by omega) (st (i := 4) (by omega) (st (i := 5) (by omega) (st (i := 6) (by omega) (st (i := 7) (by omega) (st (i := 8) (by omega) (st (i := 9) (by omega) (st (i := 10) (by omega) (st (i := 11) (by omega) (st (i := 12) (by omega) ?_ rfl) rfl) rfl) rfl) rfl) rfl) rfl) rfl) rfl) rfl) rfl) rfl) rfl
  rfl
end UNK
