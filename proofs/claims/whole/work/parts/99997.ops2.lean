/-! names; the reference reads on -/
def fnd (p : Nat → Bool) : Nat → Nat → Option Nat
  | 0, _ => none
  | k + 1, i => if p i = true then some i else fnd p k (i + 1)
theorem fnd_congr {p p' : Nat → Bool} : ∀ k i, (∀ j, i ≤ j → j < i + k → p j = p' j) → fnd p k i = fnd p' k i := by
  intro k
  induction k with
  | zero => intro i _; rfl
  | succ k ih => intro i h; unfold fnd; rw [h i (by omega) (by omega), ih (i + 1) (fun j h1 h2 => h j (by omega) (by omega))]
theorem fnd_some {p : Nat → Bool} : ∀ k i q, fnd p k i = some q → i ≤ q ∧ q < i + k ∧ p q = true := by
  intro k
  induction k with
  | zero => intro i q h; cases h
  | succ k ih =>
    intro i q h
    unfold fnd at h
    split at h
    · rename_i hp
      have h : i = q := by simpa using h
      subst h; exact ⟨by omega, by omega, hp⟩
    · have := ih (i + 1) q h; exact ⟨by omega, by omega, this.2.2⟩
theorem fnd_none {p : Nat → Bool} : ∀ k i, fnd p k i = none → ∀ j, i ≤ j → j < i + k → p j = false := by
  intro k
  induction k with
  | zero => intro i _ j h1 h2; omega
  | succ k ih =>
    intro i h j h1 h2
    unfold fnd at h
    split at h
    · cases h
    · rename_i hp
      by_cases e : j = i
      · subst e; cases hq : p j with | true => exact absurd hq hp | false => rfl
      · exact ih (i + 1) h j (by omega) (by omega)
def optI : Option Nat → Int32
  | none => -1
  | some i => Int32.ofNat i
def NLc (S : ms_S) (b : Nat) (nl : List (List Int32)) : Prop := ∀ i, i < nl.length → ms_L S b i = pk5 (nl.getD i []) ∧ ltw (nl.getD i [])
def ixN (nl : List (List Int32)) (l : List Int32) : Option Nat := fnd (fun i => decide (nl.getD i [] = l)) nl.length 0
section NAM
variable {N : Nat} {X : Nat → Int32} {L : Nat}
theorem q107 {S : ms_S} {v : Int64} {b n many : Nat} (hN : 100 ≤ N) (hn : n ≤ 90) (hm : many ≤ n) : f107 N v b n (Int32.ofNat many) S = some (optI (fnd (fun i => decide (ms_L S b i = v)) many 0), S) := by
  have Lp : ∀ k i f, k + i = many → k < f → f107_L3 N b n (fun (x0 : Int64) (x3 : Int32) (x4 : Int32) => (mret x4)) (fun (x0 : Int64) (x3 : Int32) (x4 : Int32) => (mret (-1))) f v (Int32.ofNat many) (Int32.ofNat i) S = some (optI (fnd (fun i => decide (ms_L S b i = v)) k i), S) := by
    intro k
    induction k with
    | zero =>
      intro i f hi hf
      obtain ⟨f, rfl⟩ : ∃ q, f = q + 1 := ⟨f - 1, by omega⟩
      rw [f107_L3, if_pos ((ofN_le (by omega) (by omega)).2 (by omega))]
      rfl
    | succ k ih =>
      intro i f hi hf
      obtain ⟨f, rfl⟩ : ∃ q, f = q + 1 := ⟨f - 1, by omega⟩
      have i1 : inR (Int32.ofNat i) n := ofN_inR (by omega) (by omega)
      have i2 := ofN_cl (i := i) (by omega)
      rw [f107_L3, if_neg (fun q => by have := (ofN_le (i := many) (j := i) (by omega) (by omega)).1 q; omega), if_neg (fun q => by have := (ofN_le (i := n) (j := i) (by omega) (by omega)).1 q; omega)]
      simp only [mF, i1, i2]
      unfold fnd
      by_cases h : ms_L S b i = v
      · rw [if_neg (fun q => q (lgc.2 h)), if_pos (decide_eq_true h)]
        rfl
      · rw [if_pos (fun q => h (lgc.1 q)), if_neg (fun q => h (of_decide_eq_true q)), ofN_s]
        exact ih (i + 1) f (by omega) (by omega)
  exact Lp many 0 N (by omega) (by omega)
theorem ixN_c {S : ms_S} {b : Nat} {nl : List (List Int32)} {l : List Int32} (h : NLc S b nl) (hl : ltw l) : fnd (fun i => decide (ms_L S b i = pk5 l)) nl.length 0 = ixN nl l := by
  refine fnd_congr _ _ (fun j _ hj => ?_)
  obtain ⟨h1, h2⟩ := h j (by omega)
  rw [h1]
  by_cases e : nl.getD j [] = l
  · rw [decide_eq_true e, decide_eq_true (by rw [e])]
  · rw [decide_eq_false e, decide_eq_false (fun q => e ((pk_inj h2 hl).1.1 q))]
def nwN (X : Nat → Int32) (L : Nat) (nl : List (List Int32)) (σ : Sg) : Sg := if isT X L 2 σ = true then (if ixN nl (nmV X L σ) = none then nx σ else rf X L 3 σ) else rf X L 2 σ
def knN (X : Nat → Int32) (L : Nat) (nl : List (List Int32)) (σ : Sg) : Sg := if isT X L 2 σ = true then (if ixN nl (nmV X L σ) = none then rf X L 5 σ else nx σ) else rf X L 2 σ
theorem nm_ltw (hb : TxB X L) {j : Nat} (hj : j < tkN X L) (h : tTy (tkJ X L j) = 2 ∨ 100 ≤ tTy (tkJ X L j)) : ltw (tNm (tkJ X L j)) ∧ 1 ≤ (tNm (tkJ X L j)).length ∧ tTy (tkJ X L j) = wF (pk5 (tNm (tkJ X L j))) := by
  rcases tkJ_ok hb hj with q | ⟨_, _, _, q⟩
  · omega
  · rcases q with q | ⟨_, q2, q3, q4⟩ | ⟨q, _⟩ | ⟨q, q2, _⟩
    · omega
    · exact ⟨q2, q3, q4⟩
    · omega
    · omega
theorem q105 {S : ms_S} {σ : Sg} {b n : Nat} {nl : List (List Int32)} (hN : 100 ≤ N) (hb : TxB X L) (h : CS S X L σ) (hn : n ≤ 90) (hm : nl.length ≤ n) (hnl : NLc S b nl) : ∃ v S1, f105 N b n (Int32.ofNat nl.length) S = some (v, S1) ∧ (isT X L 2 σ = true → v = pk5 (nmV X L σ)) ∧ CS S1 X L (nwN X L nl σ) ∧ offX S S1 := by
  have hn' := tkN_le hb
  have h' := h
  obtain ⟨h1, h2, h3, _⟩ := h
  have i1 : inR (Int32.ofNat (cAt X L σ)) 1201 := ofN_inR (by omega) (by omega)
  have i2 := ofN_cl (i := cAt X L σ) (by omega)
  have a8 : ms_A S 8 (cAt X L σ) = Int32.ofNat (sTy X L σ) := by rw [(h1.2 _ h3).1, ← cAt_ty hb h3]; rfl
  have a10 := (h1.2 _ h3).2.2
  have htb := sTy_bd hb h3
  unfold f105 nwN
  simp only [mE, mF, h2, i1, i2, a8]
  by_cases e : sTy X L σ = 2
  · have ht : isT X L 2 σ = true := decide_eq_true e
    rw [if_pos (show Int32.ofNat (sTy X L σ) = 2 by rw [e]; rfl), if_pos ht]
    cases σ with
    | inl e' => exact absurd e (by show ¬ ((0 : Nat) = 2); decide)
    | inr j =>
      have h3 : j < tkN X L := h3
      have ev : ms_L S 10 (cAt X L (.inr j)) = pk5 (nmV X L (.inr j)) := a10.2 (Or.inl e)
      have hl := (nm_ltw hb h3 (Or.inl e)).1
      rw [ev]
      have m107 : ∀ {β : Type} {f' : Int32 → mM β}, mb (f107 N (pk5 (nmV X L (.inr j))) b n (Int32.ofNat nl.length)) f' S = f' (optI (ixN nl (nmV X L (.inr j)))) S := by intro β f'; simp only [mb, q107 (N := N) (S := S) hN hn hm, ixN_c hnl (l := nmV X L (.inr j)) hl]
      rw [m107]
      cases hx : ixN nl (nmV X L (.inr j)) with
      | none =>
        rw [if_pos (show optI none = -1 from rfl), if_pos rfl]
        obtain ⟨S1, e1, c1, o1⟩ := q100 (N := N) hb h' (by have e : tTy (tkJ X L j) = 2 := e; omega)
        exact ⟨_, S1, by simp only [mb, e1]; rfl, fun _ => rfl, c1, o1⟩
      | some i =>
        have hi := (fnd_some _ _ _ hx).2.1
        have hne : ¬ optI (some i) = -1 := by
          show ¬ Int32.ofNat i = -1
          have := i32_of i (by omega)
          clear hx m107 hnl ev a10 h' h1 h2
          grind
        rw [if_neg hne, if_neg (fun q => by cases q)]
        obtain ⟨S2, e2, c2, o2⟩ := q101 (N := N) (c := 3) hb (by omega) h'
        have e2 : f101 N 3 S = _ := e2
        exact ⟨_, S2, by simp only [mb, e2]; rfl, fun _ => rfl, c2, o2⟩
  · have ht : ¬ isT X L 2 σ = true := fun q => e (of_decide_eq_true q)
    have hne : ¬ Int32.ofNat (sTy X L σ) = 2 := fun q => e ((ofN_eq (j := 2) (by omega) (by omega)).1 q)
    rw [if_neg hne, if_neg ht]
    obtain ⟨S2, e2, c2, o2⟩ := q101 (N := N) (c := 2) hb (by omega) h'
    have e2 : f101 N 2 S = _ := e2
    exact ⟨_, S2, by simp only [mb, e2]; rfl, fun q => absurd q ht, c2, o2⟩
theorem q106 {S : ms_S} {σ : Sg} {b n : Nat} {nl : List (List Int32)} (hN : 100 ≤ N) (hb : TxB X L) (h : CS S X L σ) (hn : n ≤ 90) (hm : nl.length ≤ n) (hnl : NLc S b nl) : ∃ v S1, f106 N b n (Int32.ofNat nl.length) S = some (v, S1) ∧ (isT X L 2 σ = true → v = optI (ixN nl (nmV X L σ))) ∧ CS S1 X L (knN X L nl σ) ∧ offX S S1 := by
  have hn' := tkN_le hb
  have h' := h
  obtain ⟨h1, h2, h3, _⟩ := h
  have i1 : inR (Int32.ofNat (cAt X L σ)) 1201 := ofN_inR (by omega) (by omega)
  have i2 := ofN_cl (i := cAt X L σ) (by omega)
  have a8 : ms_A S 8 (cAt X L σ) = Int32.ofNat (sTy X L σ) := by rw [(h1.2 _ h3).1, ← cAt_ty hb h3]; rfl
  have a10 := (h1.2 _ h3).2.2
  have htb := sTy_bd hb h3
  have m107 : ∀ {v : Int64} {β : Type} {f' : Int32 → mM β}, mb (f107 N v b n (Int32.ofNat nl.length)) f' S = f' (optI (fnd (fun i => decide (ms_L S b i = v)) nl.length 0)) S := by intro v β f'; simp only [mb, q107 (N := N) (S := S) hN hn hm]
  unfold f106 knN
  simp only [mE, mF, h2, i1, i2]
  rw [m107]
  simp only [mE, h2, i1, i2, a8]
  by_cases e : sTy X L σ = 2
  · have ht : isT X L 2 σ = true := decide_eq_true e
    rw [if_pos (show Int32.ofNat (sTy X L σ) = 2 by rw [e]; rfl), if_pos ht]
    cases σ with
    | inl e' => exact absurd e (by show ¬ ((0 : Nat) = 2); decide)
    | inr j =>
      have h3 : j < tkN X L := h3
      have ev : ms_L S 10 (cAt X L (.inr j)) = pk5 (nmV X L (.inr j)) := a10.2 (Or.inl e)
      have hl := (nm_ltw hb h3 (Or.inl e)).1
      rw [ev, ixN_c hnl (l := nmV X L (.inr j)) hl]
      cases hx : ixN nl (nmV X L (.inr j)) with
      | none =>
        rw [if_neg (fun q => q rfl), if_pos rfl]
        obtain ⟨S2, e2, c2, o2⟩ := q101 (N := N) (c := 5) hb (by omega) h'
        have e2 : f101 N 5 S = _ := e2
        exact ⟨_, S2, by simp only [mb, e2]; rfl, fun _ => rfl, c2, o2⟩
      | some i =>
        have hi := (fnd_some _ _ _ hx).2.1
        have hne : optI (some i) ≠ -1 := by
          show ¬ Int32.ofNat i = -1
          have := i32_of i (by omega)
          clear hx m107 hnl ev a10 h' h1 h2
          grind
        rw [if_pos hne, if_neg (fun q => by cases q)]
        obtain ⟨S1, e1, c1, o1⟩ := q100 (N := N) hb h' (by have e : tTy (tkJ X L j) = 2 := e; omega)
        exact ⟨_, S1, by simp only [mb, e1]; rfl, fun _ => rfl, c1, o1⟩
  · have ht : ¬ isT X L 2 σ = true := fun q => e (of_decide_eq_true q)
    have hne : ¬ Int32.ofNat (sTy X L σ) = 2 := fun q => e ((ofN_eq (j := 2) (by omega) (by omega)).1 q)
    rw [if_neg hne, if_neg ht]
    obtain ⟨S2, e2, c2, o2⟩ := q101 (N := N) (c := 2) hb (by omega) h'
    have e2 : f101 N 2 S = _ := e2
    exact ⟨_, S2, by simp only [mb, e2]; rfl, fun q => absurd q ht, c2, o2⟩
/-! the reference -/
def MS (S : ms_S) (X : Nat → Int32) (L : Nat) (σ : Sg) : Prop := TxM S X L ∧ (match σ with
  | .inr j => j < tkN X L ∧ TkM S (tkJ X L j) ∧ ms_I S 131 4 = 0 ∧ ms_I S 131 5 = -1
  | .inl e => (∃ t, TkOK X L t ∧ TkM S t) ∧ ms_I S 131 4 = Int32.ofNat e.1 ∧ (1 ≤ e.1 ∧ e.1 ≤ 6) ∧ ms_I S 131 5 = Int32.ofNat e.2)
def offM (S S1 : ms_S) : Prop := (∀ j, ¬ (4 ≤ j ∧ j ≤ 9) → ms_I S1 131 j = ms_I S 131 j) ∧ ∀ b, b ≠ 131 → Eqc S S1 b
theorem offM.rf {S : ms_S} : offM S S := ⟨fun _ _ => rfl, fun _ _ => Eqc.rf⟩
theorem offM.tr {S S1 S2 : ms_S} (h : offM S S1) (q : offM S1 S2) : offM S S2 := ⟨fun j hj => (q.1 j hj).trans (h.1 j hj), fun b hb => (h.2 b hb).tr (q.2 b hb)⟩
theorem offN.m {S S1 : ms_S} (h : offN S S1) : offM S S1 := ⟨fun j hj => h.1 j (by omega), h.2⟩
theorem MS_tk {S : ms_S} {σ : Sg} (hb : TxB X L) (h : MS S X L σ) : ∃ t, TkOK X L t ∧ TkM S t ∧ ∀ j, σ = .inr j → t = tkJ X L j := by
  cases σ with
  | inr j => exact ⟨tkJ X L j, tkJ_ok hb h.2.1, h.2.2.1, fun i e => by cases e; rfl⟩
  | inl e => obtain ⟨t, h1, h2⟩ := h.2.1; exact ⟨t, h1, h2, fun i e => by cases e⟩
def gd : Sg → Bool
  | .inl _ => false
  | .inr _ => true
theorem q155 {S : ms_S} {σ : Sg} (h : MS S X L σ) : f155 N S = some (if gd σ = true then 1 else 0, S) := by
  unfold f155
  simp only [mE]
  cases σ with
  | inr j =>
    rw [h.2.2.2.1, if_neg (fun q => q rfl)]
    simp only [mE, or_true]
    rfl
  | inl e =>
    have := h.2.2.2.1
    have hne : Int32.ofNat e.1 ≠ 0 := fun q => by have := (ofN_eq (j := 0) (by omega) (by omega)).1 q; omega
    rw [h.2.2.1, if_pos hne]
    simp only [mE, true_or]
    rfl
theorem E155 {S : ms_S} {σ : Sg} (h : MS S X L σ) {β : Type} {f : Int32 → mM β} : mb (f155 N) f S = f (if gd σ = true then 1 else 0) S := by simp only [mb, q155 (N := N) h]
theorem clsT_5 {ty : Nat} : clsT ty = 5 ↔ ¬ (ty ≤ 3 ∨ 100 ≤ ty) := by
  unfold clsT
  repeat' split
  all_goals first
    | (constructor <;> intro h <;> first | (exfalso; revert h; decide) | omega)
    | exact ⟨fun _ => by omega, fun _ => rfl⟩
theorem clsT_3 {ty : Nat} : clsT ty = 3 ↔ 100 ≤ ty := by
  unfold clsT
  repeat' split
  all_goals first
    | (constructor <;> intro h <;> first | (exfalso; revert h; decide) | omega)
    | exact ⟨fun _ => by omega, fun _ => rfl⟩
theorem clsT_v {ty : Nat} : (clsT ty = 0 ↔ ty = 0) ∧ (clsT ty = 1 ↔ ty = 1) ∧ (clsT ty = 2 ↔ ty = 2) ∧ (clsT ty = 4 ↔ ty = 3) := by
  unfold clsT
  refine ⟨?_, ?_, ?_, ?_⟩
  all_goals repeat' split
  all_goals first
    | (constructor <;> intro h <;> first | (exfalso; revert h; decide) | omega)
    | exact ⟨fun _ => by omega, fun _ => rfl⟩
theorem q159 {S : ms_S} {σ : Sg} {c : Nat} (hb : TxB X L) (hc : 40 ≤ c ∧ c ≤ 62) (h : MS S X L σ) : ∃ v, f159 N (Int32.ofNat c) S = some (v, S) ∧ (v = 0 ∨ v = 1) ∧ ∀ j, σ = .inr j → v = if tTy (tkJ X L j) = c then 1 else 0 := by
  have hL := hb.1
  obtain ⟨t, t1, t2, t3⟩ := MS_tk hb h
  have e : f159 N (Int32.ofNat c) S = some (if tTy t = c then 1 else 0, S) := by
    have hat : tAt t ≤ 1200 := by rcases t1 with q | q <;> omega
    unfold f159
    simp only [mE, t2.2.2.1, true_or, or_true]
    by_cases h5 : clsT (tTy t) = 5
    · rw [if_neg (fun q => q h5)]
      have h5' := clsT_5.1 h5
      rcases t1 with q | ⟨q1, q2, q3, q⟩
      · omega
      · rcases q with q | ⟨q, _⟩ | ⟨q, _⟩ | ⟨q4, q5, q6⟩
        · omega
        · omega
        · omega
        · simp only [mE, t2.1]
          rw [E151 hb h.1 (by omega), show chA X L (tAt t) = X (tAt t) from if_pos q1, q6]
          simp only [mE, true_or, or_true]
          by_cases ec : tTy t = c
          · rw [if_neg (fun q => q (by rw [ec])), if_pos ec]
          · rw [if_pos (fun q => ec ((ofN_eq (by omega) (by omega)).1 q)), if_neg ec]
    · rw [if_pos h5]
      have : tTy t ≠ c := fun q => h5 (clsT_5.2 (by omega))
      rw [if_neg this]
  refine ⟨_, e, ?_, fun j hj => by rw [t3 j hj]⟩
  split <;> simp
theorem q160 {S : ms_S} {σ : Sg} {i : Nat} (hb : TxB X L) (hi : i < 31) (h : MS S X L σ) : ∃ v, f160 N (K8I i) S = some (v, S) ∧ (v = 0 ∨ v = 1) ∧ ∀ j, σ = .inr j → v = if tTy (tkJ X L j) = 100 + i then 1 else 0 := by
  obtain ⟨t, t1, t2, t3⟩ := MS_tk hb h
  have e : f160 N (K8I i) S = some (if tTy t = 100 + i then 1 else 0, S) := by
    unfold f160
    simp only [mE, t2.2.2.1, true_or, or_true]
    by_cases h3 : clsT (tTy t) = 3
    · have h3' := clsT_3.1 h3
      rw [if_neg (fun q => q h3)]
      simp only [mF, t2.2.2.2.2 (Or.inr h3'), mE, true_or, or_true]
      rcases t1 with q | ⟨_, _, _, q⟩
      · omega
      · rcases q with q | ⟨_, q2, _, q4⟩ | ⟨q, _⟩ | ⟨_, q, _⟩
        · omega
        · have w := word8 q2 hi
          rw [← q4] at w
          by_cases ec : tTy t = 100 + i
          · rw [if_neg (fun q => q (lgc.2 (w.1 ec))), if_pos ec]
          · rw [if_pos (fun q => ec (w.2 (lgc.1 q))), if_neg ec]
        · omega
        · omega
    · rw [if_pos h3]
      have : tTy t ≠ 100 + i := fun q => h3 (clsT_3.2 (by omega))
      rw [if_neg this]
  refine ⟨_, e, ?_, fun j hj => by rw [t3 j hj]⟩
  split <;> simp
/-- a fault, if there is none yet -/
def fa (c p : Nat) : Sg → Sg
  | .inl e => .inl e
  | .inr _ => .inl (c, p)
theorem q154 {S : ms_S} {σ : Sg} {c p : Nat} (hb : TxB X L) (hc : 1 ≤ c ∧ c ≤ 6) (h : MS S X L σ) : ∃ S1, f154 N (Int32.ofNat c) (Int32.ofNat p) S = some ((), S1) ∧ MS S1 X L (fa c p σ) ∧ offM S S1 ∧ (∀ t, TkM S t → TkM S1 t) := by
  cases σ with
  | inl e =>
    have he := h.2.2.2.1
    have hgt : ¬ Int32.ofNat e.1 ≤ 0 := fun q => by have := (ofN_le (j := 0) (by omega) (by omega)).1 q; omega
    refine ⟨S, ?_, h, offM.rf, fun _ h => h⟩
    unfold f154
    simp only [mE, h.2.2.1]
    rw [if_neg hgt]
  | inr j =>
    obtain ⟨h1, h2, h3, h4, h5⟩ := h
    have o : offM S (ms_setI (ms_setI S 131 4 (Int32.ofNat c)) 131 5 (Int32.ofNat p)) := ⟨fun q hq => by simp only [mG, true_and, if_neg (show ¬ q = 5 by omega), if_neg (show ¬ q = 4 by omega)], fun b hb => (Eqc_I hb).tr (Eqc_I hb)⟩
    have tk : ∀ t, TkM S t → TkM (ms_setI (ms_setI S 131 4 (Int32.ofNat c)) 131 5 (Int32.ofNat p)) t := fun t ht => by
      unfold TkM at *
      simp [mG, mGo]
      simpa using ht
    refine ⟨ms_setI (ms_setI S 131 4 (Int32.ofNat c)) 131 5 (Int32.ofNat p), ?_, ⟨?_, ⟨tkJ X L j, tkJ_ok hb h2, tk _ h3⟩, by simp [mG], hc, by simp [mG]⟩, o, tk⟩
    · unfold f154
      simp only [mE, h4]
      rw [if_pos (by decide)]
    · unfold TxM at *
      rw [o.1 3 (by omega), (o.2 133 (by decide)).2.2.2.1]
      exact h1
theorem q161 {S : ms_S} {σ : Sg} (hb : TxB X L) (h : MS S X L σ) : ∃ S1, f161 N S = some ((), S1) ∧ MS S1 X L (rf X L 2 σ) ∧ offM S S1 ∧ (∀ t, TkM S t → TkM S1 t) := by
  obtain ⟨t, t1, t2, t3⟩ := MS_tk hb h
  have go : ∀ c, (c = 1 ∨ c = 2) → (∀ j, σ = .inr j → c = if tTy (tkJ X L j) = 1 then 1 else 2) → ∃ S1, (mb (gI 131 6) fun v1 => mb (f154 N (Int32.ofNat c) v1) fun _ => mret ()) S = some ((), S1) ∧ MS S1 X L (rf X L 2 σ) ∧ offM S S1 ∧ (∀ t, TkM S t → TkM S1 t) := by
    intro c hc hj
    obtain ⟨S1, e1, m1, o1, k1⟩ := q154 (N := N) (c := c) (p := tAt t) hb (by omega) h
    refine ⟨S1, ?_, ?_, o1, k1⟩
    · simp only [mE, t2.1]
      simp only [mb, e1]
      rfl
    · cases σ with
      | inl e => exact m1
      | inr j =>
        have e2 := hj j rfl
        have e3 := t3 j rfl
        rw [e3, e2] at m1
        exact m1
  unfold f161
  simp only [mE, t2.2.2.1]
  by_cases h1 : clsT (tTy t) = 1
  · rw [if_neg (fun q => q h1)]
    obtain ⟨S1, e1, r⟩ := go 1 (Or.inl rfl) (fun j hj => by rw [← t3 j hj, if_pos (clsT_v.2.1.1 h1)])
    simp only [mE] at e1
    exact ⟨S1, e1, r⟩
  · rw [if_pos h1]
    obtain ⟨S1, e1, r⟩ := go 2 (Or.inr rfl) (fun j hj => by rw [← t3 j hj, if_neg (fun q => h1 (clsT_v.2.1.2 q))])
    simp only [mE] at e1
    exact ⟨S1, e1, r⟩
theorem qnext {S : ms_S} {j : Nat} (hN : 1300 ≤ N) (hb : TxB X L) (h : MS S X L (.inr j)) (h0 : tTy (tkJ X L j) ≠ 0) (h1 : tTy (tkJ X L j) ≠ 1) : ∃ S1, f158 N S = some ((), S1) ∧ MS S1 X L (.inr (j + 1)) ∧ offM S S1 := by
  obtain ⟨m1, m2, m3, m4, m5⟩ := h
  obtain ⟨n1, n2⟩ := tkJ_nx hb m2 h0
  have hen : tEn (tkJ X L j) ≤ L := by rcases tkJ_ok hb m2 with q | q <;> omega
  obtain ⟨S1, e1, t1, o1⟩ := q158 (N := N) hN hb hen m1 m3.2.1
  rw [← n2 h1] at t1
  exact ⟨S1, e1, ⟨TxM_off m1 o1, n1, t1, by rw [o1.1 4 (by omega)]; exact m4, by rw [o1.1 5 (by omega)]; exact m5⟩, o1.m⟩
/-- must: v says whether the token is what it must be -/
theorem q162 {S : ms_S} {σ : Sg} {ty : Nat} {v : Int32} (hN : 1300 ≤ N) (hb : TxB X L) (h : MS S X L σ) (hty : 2 ≤ ty) (hv : ∀ j, σ = .inr j → v = if tTy (tkJ X L j) = ty then 1 else 0) : ∃ S1, f162 N v S = some ((), S1) ∧ MS S1 X L (dm X L ty σ) ∧ offM S S1 := by
  unfold f162
  simp only [mE]
  rw [E155 h]
  cases σ with
  | inl e =>
    refine ⟨S, ?_, ?_, offM.rf⟩
    · rw [show gd (.inl e) = false from rfl]; rfl
    · have : dm X L ty (.inl e) = .inl e := by
        unfold dm
        split
        · rfl
        · rfl
      rw [this]; exact h
  | inr j =>
    rw [show gd (.inr j) = true from rfl, if_pos rfl, if_pos (by decide)]
    have hv := hv j rfl
    unfold dm
    by_cases ht : tTy (tkJ X L j) = ty
    · have hT : isT X L ty (.inr j) = true := decide_eq_true ht
      rw [if_pos ht] at hv
      rw [if_pos hT, hv]
      obtain ⟨S1, e1, m1, o1⟩ := qnext (N := N) hN hb h (by omega) (by omega)
      refine ⟨S1, ?_, m1, o1⟩
      simp only [mE]
      rw [if_neg (by decide)]
      simp only [mb, e1]
      rfl
    · have hT : ¬ isT X L ty (.inr j) = true := fun q => ht (of_decide_eq_true q)
      rw [if_neg ht] at hv
      rw [if_neg hT, hv]
      obtain ⟨S1, e1, m1, o1, _⟩ := q161 (N := N) hb h
      refine ⟨S1, ?_, m1, o1⟩
      simp only [mE]
      rw [if_pos trivial]
      simp only [mb, e1]
      rfl
theorem q163 {S : ms_S} {σ : Sg} {lo hi : Int32} (hN : 1300 ≤ N) (hb : TxB X L) (h : MS S X L σ) : ∃ v S1, f163 N lo hi S = some (v, S1) ∧ (∀ j, nb X L lo hi σ = .inr j → v = nuV X L σ) ∧ MS S1 X L (nb X L lo hi σ) ∧ offM S S1 := by
  unfold f163
  simp only [mE]
  rw [E155 h]
  cases σ with
  | inl e =>
    have en : nb X L lo hi (.inl e) = .inl e := by
      unfold nb
      split
      · split <;> rfl
      · rfl
    refine ⟨lo, S, ?_, (fun j hj => by rw [en] at hj; cases hj), by rw [en]; exact h, offM.rf⟩
    rw [show gd (.inl e) = false from rfl]; rfl
  | inr j =>
    rw [show gd (.inr j) = true from rfl, if_pos rfl, if_pos (by decide)]
    have h' := h
    obtain ⟨m1, m2, m3, m4, m5⟩ := h
    unfold nb
    simp only [mE, m3.2.2.1]
    -- the rest, once a fault stands
    have bad : ∀ S1 : ms_S, ∀ e, MS S1 X L (.inl e) → ∃ v, (mb (f155 N) fun v10 => if v10 = 0 then (mb (gI 131 9) fun v5 => mb (f155 N) fun v7 => if v7 = 0 then (mb (f155 N) fun v3 => if v3 = 0 then (mret lo) else (mret v5)) else (mb (f158 N) fun _ => (mb (f155 N) fun v3 => if v3 = 0 then (mret lo) else (mret v5)))) else (mb (gI 131 9) fun v15 => if v15 < lo then (mb (gI 131 6) fun v12 => mb (f154 N 4 v12) fun _ => (mb (gI 131 9) fun v5 => mb (f155 N) fun v7 => if v7 = 0 then (mb (f155 N) fun v3 => if v3 = 0 then (mret lo) else (mret v5)) else (mb (f158 N) fun _ => (mb (f155 N) fun v3 => if v3 = 0 then (mret lo) else (mret v5))))) else (mb (gI 131 9) fun v17 => if v17 ≤ hi then (mb (gI 131 9) fun v5 => mb (f155 N) fun v7 => if v7 = 0 then (mb (f155 N) fun v3 => if v3 = 0 then (mret lo) else (mret v5)) else (mb (f158 N) fun _ => (mb (f155 N) fun v3 => if v3 = 0 then (mret lo) else (mret v5)))) else (mb (gI 131 6) fun v12 => mb (f154 N 4 v12) fun _ => (mb (gI 131 9) fun v5 => mb (f155 N) fun v7 => if v7 = 0 then (mb (f155 N) fun v3 => if v3 = 0 then (mret lo) else (mret v5)) else (mb (f158 N) fun _ => (mb (f155 N) fun v3 => if v3 = 0 then (mret lo) else (mret v5)))))))) S1 = some (v, S1) := by
      intro S1 e hm
      refine ⟨lo, ?_⟩
      rw [E155 hm, show gd (.inl e) = false from rfl]
      show (mb (gI 131 9) fun v5 => mb (f155 N) fun v7 => if v7 = 0 then (mb (f155 N) fun v3 => if v3 = 0 then (mret lo) else (mret v5)) else (mb (f158 N) fun _ => (mb (f155 N) fun v3 => if v3 = 0 then (mret lo) else (mret v5)))) S1 = _
      simp only [mE]
      rw [E155 hm, show gd (.inl e) = false from rfl]
      show (mb (f155 N) fun v3 => if v3 = 0 then (mret lo) else (mret (ms_I S1 131 9))) S1 = _
      rw [E155 hm, show gd (.inl e) = false from rfl]
      rfl
    by_cases ht : tTy (tkJ X L j) = 3
    · have hT : isT X L 3 (.inr j) = true := decide_eq_true ht
      rw [if_pos (clsT_v.2.2.2.2 ht), if_pos hT]
      have h9 : ms_I S 131 9 = nuV X L (.inr j) := m3.2.2.2.1 ht
      rw [E155 h', show gd (.inr j) = true from rfl, if_pos rfl, if_neg (by decide)]
      simp only [mE, h9]
      have out : ¬ (lo ≤ nuV X L (.inr j) ∧ nuV X L (.inr j) ≤ hi) → ∃ v S1, (mb (gI 131 6) fun v12 => mb (f154 N 4 v12) fun _ => (mb (gI 131 9) fun v5 => mb (f155 N) fun v7 => if v7 = 0 then (mb (f155 N) fun v3 => if v3 = 0 then (mret lo) else (mret v5)) else (mb (f158 N) fun _ => (mb (f155 N) fun v3 => if v3 = 0 then (mret lo) else (mret v5))))) S = some (v, S1) ∧ MS S1 X L (rf X L 4 (.inr j)) ∧ offM S S1 := by
        intro _
        obtain ⟨S1, e1, q1, o1, _⟩ := q154 (N := N) (c := 4) (p := tAt (tkJ X L j)) hb (by omega) h'
        have er : rf X L 4 (.inr j) = fa 4 (tAt (tkJ X L j)) (.inr j) := by
          show Sum.inl _ = Sum.inl _
          rw [if_neg (by omega)]
        have e1 : f154 N 4 (Int32.ofNat (tAt (tkJ X L j))) S = _ := e1
        have m154 : ∀ {β : Type} {f' : Unit → mM β}, mb (f154 N 4 (Int32.ofNat (tAt (tkJ X L j)))) f' S = f' () S1 := by intro β f'; simp only [mb, e1]
        refine ⟨lo, S1, ?_, by rw [er]; exact q1, o1⟩
        simp only [mE, m3.1]
        rw [m154]
        simp only [mE]
        rw [E155 q1, show gd (fa 4 (tAt (tkJ X L j)) (.inr j)) = false from rfl]
        show (mb (f155 N) fun v3 => if v3 = 0 then (mret lo) else (mret (ms_I S1 131 9))) S1 = _
        rw [E155 q1, show gd (fa 4 (tAt (tkJ X L j)) (.inr j)) = false from rfl]
        rfl
      have er4 : ∀ i, rf X L 4 (.inr j) = .inr i → False := fun i hi => by cases hi
      by_cases hlo : nuV X L (.inr j) < lo
      · have hn : ¬ (lo ≤ nuV X L (.inr j) ∧ nuV X L (.inr j) ≤ hi) := fun q => Int32.not_lt.mpr q.1 hlo
        rw [if_pos hlo, if_neg hn]
        obtain ⟨v, S1, e1, q1, o1⟩ := out hn
        simp only [mE] at e1
        exact ⟨v, S1, e1, fun i hi => (er4 i hi).elim, q1, o1⟩
      · rw [if_neg hlo]
        by_cases hhi : nuV X L (.inr j) ≤ hi
        · rw [if_pos hhi, if_pos ⟨Int32.not_lt.mp hlo, hhi⟩, E155 h', show gd (.inr j) = true from rfl, if_pos rfl, if_neg (by decide)]
          obtain ⟨S1, e1, q1, o1⟩ := qnext (N := N) hN hb h' (by omega) (by omega)
          have m158 : ∀ {β : Type} {f' : Unit → mM β}, mb (f158 N) f' S = f' () S1 := by intro β f'; simp only [mb, e1]
          refine ⟨nuV X L (.inr j), S1, ?_, fun _ _ => rfl, q1, o1⟩
          rw [m158, E155 q1, show gd (.inr (j + 1)) = true from rfl, if_pos rfl, if_neg (by decide)]
          rfl
        · have hn : ¬ (lo ≤ nuV X L (.inr j) ∧ nuV X L (.inr j) ≤ hi) := fun q => hhi q.2
          rw [if_neg hhi, if_neg hn]
          obtain ⟨v, S1, e1, q1, o1⟩ := out hn
          simp only [mE] at e1
          exact ⟨v, S1, e1, fun i hi => (er4 i hi).elim, q1, o1⟩
    · have hT : ¬ isT X L 3 (.inr j) = true := fun q => ht (of_decide_eq_true q)
      rw [if_neg (fun q => ht (clsT_v.2.2.2.1 q)), if_neg hT]
      obtain ⟨S1, e1, q1, o1, _⟩ := q161 (N := N) hb h'
      have m161 : ∀ {β : Type} {f' : Unit → mM β}, mb (f161 N) f' S = f' () S1 := by intro β f'; simp only [mb, e1]
      obtain ⟨v, e2⟩ := bad S1 _ q1
      refine ⟨v, S1, ?_, (fun i hi => by cases hi), q1, o1⟩
      rw [m161]
      exact e2
end NAM
