/-! reading on, in both -/
def CH (X : Nat → Int32) (L : Nat) (l : List Tk) (i : Nat) : Prop := 0 < l.length ∧ (∀ j, j < l.length → TkOK X L (l.getD j (tEnd 0))) ∧ l.getD 0 (tEnd 0) = tNx X L i ∧ (∀ j, j < l.length → (tTy (l.getD j (tEnd 0)) = 0 ↔ j + 1 = l.length)) ∧ (∀ j, j + 1 < l.length → tTy (l.getD j (tEnd 0)) ≠ 1 → l.getD (j + 1) (tEnd 0) = tNx X L (tEn (l.getD j (tEnd 0))))
theorem tkok_ne {X : Nat → Int32} {L : Nat} {t : Tk} (h : TkOK X L t) (ha : tAt t < L) : tTy t ≠ 0 := by
  rcases h with h | ⟨_, _, _, h⟩
  · omega
  · rcases h with h | ⟨h, _⟩ | ⟨h, _⟩ | ⟨h, _⟩ <;> omega
theorem tkL_ch {X : Nat → Int32} {L : Nat} (hb : TxB X L) : ∀ n i, L - i < n → i ≤ L → CH X L (tkL X L n i) i := by
  intro n
  induction n with
  | zero => intro i h; omega
  | succ n ih =>
    intro i hn hi
    have hge := rnE_ge (P := isSp) (X := X) (L := L) (i := i)
    by_cases hr : rnE isSp X L i < L
    · have hok := tokA_ok hb hr
      obtain ⟨e1, e2, e3⟩ := tokA_en (X := X) hr
      have hne := tkok_ne hok (by omega)
      have ex : tNx X L i = tokA X L (rnE isSp X L i) := if_pos hr
      by_cases h1 : tTy (tokA X L (rnE isSp X L i)) = 1
      · have e : tkL X L (n + 1) i = [tokA X L (rnE isSp X L i), tEnd L] := by unfold tkL; rw [if_pos hr, if_pos h1]
        rw [e]
        refine ⟨by simp, fun j hj => ?_, by rw [ex]; rfl, fun j hj => ?_, fun j hj hj1 => ?_⟩
        · have hj : j < 2 := hj
          rcases (show j = 0 ∨ j = 1 by omega) with rfl | rfl
          · exact hok
          · exact Or.inl ⟨rfl, rfl, rfl⟩
        · have hj : j < 2 := hj
          rcases (show j = 0 ∨ j = 1 by omega) with rfl | rfl
          · show tTy (tokA X L (rnE isSp X L i)) = 0 ↔ (0 : Nat) + 1 = 2
            omega
          · show tTy (tEnd L) = 0 ↔ (1 : Nat) + 1 = 2
            exact ⟨fun _ => rfl, fun _ => rfl⟩
        · have hj : j + 1 < 2 := hj
          have : j = 0 := by omega
          subst this
          exact absurd h1 hj1
      · have e : tkL X L (n + 1) i = tokA X L (rnE isSp X L i) :: tkL X L n (tEn (tokA X L (rnE isSp X L i))) := by
          show (if rnE isSp X L i < L then _ else _) = _
          rw [if_pos hr, if_neg h1]
        obtain ⟨c1, c2, c3, c4, c5⟩ := ih (tEn (tokA X L (rnE isSp X L i))) (by omega) e2
        rw [e]
        refine ⟨by simp, fun j hj => ?_, by rw [ex]; rfl, fun j hj => ?_, fun j hj hj1 => ?_⟩
        · cases j with
          | zero => exact hok
          | succ j => exact c2 j (by simpa using hj)
        · cases j with
          | zero =>
            show tTy (tokA X L (rnE isSp X L i)) = 0 ↔ _
            rw [List.length_cons]
            omega
          | succ j =>
            have hj : j < (tkL X L n (tEn (tokA X L (rnE isSp X L i)))).length := by simpa using hj
            have := c4 j hj
            rw [List.length_cons]
            show tTy ((tkL X L n (tEn (tokA X L (rnE isSp X L i)))).getD j (tEnd 0)) = 0 ↔ _
            omega
        · cases j with
          | zero => exact c3
          | succ j => exact c5 j (by simpa using hj) hj1
    · have e : tkL X L (n + 1) i = [tEnd L] := by
        show (if rnE isSp X L i < L then _ else _) = _
        rw [if_neg hr]
      have ex : tNx X L i = tEnd L := if_neg hr
      rw [e]
      refine ⟨by simp, fun j hj => ?_, by rw [ex]; rfl, fun j hj => ?_, fun j hj => absurd hj (by simp)⟩
      · have hj : j < 1 := hj
        have : j = 0 := by omega
        subst this
        exact Or.inl ⟨rfl, rfl, rfl⟩
      · have hj : j < 1 := hj
        have : j = 0 := by omega
        subst this
        exact ⟨fun _ => rfl, fun _ => rfl⟩
section OPS
variable {N : Nat} {X : Nat → Int32} {L : Nat}
def tkJ (X : Nat → Int32) (L j : Nat) : Tk := (tkA X L).getD j (tEnd 0)
def tkN (X : Nat → Int32) (L : Nat) : Nat := (tkA X L).length
theorem tk_ch (hb : TxB X L) : CH X L (tkA X L) 0 := tkL_ch hb (L + 1) 0 (by omega) (by omega)
theorem tkJ_ok (hb : TxB X L) {j : Nat} (hj : j < tkN X L) : TkOK X L (tkJ X L j) := (tk_ch hb).2.1 j hj
theorem tkJ_0 (hb : TxB X L) : tkJ X L 0 = tNx X L 0 ∧ 0 < tkN X L := ⟨(tk_ch hb).2.2.1, (tk_ch hb).1⟩
theorem tkJ_end (hb : TxB X L) {j : Nat} (hj : j < tkN X L) : tTy (tkJ X L j) = 0 ↔ j + 1 = tkN X L := (tk_ch hb).2.2.2.1 j hj
theorem tkJ_nx (hb : TxB X L) {j : Nat} (hj : j < tkN X L) (h0 : tTy (tkJ X L j) ≠ 0) : j + 1 < tkN X L ∧ (tTy (tkJ X L j) ≠ 1 → tkJ X L (j + 1) = tNx X L (tEn (tkJ X L j))) := by
  have h1 : j + 1 < tkN X L := by
    have := tkJ_end hb hj
    omega
  exact ⟨h1, fun h => (tk_ch hb).2.2.2.2 j h1 h⟩
theorem tk_len (hb : TxB X L) : ∀ n i, L - i < n → i ≤ L → (tkL X L n i).length ≤ L - i + 1 := by
  intro n
  induction n with
  | zero => intro i h; omega
  | succ n ih =>
    intro i hn hi
    have hge := rnE_ge (P := isSp) (X := X) (L := L) (i := i)
    unfold tkL
    split
    · rename_i hr
      obtain ⟨e1, e2, e3⟩ := tokA_en (X := X) hr
      split
      · simp; omega
      · have := ih (tEn (tokA X L (rnE isSp X L i))) (by omega) e2
        rw [List.length_cons]
        omega
    · simp
theorem tkN_le (hb : TxB X L) : tkN X L ≤ 1201 := by
  have := tk_len hb (L + 1) 0 (by omega) (by omega)
  have := hb.1
  unfold tkN tkA
  omega
/-- where reading stands: a fault (kind, place), or at a token -/
abbrev Sg : Type := Sum (Nat × Nat) Nat
def sTy (X : Nat → Int32) (L : Nat) : Sg → Nat
  | .inl _ => 0
  | .inr j => tTy (tkJ X L j)
def isT (X : Nat → Int32) (L ty : Nat) (σ : Sg) : Bool := decide (sTy X L σ = ty)
def rf (X : Nat → Int32) (L c : Nat) : Sg → Sg
  | .inl e => .inl e
  | .inr j => .inl (if tTy (tkJ X L j) = 1 then 1 else c, tAt (tkJ X L j))
def nx : Sg → Sg
  | .inl e => .inl e
  | .inr j => .inr (j + 1)
def ac (X : Nat → Int32) (L ty : Nat) (σ : Sg) : Sg := if isT X L ty σ = true then nx σ else σ
def dm (X : Nat → Int32) (L ty : Nat) (σ : Sg) : Sg := if isT X L ty σ = true then nx σ else rf X L 2 σ
def nuV (X : Nat → Int32) (L : Nat) : Sg → Int32
  | .inl _ => 0
  | .inr j => tNu (tkJ X L j)
def nb (X : Nat → Int32) (L : Nat) (lo hi : Int32) (σ : Sg) : Sg := if isT X L 3 σ = true then (if lo ≤ nuV X L σ ∧ nuV X L σ ≤ hi then nx σ else rf X L 4 σ) else rf X L 2 σ
def nmV (X : Nat → Int32) (L : Nat) : Sg → List Int32
  | .inl _ => []
  | .inr j => tNm (tkJ X L j)
def cAt (X : Nat → Int32) (L : Nat) : Sg → Nat
  | .inl _ => tkN X L - 1
  | .inr j => j
def CS (S : ms_S) (X : Nat → Int32) (L : Nat) (σ : Sg) : Prop := TC S (tkA X L) ∧ ms_I S 6 5 = Int32.ofNat (cAt X L σ) ∧ cAt X L σ < tkN X L ∧ (match σ with
  | .inr _ => ms_I S 6 6 = 0 ∧ ms_I S 6 7 = -1
  | .inl e => ms_I S 6 6 = Int32.ofNat e.1 ∧ (1 ≤ e.1 ∧ e.1 ≤ 6) ∧ ms_I S 6 7 = Int32.ofNat e.2)
def offX (S S1 : ms_S) : Prop := (∀ j, ¬ (5 ≤ j ∧ j ≤ 7) → ms_I S1 6 j = ms_I S 6 j) ∧ ∀ b, b ≠ 6 → Eqc S S1 b
theorem offX.rf {S : ms_S} : offX S S := ⟨fun _ _ => rfl, fun _ _ => Eqc.rf⟩
theorem offX.tr {S S1 S2 : ms_S} (h : offX S S1) (q : offX S1 S2) : offX S S2 := ⟨fun j hj => (q.1 j hj).trans (h.1 j hj), fun b hb => (h.2 b hb).tr (q.2 b hb)⟩
theorem offX.st {S : ms_S} {k : Nat} {v : Int32} (hk : 5 ≤ k ∧ k ≤ 7) : offX S (ms_setI S 6 k v) := ⟨fun j hj => by simp only [mG, true_and, if_neg (show ¬ j = k by omega)], fun b hb => Eqc_I hb⟩
theorem TC_off {S S1 : ms_S} {T : List Tk} (h : TC S T) (o : offX S S1) : TC S1 T := by
  unfold TC at *
  rw [o.1 4 (by omega), (o.2 8 (by decide)).2.2.2.1, (o.2 9 (by decide)).2.2.2.1, (o.2 10 (by decide)).2.2.2.2.1]
  exact h
theorem cAt_ty (hb : TxB X L) {σ : Sg} (h : cAt X L σ < tkN X L) : tTy (tkJ X L (cAt X L σ)) = sTy X L σ := by
  cases σ with
  | inr j => rfl
  | inl e =>
    have h0 := (tkJ_0 hb).2
    exact (tkJ_end hb (show tkN X L - 1 < tkN X L by omega)).2 (by omega)
theorem sTy_bd (hb : TxB X L) {σ : Sg} (h : cAt X L σ < tkN X L) : sTy X L σ < 1000 := by
  rw [← cAt_ty hb h]
  rcases tkJ_ok hb h with q | ⟨_, _, _, q⟩
  · omega
  · rcases q with q | ⟨q, _⟩ | ⟨q, _⟩ | ⟨q, _, _⟩ <;> omega
theorem q98 {S : ms_S} {σ : Sg} (hb : TxB X L) (h : CS S X L σ) : f98 N S = some (Int32.ofNat (sTy X L σ), S) := by
  have hn := tkN_le hb
  obtain ⟨h1, h2, h3, _⟩ := h
  have i1 : inR (Int32.ofNat (cAt X L σ)) 1201 := ofN_inR (by omega) (by omega)
  have i2 := ofN_cl (i := cAt X L σ) (by omega)
  unfold f98
  simp only [mE, h2, i1, i2, (h1.2 _ h3).1]
  rw [show tTy ((tkA X L).getD (cAt X L σ) (tEnd 0)) = sTy X L σ from cAt_ty hb h3]
theorem E98 {S : ms_S} {σ : Sg} (hb : TxB X L) (h : CS S X L σ) {β : Type} {f : Int32 → mM β} : mb (f98 N) f S = f (Int32.ofNat (sTy X L σ)) S := by simp only [mb, q98 (N := N) hb h]
theorem q100 {S : ms_S} {j : Nat} (hb : TxB X L) (h : CS S X L (.inr j)) (h0 : tTy (tkJ X L j) ≠ 0) : ∃ S1, f100 N S = some ((), S1) ∧ CS S1 X L (.inr (j + 1)) ∧ offX S S1 := by
  have hn := tkN_le hb
  obtain ⟨h1, h2, h3, h4, h5⟩ := h
  have h2 : ms_I S 6 5 = Int32.ofNat j := h2
  have h3 : j < tkN X L := h3
  have hl := (tkJ_nx hb h3 h0).1
  have o := offX.st (S := S) (k := 5) (v := Int32.ofNat (j + 1)) (by omega)
  refine ⟨ms_setI S 6 5 (Int32.ofNat (j + 1)), ?_, ⟨TC_off h1 o, by show _ = Int32.ofNat (j + 1); simp only [mG, and_self, if_true], hl, by simp [mG]; exact h4, by simp [mG]; exact h5⟩, o⟩
  unfold f100
  simp only [mE, h2, h1.1]
  have e1 : Int32.ofNat (tkA X L).length - 1 = Int32.ofNat (tkN X L - 1) := ofN_sub (j := 1) (show 1 ≤ tkN X L by omega)
  rw [e1, if_neg (fun q => by have := (ofN_le (i := tkN X L - 1) (j := j) (by omega) (by omega)).1 q; omega), ofN_s]
theorem q101 {S : ms_S} {σ : Sg} {c : Nat} (hb : TxB X L) (hc : 1 ≤ c ∧ c ≤ 6) (h : CS S X L σ) : ∃ S1, f101 N (Int32.ofNat c) S = some ((), S1) ∧ CS S1 X L (rf X L c σ) ∧ offX S S1 := by
  have hn := tkN_le hb
  cases σ with
  | inl e =>
    refine ⟨S, ?_, h, offX.rf⟩
    obtain ⟨h1, h2, h3, h4, h5, h6⟩ := h
    unfold f101
    simp only [mE, h4]
    have hne : Int32.ofNat e.1 ≠ 0 := fun q => by have := (ofN_eq (j := 0) (by omega) (by omega)).1 q; omega
    rw [if_pos hne]
  | inr j =>
    obtain ⟨h1, h2, h3, h4, h5⟩ := h
    have h2 : ms_I S 6 5 = Int32.ofNat j := h2
    have h3 : j < tkN X L := h3
    have i1 : inR (Int32.ofNat j) 1201 := ofN_inR (by omega) (by omega)
    have i2 := ofN_cl (i := j) (by omega)
    obtain ⟨a8, a9, _⟩ := h1.2 j h3
    have a8 : ms_A S 8 j = Int32.ofNat (tTy (tkJ X L j)) := a8
    have a9 : ms_A S 9 j = Int32.ofNat (tAt (tkJ X L j)) := a9
    have htb : tTy (tkJ X L j) < 1000 := sTy_bd hb (σ := .inr j) h3
    have V0 : ∃ v, v = Int32.ofNat (if tTy (tkJ X L j) = 1 then 1 else c) := ⟨_, rfl⟩
    obtain ⟨v, hv⟩ := V0
    have Y0 : ∃ Y, Y = ms_setI (ms_setI (ms_setI S 6 6 v) 6 7 (Int32.ofNat (tAt (tkJ X L j)))) 6 5 (Int32.ofNat (tkN X L - 1)) := ⟨_, rfl⟩
    obtain ⟨Y, hY⟩ := Y0
    have o : offX S Y := by rw [hY]; exact ((offX.st (by omega)).tr (offX.st (by omega))).tr (offX.st (by omega))
    have k5 : ms_I (ms_setI S 6 6 v) 6 5 = Int32.ofNat j := by simp [mG]; exact h2
    have k9 : ms_A (ms_setI S 6 6 v) 9 j = Int32.ofNat (tAt (tkJ X L j)) := by rw [(Eqc_I (by decide)).2.2.2.1]; exact a9
    have k4 : ms_I (ms_setI (ms_setI S 6 6 v) 6 7 (Int32.ofNat (tAt (tkJ X L j)))) 6 4 = Int32.ofNat (tkN X L) := by simp [mG]; exact h1.1
    have e1 : Int32.ofNat (tkN X L) - 1 = Int32.ofNat (tkN X L - 1) := ofN_sub (j := 1) (show 1 ≤ tkN X L by omega)
    have body : f101 N (Int32.ofNat c) S = some ((), Y) := by
      unfold f101
      simp only [mE, h4]
      rw [if_neg (fun q => q rfl)]
      simp only [mE, h2, i1, i2, a8]
      by_cases hb1 : tTy (tkJ X L j) = 1
      · rw [if_pos hb1] at hv
        have hv : v = 1 := hv
        rw [if_neg (fun q => q (by rw [hb1]; rfl))]
        subst hv
        simp only [mE, k5, i1, i2, k9, k4, e1, ← hY]
      · rw [if_neg hb1] at hv
        have hne : Int32.ofNat (tTy (tkJ X L j)) ≠ 1 := fun q => hb1 ((ofN_eq (j := 1) (by omega) (by omega)).1 q)
        rw [if_pos hne, ← hv]
        simp only [mE, k5, i1, i2, k9, k4, e1, ← hY]
    refine ⟨Y, body, ⟨TC_off h1 o, by show _ = Int32.ofNat (tkN X L - 1); rw [hY]; simp only [mG, and_self, if_true], by show tkN X L - 1 < tkN X L; omega, ?_, ?_, ?_⟩, o⟩
    · rw [hY]; simp [mG]; exact hv
    · show 1 ≤ (if tTy (tkJ X L j) = 1 then 1 else c) ∧ (if tTy (tkJ X L j) = 1 then 1 else c) ≤ 6
      split <;> omega
    · rw [hY]; simp [mG]
theorem q102 {S : ms_S} {σ : Sg} {ty : Nat} (hb : TxB X L) (h0 : 1 ≤ ty ∧ ty < 1000) (h : CS S X L σ) : ∃ S1, f102 N (Int32.ofNat ty) S = some (if isT X L ty σ = true then 1 else 0, S1) ∧ CS S1 X L (ac X L ty σ) ∧ offX S S1 := by
  have hn := tkN_le hb
  have h' := h
  obtain ⟨h1, h2, h3, _⟩ := h
  have i1 : inR (Int32.ofNat (cAt X L σ)) 1201 := ofN_inR (by omega) (by omega)
  have i2 := ofN_cl (i := cAt X L σ) (by omega)
  have a8 : ms_A S 8 (cAt X L σ) = Int32.ofNat (sTy X L σ) := by rw [(h1.2 _ h3).1, ← cAt_ty hb h3]; rfl
  have htb := sTy_bd hb h3
  unfold f102 ac isT
  simp only [mE, h2, i1, i2, a8, decide_eq_true_eq]
  by_cases e : sTy X L σ = ty
  · rw [if_pos (by rw [e]), if_pos e, if_pos e]
    cases σ with
    | inl e' => have e : 0 = ty := e; omega
    | inr j =>
      obtain ⟨S1, e1, c1, o1⟩ := q100 (N := N) hb h' (by have e : tTy (tkJ X L j) = ty := e; omega)
      have m100 : ∀ {β : Type} {f' : Unit → mM β}, mb (f100 N) f' S = f' () S1 := by intro β f'; simp only [mb, e1]
      refine ⟨S1, ?_, c1, o1⟩
      rw [m100]
      simp only [mE, or_true]
  · rw [if_neg (fun q => e ((ofN_eq (by omega) (by omega)).1 q)), if_neg e, if_neg e]
    exact ⟨S, by simp only [mE, true_or], h', offX.rf⟩
theorem q103 {S : ms_S} {σ : Sg} {ty : Nat} (hb : TxB X L) (h0 : 1 ≤ ty ∧ ty < 1000) (h : CS S X L σ) : ∃ S1, f103 N (Int32.ofNat ty) S = some ((), S1) ∧ CS S1 X L (dm X L ty σ) ∧ offX S S1 := by
  obtain ⟨S1, e1, c1, o1⟩ := q102 (N := N) hb h0 h
  have m102 : ∀ {β : Type} {f' : Int32 → mM β}, mb (f102 N (Int32.ofNat ty)) f' S = f' (if isT X L ty σ = true then 1 else 0) S1 := by intro β f'; simp only [mb, e1]
  unfold f103 dm
  simp only [mE]
  rw [m102]
  unfold ac at c1
  by_cases ht : isT X L ty σ = true
  · rw [if_pos ht] at c1
    rw [if_pos ht, if_pos ht]
    exact ⟨S1, by simp only [mE]; rw [if_pos (by decide)], c1, o1⟩
  · rw [if_neg ht] at c1
    rw [if_neg ht, if_neg ht]
    obtain ⟨S2, e2, c2, o2⟩ := q101 (N := N) (c := 2) hb (by omega) c1
    have m101 : ∀ {β : Type} {f' : Unit → mM β}, mb (f101 N 2) f' S1 = f' () S2 := by intro β f'; have e2 : f101 N 2 S1 = _ := e2; simp only [mb, e2]
    refine ⟨S2, ?_, c2, o1.tr o2⟩
    rw [if_neg (fun q => q rfl), m101]
    rfl
theorem i64i32 {x : Int32} : Int64.toInt32 (Int32.toInt64 x) = x := by simp
theorem q104 {S : ms_S} {σ : Sg} {lo hi : Int32} (hb : TxB X L) (h : CS S X L σ) : ∃ v S1, f104 N lo hi S = some (v, S1) ∧ (isT X L 3 σ = true → v = nuV X L σ) ∧ CS S1 X L (nb X L lo hi σ) ∧ offX S S1 := by
  have hn := tkN_le hb
  have h' := h
  obtain ⟨h1, h2, h3, _⟩ := h
  have i1 : inR (Int32.ofNat (cAt X L σ)) 1201 := ofN_inR (by omega) (by omega)
  have i2 := ofN_cl (i := cAt X L σ) (by omega)
  have a8 : ms_A S 8 (cAt X L σ) = Int32.ofNat (sTy X L σ) := by rw [(h1.2 _ h3).1, ← cAt_ty hb h3]; rfl
  have a10 := (h1.2 _ h3).2.2
  have htb := sTy_bd hb h3
  unfold f104 nb
  simp only [mE, mF, h2, i1, i2, a8]
  by_cases e : sTy X L σ = 3
  · have ht : isT X L 3 σ = true := decide_eq_true e
    rw [if_pos (show Int32.ofNat (sTy X L σ) = 3 by rw [e]; rfl), if_pos ht]
    cases σ with
    | inl e' => exact absurd e (by show ¬ ((0 : Nat) = 3); decide)
    | inr j =>
      have ev : Int64.toInt32 (ms_L S 10 j) = nuV X L (.inr j) := by
        rw [show ms_L S 10 j = Int32.toInt64 (tNu (tkJ X L j)) from a10.1 e, i64i32]; rfl
      have ev : Int64.toInt32 (ms_L S 10 (cAt X L (.inr j))) = nuV X L (.inr j) := ev
      rw [ev]
      have bad : ∃ v S1, (mb (f101 N 4) fun _ => mret (nuV X L (.inr j))) S = some (v, S1) ∧ (isT X L 3 (.inr j) = true → v = nuV X L (.inr j)) ∧ CS S1 X L (rf X L 4 (.inr j)) ∧ offX S S1 := by
        obtain ⟨S2, e2, c2, o2⟩ := q101 (N := N) (c := 4) hb (by omega) h'
        have e2 : f101 N 4 S = _ := e2
        exact ⟨_, S2, by simp only [mb, e2]; rfl, fun _ => rfl, c2, o2⟩
      by_cases hlo : nuV X L (.inr j) < lo
      · rw [if_pos hlo, if_neg (fun q => Int32.not_lt.mpr q.1 hlo)]
        exact bad
      · rw [if_neg hlo]
        by_cases hhi : nuV X L (.inr j) ≤ hi
        · rw [if_pos hhi, if_pos ⟨Int32.not_lt.mp hlo, hhi⟩]
          obtain ⟨S1, e1, c1, o1⟩ := q100 (N := N) hb h' (by have e : tTy (tkJ X L j) = 3 := e; omega)
          exact ⟨_, S1, by simp only [mb, e1]; rfl, fun _ => rfl, c1, o1⟩
        · rw [if_neg hhi, if_neg (fun q => hhi q.2)]
          exact bad
  · have ht : ¬ isT X L 3 σ = true := fun q => e (of_decide_eq_true q)
    have hne : ¬ Int32.ofNat (sTy X L σ) = 3 := fun q => e ((ofN_eq (j := 3) (by omega) (by omega)).1 q)
    rw [if_neg hne, if_neg ht]
    obtain ⟨S2, e2, c2, o2⟩ := q101 (N := N) (c := 2) hb (by omega) h'
    have e2 : f101 N 2 S = _ := e2
    exact ⟨_, S2, by simp only [mb, e2]; rfl, fun q => absurd q ht, c2, o2⟩
end OPS
