/-! how many nots a text has -/
def cntN : List Tk → Nat
  | [] => 0
  | t :: l => (if tTy t = 113 then 1 else 0) + cntN l
section NTS
variable {X : Nat → Int32} {L : Nat}
theorem not_en {a : Nat} (hb : TxB X L) (ha : a < L) (h : tTy (tokA X L a) = 113) : isLt (X a) = true ∧ tEn (tokA X L a) = a + 3 ∧ rnE isLt X L a = a + 3 := by
  have hl : isLt (X a) = true := by
    cases hq : isLt (X a) with
    | true => rfl
    | false =>
      exfalso
      unfold tokA at h
      rw [if_neg (by rw [hq]; decide)] at h
      by_cases hd : isDg (X a) = true
      · rw [if_pos hd] at h
        have h : (if 4 < rnE isDg X L a - a ∨ (rnE isDg X L a < L ∧ isLt (X (rnE isDg X L a)) = true) then 1 else 3) = 113 := h
        split at h <;> omega
      · rw [if_neg hd] at h
        have h : (if isSg (X a) = true then (X a).toNatClampNeg else 1) = 113 := h
        split at h
        · rename_i hs
          rcases of_decide_eq_true hs with q | q | q | q | q | q | q | q | q <;> rw [q] at h <;> exact absurd h (by decide)
        · omega
  have et : tokA X L a = (if 8 < rnE isLt X L a - a then 1 else wF (pk5 (subL X a (rnE isLt X L a - a))), a, rnE isLt X L a, subL X a (rnE isLt X L a - a), 0) := by unfold tokA; rw [if_pos hl]
  have hgt := rnE_gt (P := isLt) (X := X) ha hl
  rw [et] at h ⊢
  have h : (if 8 < rnE isLt X L a - a then 1 else wF (pk5 (subL X a (rnE isLt X L a - a)))) = 113 := h
  by_cases h8 : 8 < rnE isLt X L a - a
  · rw [if_pos h8] at h; omega
  · rw [if_neg h8] at h
    have hw := lets_sub (X := X) (L := L) (a := a) rfl (show rnE isLt X L a - a ≤ 8 by omega)
    have w13 := WI_e (i := 13) (by omega)
    have e1 := (word8 hw (i := 13) (by omega)).1 h
    rw [w13.2.1] at e1
    have e2 := (pk_inj hw w13.2.2).2.1 e1
    have e3 : (subL X a (rnE isLt X L a - a)).length = (WI 13).length := by rw [e2]
    rw [subL_len] at e3
    have e3 : rnE isLt X L a - a = 3 := e3
    have : rnE isLt X L a = a + 3 := by omega
    exact ⟨hl, this, this⟩
theorem nots_bd (hb : TxB X L) : ∀ n i, L - i < n → i ≤ L → 4 * cntN (tkL X L n i) ≤ L - i + 1 ∧ ((i ≥ L ∨ isLt (X i) = false) → 4 * cntN (tkL X L n i) ≤ L - i) := by
  intro n
  induction n with
  | zero => intro i h; omega
  | succ n ih =>
    intro i hn hi
    have hge := rnE_ge (P := isSp) (X := X) (L := L) (i := i)
    by_cases hr : rnE isSp X L i < L
    · have A0 : ∃ a, a = rnE isSp X L i := ⟨_, rfl⟩
      obtain ⟨a, ha⟩ := A0
      obtain ⟨e1, e2, e3⟩ := tokA_en (X := X) hr
      rw [← ha] at hr hge e1 e2 e3
      by_cases h1 : tTy (tokA X L a) = 1
      · have e : tkL X L (n + 1) i = [tokA X L a, tEnd L] := by unfold tkL; rw [← ha, if_pos hr, if_pos h1]
        have e0 : cntN (tkL X L (n + 1) i) = 0 := by
          rw [e]
          unfold cntN cntN cntN
          rw [if_neg (by omega), if_neg (by show ¬ (0 : Nat) = 113; decide)]
        rw [e0]
        exact ⟨by omega, fun _ => by omega⟩
      · have e : tkL X L (n + 1) i = tokA X L a :: tkL X L n (tEn (tokA X L a)) := by
          show (if rnE isSp X L i < L then _ else _) = _
          rw [← ha, if_pos hr, if_neg h1]
        obtain ⟨b1, b2⟩ := ih (tEn (tokA X L a)) (by omega) e2
        rw [e, show cntN (tokA X L a :: tkL X L n (tEn (tokA X L a))) = (if tTy (tokA X L a) = 113 then 1 else 0) + cntN (tkL X L n (tEn (tokA X L a))) from rfl]
        by_cases h13 : tTy (tokA X L a) = 113
        · obtain ⟨n1, n2, n3⟩ := not_en hb hr h13
          rw [if_pos h13]
          have hno : tEn (tokA X L a) ≥ L ∨ isLt (X (tEn (tokA X L a))) = false := by
            rcases Nat.lt_or_ge (tEn (tokA X L a)) L with q | q
            · right
              have := rnE_st (P := isLt) (X := X) (L := L) (i := a) (by omega)
              rw [n3] at this
              rw [n2]; exact this
            · exact Or.inl q
          have b3 := b2 hno
          refine ⟨by omega, fun hq => ?_⟩
          have hia : i < a := by
            rcases Nat.lt_or_ge i a with q | q
            · exact q
            · exfalso
              have : i = a := by omega
              subst this
              rcases hq with hq | hq
              · omega
              · rw [n1] at hq; cases hq
          omega
        · rw [if_neg h13]
          have hB : 4 * cntN (tkL X L n (tEn (tokA X L a))) ≤ L - a := by
            by_cases hl : isLt (X a) = true
            · have et : tEn (tokA X L a) = rnE isLt X L a := by unfold tokA; rw [if_pos hl]; rfl
              have := b2 (by
                rcases Nat.lt_or_ge (tEn (tokA X L a)) L with q | q
                · right; rw [et] at q ⊢; exact rnE_st q
                · exact Or.inl q)
              omega
            · have := b1
              by_cases hd : isDg (X a) = true
              · omega
              · omega
          exact ⟨by omega, fun _ => by omega⟩
    · have e : tkL X L (n + 1) i = [tEnd L] := by
        show (if rnE isSp X L i < L then _ else _) = _
        rw [if_neg hr]
      have e0 : cntN (tkL X L (n + 1) i) = 0 := by rw [e]; rfl
      rw [e0]
      exact ⟨by omega, fun _ => by omega⟩
theorem cntN_app : ∀ a b : List Tk, cntN (a ++ b) = cntN a + cntN b := by
  intro a
  induction a with
  | nil => intro b; simp [cntN]
  | cons t a ih => intro b; show (if tTy t = 113 then 1 else 0) + cntN (a ++ b) = ((if tTy t = 113 then 1 else 0) + cntN a) + cntN b; rw [ih]; omega
theorem ntk_take : ∀ j, j ≤ tkN X L → ntk X L j = cntN ((tkA X L).take j) := by
  intro j
  induction j with
  | zero => intro _; rfl
  | succ j ih =>
    intro hj
    have hj : j < (tkA X L).length := hj
    rw [List.take_succ_eq_append_getElem hj, cntN_app, ← ih (by unfold tkN; omega)]
    have e : tkJ X L j = (tkA X L)[j] := by
      unfold tkJ
      rw [List.getD_eq_getElem?_getD, List.getElem?_eq_getElem hj]
      rfl
    show ntk X L j + (if tTy (tkJ X L j) = 113 then 1 else 0) = ntk X L j + ((if tTy (tkA X L)[j] = 113 then 1 else 0) + 0)
    rw [e]
    omega
theorem ntk_bd (hb : TxB X L) {j : Nat} (hj : j ≤ tkN X L) : ntk X L j ≤ 300 := by
  have h1 := (nots_bd hb (L + 1) 0 (by omega) (by omega)).1
  have h2 := hb.1
  have h3 := ntk_le (X := X) (L := L) hj
  have h4 := ntk_take (X := X) (L := L) (tkN X L) (Nat.le_refl _)
  have h5 : (tkA X L).take (tkN X L) = tkA X L := List.take_of_length_le (Nat.le_refl _)
  rw [h5] at h4
  have h1 : 4 * cntN (tkA X L) ≤ L - 0 + 1 := h1
  omega
end NTS
