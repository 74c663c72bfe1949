/-! what holds of the reference's machine between steps -/
def dpE : List Ek → Nat
  | [] => 0
  | e :: s => (if e.1 = 3 ∨ e.1 = 7 then 1 else 0) + dpE s
def WFs : List Ek → Prop
  | [] => True
  | e :: s => (s = [] → e.1 = 8) ∧ (s ≠ [] → e.1 = 3 ∨ e.1 = 7 ∨ ((1 ≤ e.1 ∧ e.1 ≤ 6) ∧ (tpE s < e.1 ∨ 7 ≤ tpE s))) ∧ WFs s
theorem wfs_len : ∀ st, WFs st → st.length ≤ 1 + 7 * dpE st + (if tpE st ≤ 6 then tpE st else 0) := by
  intro st
  induction st with
  | nil => intro _; exact Nat.zero_le _
  | cons e s ih =>
    intro ⟨h1, h2, h3⟩
    have i1 := ih h3
    show s.length + 1 ≤ 1 + 7 * ((if e.1 = 3 ∨ e.1 = 7 then 1 else 0) + dpE s) + (if e.1 ≤ 6 then e.1 else 0)
    by_cases hs : s = []
    · rw [hs]; show 0 + 1 ≤ _; omega
    · rcases h2 hs with z | z | ⟨z1, z2⟩
      · rw [if_pos (Or.inl z), if_pos (by omega)]
        split at i1 <;> omega
      · rw [if_pos (Or.inr z), if_neg (by omega)]
        split at i1 <;> omega
      · rw [if_pos z1.2]
        split at i1
        · split <;> omega
        · split <;> omega
theorem wfs_60 {st : List Ek} (h : WFs st) (hd : dpE st ≤ 7) : st.length ≤ 56 := by
  have := wfs_len st h
  split at this <;> omega
theorem redu_inv {r : Nat} : ∀ (st : List Ek) (c : Cd) (d : Nat), WFs st → d = dpE st → st ≠ [] → WFs (redu r st c d).1 ∧ (redu r st c d).1 ≠ [] ∧ (redu r st c d).2.1.length + (redu r st c d).1.length = c.length + st.length ∧ (redu r st c d).2.2 = dpE (redu r st c d).1 ∧ (7 ≤ tpE (redu r st c d).1 ∨ tpE (redu r st c d).1 < r) ∧ (redu r st c d).2.2 ≤ d := by
  intro st
  induction st with
  | nil => intro c d _ _ h; exact absurd rfl h
  | cons e s ih =>
    intro c d ⟨h1, h2, h3⟩ hd hne
    by_cases hc : e.1 ≤ 6 ∧ r ≤ e.1
    · have er : redu r (e :: s) c d = redu r s (c ++ [(e.2, 0)]) (if e.1 = 3 then d - 1 else d) := by
        show (if e.1 ≤ 6 ∧ r ≤ e.1 then redu r s (c ++ [(e.2, 0)]) (if e.1 = 3 then d - 1 else d) else (e :: s, c, d)) = _
        rw [if_pos hc]
      have hs : s ≠ [] := fun z => by have := h1 z; omega
      have hd : d = (if e.1 = 3 ∨ e.1 = 7 then 1 else 0) + dpE s := hd
      have hd2 : (if e.1 = 3 then d - 1 else d) = dpE s := by
        by_cases h : e.1 = 3
        · rw [if_pos (Or.inl h)] at hd; rw [if_pos h]; omega
        · rw [if_neg (by omega)] at hd; rw [if_neg h]; omega
      obtain ⟨a1, a2, a3, a4, a5, a6⟩ := ih (c ++ [(e.2, 0)]) _ h3 hd2 hs
      rw [er]
      refine ⟨a1, a2, ?_, a4, a5, ?_⟩
      · rw [a3, List.length_append]
        show c.length + 1 + s.length = c.length + (s.length + 1)
        omega
      · have : (if e.1 = 3 then d - 1 else d) ≤ d := by split <;> omega
        omega
    · have er : redu r (e :: s) c d = (e :: s, c, d) := by
        show (if e.1 ≤ 6 ∧ r ≤ e.1 then redu r s (c ++ [(e.2, 0)]) (if e.1 = 3 then d - 1 else d) else (e :: s, c, d)) = _
        rw [if_neg hc]
      rw [er]
      refine ⟨⟨h1, h2, h3⟩, hne, rfl, hd, ?_, Nat.le_refl _⟩
      show 7 ≤ e.1 ∨ e.1 < r
      omega
def IvM (X : Nat → Int32) (L c0 : Nat) (m : Mx) : Prop := WFs m.2.1 ∧ m.2.2.2 = dpE m.2.1 ∧ m.2.2.2 ≤ 7 ∧ m.2.2.1.2.2 ≤ 100 ∧ (gd m.2.2.1.1 = true → idx m.2.2.1.1 < tkN X L ∧ c0 + m.2.2.1.2.1.length + m.2.1.length ≤ idx m.2.2.1.1 + 1)
section MIN
variable {X : Nat → Int32} {L : Nat} {kl : Bool} {kn ln : List (List Int32)} {c0 : Nat}
theorem lf_len {q : Px} : (pLf X L kn ln q).2.1.length = q.2.1.length + 1 ∧ (pLf X L kn ln q).2.2 = q.2.2 + 1 := by
  unfold pLf
  split
  · exact ⟨by show (q.2.1 ++ [_]).length = _; rw [List.length_append]; rfl, rfl⟩
  · split
    · exact ⟨by show (q.2.1 ++ [_]).length = _; rw [List.length_append]; rfl, rfl⟩
    · exact ⟨by show (q.2.1 ++ [_]).length = _; rw [List.length_append]; rfl, rfl⟩
theorem lf_idx {q : Px} (hb : TxB X L) (hin : InT X L q.1) (h0 : sTy X L q.1 ≠ 0) (hg : gd (pLf X L kn ln q).1 = true) : idx q.1 < idx (pLf X L kn ln q).1 ∧ idx (pLf X L kn ln q).1 < tkN X L := by
  have knx : ∀ nl : List (List Int32), gd (knN X L nl (nx q.1)) = true → idx q.1 < idx (knN X L nl (nx q.1)) ∧ idx (knN X L nl (nx q.1)) < tkN X L := fun nl h => by
    obtain ⟨h1, _, _, h3⟩ := gd_kn h
    have h0' : gd q.1 = true := by rw [← gd_nx]; exact h1
    exact ⟨by rw [h3, idx_nx h1, idx_nx h0']; omega, inT_kn hb (inT_nx hb hin h0) h⟩
  unfold pLf at *
  split
  · rename_i hc; rw [if_pos hc] at hg; exact knx kn hg
  · rename_i hc
    rw [if_neg hc] at hg
    split
    · rename_i hc2; rw [if_pos hc2] at hg; exact knx ln hg
    · rename_i hc2
      rw [if_neg hc2] at hg
      have hg : gd (nx q.1) = true := hg
      have h0' : gd q.1 = true := by rw [← gd_nx]; exact hg
      exact ⟨by show idx q.1 < idx (nx q.1); rw [idx_nx h0']; omega, inT_nx hb hin h0 hg⟩
theorem iv_U {st : List Ek} {q : Px} {d : Nat} (hb : TxB X L) (h : IvM X L c0 (true, st, q, d)) (hg : gd q.1 = true) (hs : st ≠ []) (hg2 : gd (mU X L kl kn ln st q d).2.2.1.1 = true) : IvM X L c0 (mU X L kl kn ln st q d) := by
  obtain ⟨w1, w2, w3, w4, w5⟩ := h
  have w2 : d = dpE st := w2
  have w3 : d ≤ 7 := w3
  have w4 : q.2.2 ≤ 100 := w4
  obtain ⟨w5, w6⟩ := w5 hg
  have w5 : idx q.1 < tkN X L := w5
  have w6 : c0 + q.2.1.length + st.length ≤ idx q.1 + 1 := w6
  have hin : InT X L q.1 := fun _ => w5
  unfold mU at *
  by_cases h1 : (¬ ((tpE st ≤ 3 ∨ 7 ≤ tpE st) ∧ sTy X L q.1 = 113) ∧ (bgU (sTy X L q.1) = false ∨ 100 ≤ q.2.2)) ∨ ((((tpE st ≤ 3 ∨ 7 ≤ tpE st) ∧ sTy X L q.1 = 113) ∨ sTy X L q.1 = 40) ∧ 7 ≤ d)
  · rw [if_pos h1] at hg2; rw [show gd (rf X L 2 q.1) = false from gd_rf] at hg2; cases hg2
  · rw [if_neg h1] at hg2 ⊢
    by_cases h2 : kl = true ∧ 108 ≤ sTy X L q.1 ∧ sTy X L q.1 ≤ 110
    · rw [if_pos h2] at hg2; rw [show gd (rf X L 6 q.1) = false from gd_rf] at hg2; cases hg2
    · rw [if_neg h2] at hg2 ⊢
      by_cases h3 : (tpE st ≤ 3 ∨ 7 ≤ tpE st) ∧ sTy X L q.1 = 113
      · rw [if_pos h3]
        have hd : ¬ 7 ≤ d := fun z => h1 (Or.inr ⟨Or.inl h3, z⟩)
        refine ⟨⟨fun z => absurd z hs, fun _ => Or.inl rfl, w1⟩, ?_, by show d + 1 ≤ 7; omega, w4, fun hg3 => ⟨inT_nx hb hin (by omega) hg3, ?_⟩⟩
        · show d + 1 = 1 + dpE st
          omega
        · show c0 + q.2.1.length + (st.length + 1) ≤ idx (nx q.1) + 1
          rw [idx_nx hg]; omega
      · rw [if_neg h3] at hg2 ⊢
        have hu : ¬ (bgU (sTy X L q.1) = false ∨ 100 ≤ q.2.2) := fun z => h1 (Or.inl ⟨h3, z⟩)
        by_cases h4 : sTy X L q.1 = 40
        · rw [if_pos h4]
          have hd : ¬ 7 ≤ d := fun z => h1 (Or.inr ⟨Or.inr h4, z⟩)
          refine ⟨⟨fun z => absurd z hs, fun _ => Or.inr (Or.inl rfl), w1⟩, ?_, by show d + 1 ≤ 7; omega, by show q.2.2 + 1 ≤ 100; omega, fun hg3 => ⟨inT_nx hb hin (by omega) hg3, ?_⟩⟩
          · show d + 1 = 1 + dpE st
            omega
          · show c0 + q.2.1.length + (st.length + 1) ≤ idx (nx q.1) + 1
            rw [idx_nx hg]; omega
        · rw [if_neg h4] at hg2 ⊢
          have h0 : sTy X L q.1 ≠ 0 := fun z => hu (Or.inl (by rw [z]; rfl))
          obtain ⟨l1, l2⟩ := lf_len (X := X) (L := L) (kn := kn) (ln := ln) (q := q)
          obtain ⟨i1, i2⟩ := lf_idx (kn := kn) (ln := ln) hb hin h0 hg2
          refine ⟨w1, w2, w3, ?_, fun _ => ⟨i2, ?_⟩⟩
          · show (pLf X L kn ln q).2.2 ≤ 100
            omega
          · show c0 + (pLf X L kn ln q).2.1.length + st.length ≤ idx (pLf X L kn ln q).1 + 1
            omega
theorem wfs_78 {e : Ek} {s : List Ek} (h : WFs (e :: s)) (h7 : 7 ≤ e.1) : (e.1 = 7 ∧ s ≠ []) ∨ (e.1 = 8 ∧ s = []) := by
  obtain ⟨h1, h2, _⟩ := h
  by_cases hs : s = []
  · exact Or.inr ⟨h1 hs, hs⟩
  · rcases h2 hs with z | z | z
    · omega
    · exact Or.inl ⟨z, hs⟩
    · omega
theorem iv_B {st : List Ek} {q : Px} {d : Nat} (hb : TxB X L) (h : IvM X L c0 (false, st, q, d)) (hg : gd q.1 = true) (hs : st ≠ []) (hg2 : gd (mB X L st q d).2.2.1.1 = true) : IvM X L c0 (mB X L st q d) := by
  obtain ⟨w1, w2, w3, w4, w5⟩ := h
  have w2 : d = dpE st := w2
  have w3 : d ≤ 7 := w3
  have w4 : q.2.2 ≤ 100 := w4
  obtain ⟨w5, w6⟩ := w5 hg
  have w5 : idx q.1 < tkN X L := w5
  have w6 : c0 + q.2.1.length + st.length ≤ idx q.1 + 1 := w6
  have hin : InT X L q.1 := fun _ => w5
  unfold mB at *
  by_cases h1 : rkT (sTy X L q.1) = 4 ∧ cmpd st = true
  · rw [if_pos h1] at hg2; rw [show gd (rf X L 2 q.1) = false from gd_rf] at hg2; cases hg2
  · rw [if_neg h1] at hg2 ⊢
    obtain ⟨a1, a2, a3, a4, a5, a6⟩ := redu_inv (r := rkT (sTy X L q.1)) st q.2.1 d w1 w2 hs
    have hv := rk_vals (ty := sTy X L q.1)
    by_cases h2 : 0 < rkT (sTy X L q.1)
    · rw [if_pos h2] at hg2 ⊢
      have h0 : sTy X L q.1 ≠ 0 := fun z => by rw [z] at h2; exact absurd h2 (by decide)
      refine ⟨⟨fun z => absurd z a2, fun _ => Or.inr (Or.inr ⟨by show 1 ≤ rkT _ ∧ rkT _ ≤ 6; omega, a5.symm⟩), a1⟩, ?_, ?_, w4, fun hg3 => ⟨inT_nx hb hin h0 hg3, ?_⟩⟩
      · show (redu (rkT (sTy X L q.1)) st q.2.1 d).2.2 = (if rkT (sTy X L q.1) = 3 ∨ rkT (sTy X L q.1) = 7 then 1 else 0) + dpE (redu (rkT (sTy X L q.1)) st q.2.1 d).1
        rw [if_neg (by omega), a4]; omega
      · show (redu (rkT (sTy X L q.1)) st q.2.1 d).2.2 ≤ 7
        omega
      · show c0 + (redu (rkT (sTy X L q.1)) st q.2.1 d).2.1.length + ((redu (rkT (sTy X L q.1)) st q.2.1 d).1.length + 1) ≤ idx (nx q.1) + 1
        rw [idx_nx hg]; omega
    · rw [if_neg h2] at hg2 ⊢
      have er : rkT (sTy X L q.1) = 0 := by omega
      rw [er] at a1 a2 a3 a4 a5 a6
      generalize redu 0 st q.2.1 d = w at *
      obtain ⟨ws, wc, wd⟩ := w
      cases ws with
      | nil => exact absurd rfl a2
      | cons e s =>
        have a5 : 7 ≤ e.1 := by rcases a5 with z | z; exact z; exact absurd z (Nat.not_lt_zero _)
        have a3 : wc.length + (s.length + 1) = q.2.1.length + st.length := a3
        have a4 : wd = (if e.1 = 3 ∨ e.1 = 7 then 1 else 0) + dpE s := a4
        have a6 : wd ≤ d := a6
        show IvM X L c0 (if e.1 = 7 then (false, s, (dm X L 41 q.1, wc, q.2.2), wd - 1) else (false, s, (q.1, wc, q.2.2), wd))
        have hg2 : gd (if e.1 = 7 then ((false, s, (dm X L 41 q.1, wc, q.2.2), wd - 1) : Mx) else (false, s, (q.1, wc, q.2.2), wd)).2.2.1.1 = true := hg2
        by_cases h7 : e.1 = 7
        · rw [if_pos h7] at hg2 ⊢
          rw [if_pos (Or.inr h7)] at a4
          have hg2 : gd (dm X L 41 q.1) = true := hg2
          refine ⟨a1.2.2, by show wd - 1 = dpE s; omega, by show wd - 1 ≤ 7; omega, w4, fun hg3 => ⟨inT_dm hb hin (by decide) hg3, ?_⟩⟩
          show c0 + wc.length + s.length ≤ idx (dm X L 41 q.1) + 1
          have := idx_dm hg2
          omega
        · rw [if_neg h7] at hg2 ⊢
          rw [if_neg (by omega)] at a4
          refine ⟨a1.2.2, by show wd = dpE s; omega, by show wd ≤ 7; omega, w4, fun _ => ⟨w5, ?_⟩⟩
          show c0 + wc.length + s.length ≤ idx q.1 + 1
          omega
theorem iv_S {m : Mx} (hb : TxB X L) (h : IvM X L c0 m) (hg2 : gd (mS X L kl kn ln m).2.2.1.1 = true) : IvM X L c0 (mS X L kl kn ln m) := by
  by_cases hc : gd m.2.2.1.1 = false ∨ m.2.1 = []
  · have e : mS X L kl kn ln m = m := if_pos hc
    rw [e]; exact h
  · have hg : gd m.2.2.1.1 = true := by
      cases hq : gd m.2.2.1.1 with
      | true => rfl
      | false => exact absurd (Or.inl hq) hc
    have hs : m.2.1 ≠ [] := fun z => hc (Or.inr z)
    obtain ⟨w, st, q, d⟩ := m
    cases w with
    | true => rw [mS_u hg hs] at hg2 ⊢; exact iv_U hb h hg hs hg2
    | false => rw [mS_b hg hs] at hg2 ⊢; exact iv_B hb h hg hs hg2
theorem mR_stop {m : Mx} (h : gd m.2.2.1.1 = false ∨ m.2.1 = []) : ∀ t, mR X L kl kn ln t m = m := by
  have e : mS X L kl kn ln m = m := if_pos h
  intro t
  induction t with
  | zero => rfl
  | succ t ih => show mR X L kl kn ln t (mS X L kl kn ln m) = m; rw [e]; exact ih
theorem pE_bad : ∀ n lv ar (q : Px), gd q.1 = false → (pE X L kl kn ln n lv ar q).1 = q.1 := by
  intro n
  induction n with
  | zero => intro lv ar q _; rfl
  | succ n ih =>
    intro lv ar q hg
    have h0 : ∀ σ : Sg, gd σ = false → sTy X L σ = 0 ∧ rf X L 2 σ = σ := fun σ h => by cases σ with | inl e => exact ⟨rfl, rfl⟩ | inr j => cases h
    obtain ⟨z1, z2⟩ := h0 _ hg
    by_cases hlv : 5 ≤ lv
    · have e : pE X L kl kn ln (n + 1) lv ar q = pU X L kl kn ln (pE X L kl kn ln n) ar q := if_pos hlv
      rw [e]
      unfold pU
      rw [if_pos (Or.inl (by rw [z1]; rfl))]
      exact z2
    · have e : pE X L kl kn ln (n + 1) lv ar q = pLp X L (pE X L kl kn ln n) lv ar 1200 (pE X L kl kn ln n (lv + 1) ar q) := by
        show (if 5 ≤ lv then _ else if lv = 2 ∧ sTy X L q.1 = 113 then _ else _) = _
        rw [if_neg hlv, if_neg (fun z => by rw [z1] at z; omega)]
      rw [e]
      have i1 := ih (lv + 1) ar q hg
      have hg2 : gd (pE X L kl kn ln n (lv + 1) ar q).1 = false := by rw [i1]; exact hg
      rw [lp_bad (by omega) hg2]
      exact i1
end MIN
