/-! a convention's expressions, as they are read -/
/-- where reading is, codes so far, units so far -/
abbrev Px : Type := Sg × List (Nat × Int32) × Nat
def lvT (ty : Nat) : Nat := if ty = 114 then 0 else if ty = 115 then 1 else if ty = 60 ∨ ty = 61 ∨ ty = 62 then 2 else if ty = 43 ∨ ty = 45 then 3 else if ty = 42 then 4 else 9
def bgU (ty : Nat) : Bool := decide (ty = 3 ∨ ty = 40 ∨ (100 ≤ ty ∧ ty ≤ 112))
section EXM
variable (X : Nat → Int32) (L : Nat) (kl : Bool) (kn ln : List (List Int32))
def pLf (q : Px) : Px := if sTy X L q.1 = 111 then (knN X L kn (nx q.1), q.2.1 ++ [(111, optI (ixN kn (nmV X L (nx q.1))))], q.2.2 + 1)
  else if sTy X L q.1 = 112 then (knN X L ln (nx q.1), q.2.1 ++ [(112, optI (ixN ln (nmV X L (nx q.1))))], q.2.2 + 1)
  else (nx q.1, q.2.1 ++ [(sTy X L q.1, if sTy X L q.1 = 3 then nuV X L q.1 else 0)], q.2.2 + 1)
def pU (R : Nat → Nat → Px → Px) (ar : Nat) (q : Px) : Px := if bgU (sTy X L q.1) = false ∨ (sTy X L q.1 = 40 ∧ 7 ≤ ar) ∨ 100 ≤ q.2.2 then (rf X L 2 q.1, q.2)
  else if kl = true ∧ 108 ≤ sTy X L q.1 ∧ sTy X L q.1 ≤ 110 then (rf X L 6 q.1, q.2)
  else if sTy X L q.1 = 40 then (dm X L 41 (R 0 (ar + 1) (nx q.1, q.2.1, q.2.2 + 1)).1, (R 0 (ar + 1) (nx q.1, q.2.1, q.2.2 + 1)).2)
  else pLf X L kn ln q
def pOp (R : Nat → Nat → Px → Px) (lv ar : Nat) (q : Px) : Px := ((R (lv + 1) ar (nx q.1, q.2)).1, (R (lv + 1) ar (nx q.1, q.2)).2.1 ++ [(sTy X L q.1, 0)], (R (lv + 1) ar (nx q.1, q.2)).2.2)
def pLp (R : Nat → Nat → Px → Px) (lv ar : Nat) : Nat → Px → Px
  | 0, q => q
  | f + 1, q => if lvT (sTy X L q.1) = lv then (if lv = 2 then pOp X L R lv ar q else pLp R lv ar f (pOp X L R lv ar q)) else q
def pNt (R : Nat → Nat → Px → Px) (ar : Nat) (q : Px) : Px := if 7 ≤ ar then (rf X L 2 q.1, q.2) else ((R 2 (ar + 1) (nx q.1, q.2)).1, (R 2 (ar + 1) (nx q.1, q.2)).2.1 ++ [(113, 0)], (R 2 (ar + 1) (nx q.1, q.2)).2.2)
def pE : Nat → Nat → Nat → Px → Px
  | 0, _, _, q => q
  | n + 1, lv, ar, q => if 5 ≤ lv then pU X L kl kn ln (pE n) ar q else if lv = 2 ∧ sTy X L q.1 = 113 then pNt X L (pE n) ar q else pLp X L (pE n) lv ar 1200 (pE n (lv + 1) ar q)
end EXM
/-- enough depth -/
def nd (lv ar : Nat) : Nat := 6 * (8 - ar) - lv
/-- nots among the first tokens -/
def ntk (X : Nat → Int32) (L : Nat) : Nat → Nat
  | 0 => 0
  | j + 1 => ntk X L j + (if tTy (tkJ X L j) = 113 then 1 else 0)
section EXP
variable {X : Nat → Int32} {L : Nat} {kl : Bool} {kn ln : List (List Int32)}
theorem ntk_mono {i : Nat} : ∀ n, ntk X L i ≤ ntk X L (i + n) := by
  intro n
  induction n with
  | zero => exact Nat.le_refl _
  | succ n ih => exact Nat.le_trans ih (Nat.le_add_right (ntk X L (i + n)) (if tTy (tkJ X L (i + n)) = 113 then 1 else 0))
theorem ntk_le {i j : Nat} (h : i ≤ j) : ntk X L i ≤ ntk X L j := by
  have := ntk_mono (X := X) (L := L) (i := i) (j - i)
  rw [show i + (j - i) = j by omega] at this
  exact this
/-- s more than the codes have room -/
def Pot (X : Nat → Int32) (L s c0 : Nat) (q : Px) : Prop := c0 + q.2.1.length + s ≤ 2 * q.2.2 + ntk X L (idx q.1)
/-- codes that work: they add one to a pile that has room, their numbers are small, and in a kind line nothing is asked that a ship alone does not give -/
def WFm (kl : Bool) (kn : List (List Int32)) (lv ar : Nat) (m : List (Nat × Int32)) : Prop := (∀ n0, n0 + nd lv ar ≤ 64 → okL m n0 = some (n0 + 1)) ∧ ∀ c ∈ m, (0 ≤ c.2 ∧ c.2 ≤ 9999) ∧ (kl = true → c.1 < 108 ∨ 110 < c.1) ∧ (c.1 = 111 → c.2 < Int32.ofNat kn.length)
theorem okL_c {c : Nat × Int32} {l : List (Nat × Int32)} {n : Nat} : okL (c :: l) n = if isLeaf c.1 = true then (if n < 64 then okL l (n + 1) else none) else if c.1 = 113 then (if 0 < n then okL l n else none) else if isOp c.1 = true then (if 1 < n then okL l (n - 1) else none) else none := rfl
theorem okL_app : ∀ (a b : List (Nat × Int32)) (n : Nat), okL (a ++ b) n = (match okL a n with | none => none | some k => okL b k) := by
  intro a
  induction a with
  | nil => intro b n; rfl
  | cons c a ih =>
    intro b n
    rw [List.cons_append, okL_c, okL_c]
    by_cases h1 : isLeaf c.1 = true
    · rw [if_pos h1, if_pos h1]
      by_cases h2 : n < 64
      · rw [if_pos h2, if_pos h2]; exact ih b _
      · rw [if_neg h2, if_neg h2]
    · rw [if_neg h1, if_neg h1]
      by_cases h3 : c.1 = 113
      · rw [if_pos h3, if_pos h3]
        by_cases h4 : 0 < n
        · rw [if_pos h4, if_pos h4]; exact ih b _
        · rw [if_neg h4, if_neg h4]
      · rw [if_neg h3, if_neg h3]
        by_cases h5 : isOp c.1 = true
        · rw [if_pos h5, if_pos h5]
          by_cases h6 : 1 < n
          · rw [if_pos h6, if_pos h6]; exact ih b _
          · rw [if_neg h6, if_neg h6]
        · rw [if_neg h5, if_neg h5]
/-- a good state came from a good one, further on, with more room, few units, and codes that work -/
def Ok (X : Nat → Int32) (L : Nat) (kl : Bool) (kn : List (List Int32)) (lv ar : Nat) (q q' : Px) : Prop := gd q'.1 = true → gd q.1 = true ∧ idx q.1 < idx q'.1 ∧ idx q'.1 < tkN X L ∧ (q.2.2 ≤ 100 → q'.2.2 ≤ 100) ∧ (∃ m, q'.2.1 = q.2.1 ++ m ∧ WFm kl kn lv ar m) ∧ ∀ s c0, Pot X L s c0 q → Pot X L (s + 1) c0 q'
def InT (X : Nat → Int32) (L : Nat) (σ : Sg) : Prop := gd σ = true → idx σ < tkN X L
theorem gdI {σ : Sg} (h : gd σ = true) : ∃ j, σ = .inr j := by cases σ with | inl e => cases h | inr j => exact ⟨j, rfl⟩
theorem inT_nx {σ : Sg} (hb : TxB X L) (h : InT X L σ) (h0 : sTy X L σ ≠ 0) : InT X L (nx σ) := by
  intro hg
  rw [gd_nx] at hg
  obtain ⟨j, rfl⟩ := gdI hg
  exact (tkJ_nx hb (h rfl) h0).1
theorem inT_dm {σ : Sg} {ty : Nat} (hb : TxB X L) (h : InT X L σ) (h0 : ty ≠ 0) : InT X L (dm X L ty σ) := by
  intro hg
  obtain ⟨h1, h2, h3⟩ := gd_dm hg
  rw [h3] at hg ⊢
  exact inT_nx hb h (by have := of_decide_eq_true h2; omega) hg
theorem inT_kn {σ : Sg} {nl : List (List Int32)} (hb : TxB X L) (h : InT X L σ) : InT X L (knN X L nl σ) := by
  intro hg
  obtain ⟨h1, h2, _, h3⟩ := gd_kn hg
  rw [h3] at hg ⊢
  exact inT_nx hb h (by have := of_decide_eq_true h2; omega) hg
theorem nd_pos {lv ar : Nat} (h1 : lv ≤ 5) (h2 : ar ≤ 7) : 1 ≤ nd lv ar := by unfold nd; omega
/-- one leaf -/
theorem wf_leaf {lv ar : Nat} {c : Nat × Int32} (h1 : lv ≤ 5) (h2 : ar ≤ 7) (hl : isLeaf c.1 = true) (hc : (0 ≤ c.2 ∧ c.2 ≤ 9999) ∧ (kl = true → c.1 < 108 ∨ 110 < c.1) ∧ (c.1 = 111 → c.2 < Int32.ofNat kn.length)) : WFm kl kn lv ar [c] := by
  have := nd_pos h1 h2
  refine ⟨fun n0 hn => ?_, fun d hd => ?_⟩
  · unfold okL
    rw [if_pos hl, if_pos (by omega)]
    rfl
  · have : d = c := by simpa using hd
    rw [this]; exact hc
theorem ok_lf {q : Px} {lv ar : Nat} (hb : TxB X L) (h1 : lv ≤ 5) (h2 : ar ≤ 7) (hk6 : kn.length ≤ 6) (hl8 : ln.length ≤ 8) (hin : InT X L q.1) (hu : ¬ 100 ≤ q.2.2) (hbg : bgU (sTy X L q.1) = true) (h40 : sTy X L q.1 ≠ 40) (hkl : ¬ (kl = true ∧ 108 ≤ sTy X L q.1 ∧ sTy X L q.1 ≤ 110)) : Ok X L kl kn lv ar q (pLf X L kn ln q) := by
  intro hg
  have hbg := of_decide_eq_true hbg
  have h0 : sTy X L q.1 ≠ 0 := by omega
  have key : ∀ (σ' : Sg) (c : Nat × Int32), gd σ' = true → InT X L σ' → (gd q.1 = true ∧ idx q.1 < idx σ') → WFm kl kn lv ar [c] → gd q.1 = true ∧ idx q.1 < idx σ' ∧ idx σ' < tkN X L ∧ (q.2.2 ≤ 100 → q.2.2 + 1 ≤ 100) ∧ (∃ m, q.2.1 ++ [c] = q.2.1 ++ m ∧ WFm kl kn lv ar m) ∧ ∀ s c0, Pot X L s c0 q → Pot X L (s + 1) c0 (σ', q.2.1 ++ [c], q.2.2 + 1) := by
    intro σ' c hg' ht ⟨h1, h2⟩ hw
    refine ⟨h1, h2, ht hg', fun _ => by omega, ⟨[c], rfl, hw⟩, fun s c0 hp => ?_⟩
    unfold Pot at *
    have := ntk_le (X := X) (L := L) (Nat.le_of_lt h2)
    show c0 + (q.2.1 ++ [c]).length + (s + 1) ≤ 2 * (q.2.2 + 1) + ntk X L (idx σ')
    rw [List.length_append]
    show c0 + (q.2.1.length + 1) + (s + 1) ≤ _
    omega
  have knx : ∀ nl : List (List Int32), nl.length ≤ 8 → gd (knN X L nl (nx q.1)) = true → (gd q.1 = true ∧ idx q.1 < idx (knN X L nl (nx q.1))) ∧ ∃ i, ixN nl (nmV X L (nx q.1)) = some i ∧ i < nl.length := fun nl hnl h => by
    obtain ⟨h1, _, h4, h3⟩ := gd_kn h
    have h0 : gd q.1 = true := by rw [← gd_nx]; exact h1
    refine ⟨⟨h0, by rw [h3, idx_nx h1, idx_nx h0]; omega⟩, ?_⟩
    cases hx : ixN nl (nmV X L (nx q.1)) with
    | none => exact absurd hx h4
    | some i => exact ⟨i, rfl, by have := (fnd_some _ _ _ hx).2.1; omega⟩
  have small : ∀ i, i < 9 → (0 : Int32) ≤ Int32.ofNat i ∧ Int32.ofNat i ≤ 9999 := fun i hi => ⟨ofN_nn (by omega), (ofN_le (j := 9999) (by omega) (by omega)).2 (by omega)⟩
  unfold pLf at *
  by_cases hc : sTy X L q.1 = 111
  · rw [if_pos hc] at hg ⊢
    obtain ⟨hA, i, hi, hil⟩ := knx kn (by omega) hg
    refine key _ _ hg (inT_kn hb (inT_nx hb hin h0)) hA (wf_leaf h1 h2 rfl ⟨?_, fun _ => Or.inr (by show 110 < 111; omega), fun _ => ?_⟩)
    · show 0 ≤ optI _ ∧ optI _ ≤ 9999
      rw [hi]; exact small i (by omega)
    · show optI _ < _
      rw [hi]; exact (ofN_lt (by omega) (by omega)).2 hil
  · rw [if_neg hc] at hg ⊢
    by_cases hc2 : sTy X L q.1 = 112
    · rw [if_pos hc2] at hg ⊢
      obtain ⟨hA, i, hi, hil⟩ := knx ln (by omega) hg
      refine key _ _ hg (inT_kn hb (inT_nx hb hin h0)) hA (wf_leaf h1 h2 rfl ⟨?_, fun _ => Or.inr (by show 110 < 112; omega), fun q => absurd q (by show ¬ (112 : Nat) = 111; decide)⟩)
      show 0 ≤ optI _ ∧ optI _ ≤ 9999
      rw [hi]; exact small i (by omega)
    · rw [if_neg hc2] at hg ⊢
      have hgq : gd q.1 = true := by rw [← gd_nx]; exact hg
      refine key _ _ hg (inT_nx hb hin h0) ⟨hgq, by rw [idx_nx hgq]; omega⟩ (wf_leaf h1 h2 ?_ ⟨?_, fun hk => ?_, fun q => absurd q hc⟩)
      · show isLeaf (sTy X L q.1) = true
        unfold isLeaf
        rcases hbg with z | z | z
        · rw [z]; rfl
        · exact absurd z h40
        · rw [decide_eq_true z.1, decide_eq_true (show sTy X L q.1 ≤ 112 from z.2)]; simp
      · show 0 ≤ (if sTy X L q.1 = 3 then nuV X L q.1 else 0) ∧ (if sTy X L q.1 = 3 then nuV X L q.1 else 0) ≤ 9999
        by_cases h3 : sTy X L q.1 = 3
        · rw [if_pos h3]
          obtain ⟨j, hj⟩ := gdI hgq
          rw [hj] at h3 hin ⊢
          have h3 : tTy (tkJ X L j) = 3 := h3
          have hjl : j < tkN X L := hin rfl
          rcases tkJ_ok hb hjl with z | ⟨_, _, _, z⟩
          · omega
          · rcases z with z | ⟨z, _⟩ | ⟨_, z⟩ | ⟨z, _⟩
            · omega
            · omega
            · exact z
            · omega
        · rw [if_neg h3]; decide
      · show sTy X L q.1 < 108 ∨ 110 < sTy X L q.1
        have : ¬ (108 ≤ sTy X L q.1 ∧ sTy X L q.1 ≤ 110) := fun z => hkl ⟨hk, z⟩
        omega
/-- an operator behind its right side -/
theorem wf_op {lv ar : Nat} {m1 m2 : List (Nat × Int32)} {c : Nat × Int32} (hlv : lv < 5) (har : ar ≤ 7) (hop : isOp c.1 = true) (hc2 : c.2 = 0) (hnl : isLeaf c.1 = false) (h113 : c.1 ≠ 113) (w1 : WFm kl kn lv ar m1) (w2 : WFm kl kn (lv + 1) ar m2) : WFm kl kn lv ar (m1 ++ (m2 ++ [c])) := by
  obtain ⟨a1, a2⟩ := w1
  obtain ⟨b1, b2⟩ := w2
  have en : nd lv ar = nd (lv + 1) ar + 1 := by unfold nd; omega
  refine ⟨fun n0 hn => ?_, fun d hd => ?_⟩
  · rw [okL_app, a1 n0 hn]
    show okL (m2 ++ [c]) (n0 + 1) = _
    rw [okL_app, b1 (n0 + 1) (by omega)]
    show okL [c] (n0 + 1 + 1) = _
    unfold okL
    rw [if_neg (by rw [hnl]; decide), if_neg h113, if_pos hop, if_pos (by omega)]
    rfl
  · rcases List.mem_append.mp hd with h | h
    · exact a2 d h
    · rcases List.mem_append.mp h with h | h
      · exact b2 d h
      · have : d = c := by simpa using h
        rw [this, hc2]
        refine ⟨by decide, fun _ => ?_, fun q => ?_⟩
        · unfold isOp at hop
          simp at hop
          omega
        · unfold isOp at hop
          simp at hop
          omega
theorem lv_op {ty lv : Nat} (h : lvT ty = lv) (hl : lv < 5) : isOp ty = true ∧ isLeaf ty = false ∧ ty ≠ 113 ∧ ty ≠ 0 := by
  have : ty = 114 ∨ ty = 115 ∨ ty = 60 ∨ ty = 61 ∨ ty = 62 ∨ ty = 43 ∨ ty = 45 ∨ ty = 42 := by
    unfold lvT at h
    split at h
    · omega
    · split at h
      · omega
      · split at h
        · omega
        · split at h
          · omega
          · split at h
            · omega
            · omega
  rcases this with z | z | z | z | z | z | z | z <;> rw [z] <;> decide
theorem ok_op {R : Nat → Nat → Px → Px} {lv ar : Nat} {q q' : Px} (hb : TxB X L) (hlv : lv < 5) (har : ar ≤ 7) (hR : ∀ p, InT X L p.1 → Ok X L kl kn (lv + 1) ar p (R (lv + 1) ar p)) (hin : InT X L q'.1) (hop : lvT (sTy X L q'.1) = lv) (ho : Ok X L kl kn lv ar q q') : Ok X L kl kn lv ar q (pOp X L R lv ar q') := by
  intro hg
  obtain ⟨o1, o2, o3, o4⟩ := lv_op hop hlv
  have hR1 := hR (nx q'.1, q'.2) (inT_nx hb hin o4)
  obtain ⟨g1, g2, g3, g4, ⟨m2, e2, w2⟩, g6⟩ := hR1 hg
  have g1 : gd q'.1 = true := by rw [← gd_nx]; exact g1
  obtain ⟨k1, k2, k3, k4, ⟨m1, e1, w1⟩, k6⟩ := ho g1
  have i1 := idx_nx g1
  have g2 : idx (nx q'.1) < idx (R (lv + 1) ar (nx q'.1, q'.2)).1 := g2
  refine ⟨k1, ?_, g3, fun h => g4 (k4 h), ⟨m1 ++ (m2 ++ [(sTy X L q'.1, 0)]), ?_, wf_op hlv har o1 rfl o2 o3 w1 w2⟩, fun s c0 hp => ?_⟩
  · show idx q.1 < idx (R (lv + 1) ar (nx q'.1, q'.2)).1
    omega
  · show (R (lv + 1) ar (nx q'.1, q'.2)).2.1 ++ [(sTy X L q'.1, 0)] = _
    rw [e2]
    show q'.2.1 ++ m2 ++ _ = _
    rw [e1]
    simp
  · have p1 := k6 s c0 hp
    have p2 : Pot X L (s + 1) c0 (nx q'.1, q'.2) := by
      unfold Pot at *
      show c0 + q'.2.1.length + (s + 1) ≤ 2 * q'.2.2 + ntk X L (idx (nx q'.1))
      have := ntk_le (X := X) (L := L) (show idx q'.1 ≤ idx (nx q'.1) by omega)
      omega
    have p3 := g6 (s + 1) c0 p2
    unfold Pot at *
    show c0 + ((R (lv + 1) ar (nx q'.1, q'.2)).2.1 ++ [(sTy X L q'.1, 0)]).length + (s + 1) ≤ _
    rw [List.length_append]
    show c0 + ((R (lv + 1) ar (nx q'.1, q'.2)).2.1.length + 1) + (s + 1) ≤ 2 * (R (lv + 1) ar (nx q'.1, q'.2)).2.2 + ntk X L (idx (R (lv + 1) ar (nx q'.1, q'.2)).1)
    omega
theorem ok_lp {R : Nat → Nat → Px → Px} {lv ar : Nat} {q : Px} (hb : TxB X L) (hlv : lv < 5) (har : ar ≤ 7) (hR : ∀ p, InT X L p.1 → Ok X L kl kn (lv + 1) ar p (R (lv + 1) ar p)) : ∀ f q', Ok X L kl kn lv ar q q' → Ok X L kl kn lv ar q (pLp X L R lv ar f q') := by
  intro f
  induction f with
  | zero => intro q' h; exact h
  | succ f ih =>
    intro q' h
    unfold pLp
    have hin : InT X L q'.1 := fun hg => (h hg).2.2.1
    split
    · rename_i hl
      have := ok_op hb hlv har hR hin hl h
      split
      · exact this
      · exact ih _ this
    · exact h
theorem ok_wk {lv ar : Nat} {q q' : Px} (hlv : lv < 5) (har : ar ≤ 7) (h : Ok X L kl kn (lv + 1) ar q q') : Ok X L kl kn lv ar q q' := by
  intro hg
  obtain ⟨k1, k2, k3, k4, ⟨m1, e1, w1⟩, k6⟩ := h hg
  have en : nd lv ar = nd (lv + 1) ar + 1 := by unfold nd; omega
  exact ⟨k1, k2, k3, k4, ⟨m1, e1, fun n0 hn => w1.1 n0 (by omega), w1.2⟩, k6⟩
theorem ok_pE (hb : TxB X L) (hk6 : kn.length ≤ 6) (hl8 : ln.length ≤ 8) : ∀ n lv ar (q : Px), lv ≤ 5 → ar ≤ 7 → nd lv ar ≤ n → InT X L q.1 → Ok X L kl kn lv ar q (pE X L kl kn ln n lv ar q) := by
  intro n
  induction n with
  | zero => intro lv ar q h1 h2 h3; have := nd_pos h1 h2; omega
  | succ n ih =>
    intro lv ar q h1 h2 h3 hin
    unfold pE
    by_cases hlv : 5 ≤ lv
    · rw [if_pos hlv]
      have e5 : lv = 5 := by omega
      subst e5
      unfold pU
      split
      · intro hg; rw [show gd (rf X L 2 q.1) = false from gd_rf] at hg; cases hg
      · rename_i hc1
        split
        · intro hg; rw [show gd (rf X L 6 q.1) = false from gd_rf] at hg; cases hg
        · rename_i hc2
          have hbg : bgU (sTy X L q.1) = true := by
            cases h : bgU (sTy X L q.1) with
            | true => rfl
            | false => exact absurd (Or.inl h) hc1
          have hu : ¬ 100 ≤ q.2.2 := fun z => hc1 (Or.inr (Or.inr z))
          split
          · rename_i h40
            have har : ar < 7 := by
              rcases Nat.lt_or_ge ar 7 with z | z
              · exact z
              · exact absurd (Or.inr (Or.inl ⟨h40, z⟩)) hc1
            have hin2 : InT X L (nx q.1) := inT_nx hb hin (by omega)
            have hR := ih 0 (ar + 1) (nx q.1, q.2.1, q.2.2 + 1) (by omega) (by omega) (by unfold nd at *; omega) hin2
            intro hg
            have hg1 : gd (dm X L 41 (pE X L kl kn ln n 0 (ar + 1) (nx q.1, q.2.1, q.2.2 + 1)).1) = true := hg
            obtain ⟨d1, d2, d3⟩ := gd_dm hg1
            obtain ⟨g1, g2, g3, g4, ⟨m1, e1, w1⟩, g6⟩ := hR d1
            have g1 : gd q.1 = true := by rw [← gd_nx]; exact g1
            have i1 := idx_nx g1
            have i2 := idx_dm hg1
            have g2 : idx (nx q.1) < idx (pE X L kl kn ln n 0 (ar + 1) (nx q.1, q.2.1, q.2.2 + 1)).1 := g2
            refine ⟨g1, ?_, inT_dm hb (fun _ => g3) (by decide) hg1, fun _ => g4 (by show q.2.2 + 1 ≤ 100; omega), ⟨m1, e1, fun n0 hn => w1.1 n0 (by unfold nd at *; omega), w1.2⟩, fun s c0 hp => ?_⟩
            · show idx q.1 < idx (dm X L 41 (pE X L kl kn ln n 0 (ar + 1) (nx q.1, q.2.1, q.2.2 + 1)).1)
              omega
            · have p2 : Pot X L s c0 (nx q.1, q.2.1, q.2.2 + 1) := by
                unfold Pot at *
                show c0 + q.2.1.length + s ≤ 2 * (q.2.2 + 1) + ntk X L (idx (nx q.1))
                have := ntk_le (X := X) (L := L) (show idx q.1 ≤ idx (nx q.1) by omega)
                omega
              have p3 := g6 s c0 p2
              unfold Pot at *
              show c0 + (pE X L kl kn ln n 0 (ar + 1) (nx q.1, q.2.1, q.2.2 + 1)).2.1.length + (s + 1) ≤ 2 * (pE X L kl kn ln n 0 (ar + 1) (nx q.1, q.2.1, q.2.2 + 1)).2.2 + ntk X L (idx (dm X L 41 (pE X L kl kn ln n 0 (ar + 1) (nx q.1, q.2.1, q.2.2 + 1)).1))
              have := ntk_le (X := X) (L := L) (show idx (pE X L kl kn ln n 0 (ar + 1) (nx q.1, q.2.1, q.2.2 + 1)).1 ≤ idx (dm X L 41 (pE X L kl kn ln n 0 (ar + 1) (nx q.1, q.2.1, q.2.2 + 1)).1) by omega)
              omega
          · rename_i h40
            exact ok_lf hb (by omega) h2 hk6 hl8 hin hu hbg h40 hc2
    · rw [if_neg hlv]
      by_cases hnt : lv = 2 ∧ sTy X L q.1 = 113
      · rw [if_pos hnt]
        obtain ⟨e2, h113⟩ := hnt
        subst e2
        unfold pNt
        by_cases har : 7 ≤ ar
        · rw [if_pos har]
          intro hg; rw [show gd (rf X L 2 q.1) = false from gd_rf] at hg; cases hg
        · rw [if_neg har]
          have hin2 : InT X L (nx q.1) := inT_nx hb hin (by omega)
          have hR := ih 2 (ar + 1) (nx q.1, q.2) (by omega) (by omega) (by unfold nd at *; omega) hin2
          intro hg
          obtain ⟨g1, g2, g3, g4, ⟨m1, e1, w1⟩, g6⟩ := hR hg
          have g1 : gd q.1 = true := by rw [← gd_nx]; exact g1
          have i1 := idx_nx g1
          have g2 : idx (nx q.1) < idx (pE X L kl kn ln n 2 (ar + 1) (nx q.1, q.2)).1 := g2
          refine ⟨g1, ?_, g3, g4, ⟨m1 ++ [(113, 0)], ?_, fun n0 hn => ?_, fun d hd => ?_⟩, fun s c0 hp => ?_⟩
          · show idx q.1 < idx (pE X L kl kn ln n 2 (ar + 1) (nx q.1, q.2)).1
            omega
          · show (pE X L kl kn ln n 2 (ar + 1) (nx q.1, q.2)).2.1 ++ [(113, 0)] = _
            rw [e1]
            simp
          · rw [okL_app, w1.1 n0 (by unfold nd at *; omega)]
            show okL [(113, 0)] (n0 + 1) = _
            unfold okL
            rw [if_neg (by decide), if_pos rfl, if_pos (by omega)]
            rfl
          · rcases List.mem_append.mp hd with h | h
            · exact w1.2 d h
            · have : d = (113, 0) := by simpa using h
              rw [this]
              exact ⟨by decide, fun _ => Or.inr (by show 110 < 113; omega), fun z => absurd z (by show ¬ (113 : Nat) = 111; decide)⟩
          · have p2 : Pot X L (s + 1) c0 (nx q.1, q.2) := by
              unfold Pot at *
              show c0 + q.2.1.length + (s + 1) ≤ 2 * q.2.2 + ntk X L (idx (nx q.1))
              obtain ⟨j, hj⟩ := gdI g1
              rw [hj] at h113 hp ⊢
              have h113 : tTy (tkJ X L j) = 113 := h113
              have hp : c0 + q.2.1.length + s ≤ 2 * q.2.2 + ntk X L j := hp
              show _ ≤ 2 * q.2.2 + (ntk X L j + (if tTy (tkJ X L j) = 113 then 1 else 0))
              rw [if_pos h113]
              omega
            have p3 := g6 (s + 1) c0 p2
            unfold Pot at *
            show c0 + ((pE X L kl kn ln n 2 (ar + 1) (nx q.1, q.2)).2.1 ++ [(113, 0)]).length + (s + 1) ≤ _
            rw [List.length_append]
            show c0 + ((pE X L kl kn ln n 2 (ar + 1) (nx q.1, q.2)).2.1.length + 1) + (s + 1) ≤ 2 * (pE X L kl kn ln n 2 (ar + 1) (nx q.1, q.2)).2.2 + ntk X L (idx (pE X L kl kn ln n 2 (ar + 1) (nx q.1, q.2)).1)
            omega
      · rw [if_neg hnt]
        refine ok_lp hb (by omega) h2 (fun p hp => ih (lv + 1) ar p (by omega) h2 (by unfold nd at *; omega) hp) 1200 _ (ok_wk (by omega) h2 (ih (lv + 1) ar q (by omega) h2 (by unfold nd at *; omega) hin))
end EXP
