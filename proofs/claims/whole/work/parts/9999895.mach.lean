/-! the reference's machine for expressions, apart from how it is kept -/
abbrev Ek : Type := Nat × Nat
def rkT (ty : Nat) : Nat := if ty = 114 then 1 else if ty = 115 then 2 else if ty = 60 ∨ ty = 61 ∨ ty = 62 then 4 else if ty = 43 ∨ ty = 45 then 5 else if ty = 42 then 6 else 0
/-- wants a unit, what waits, reading, how deep -/
abbrev Mx : Type := Bool × List Ek × Px × Nat
def tpE (s : List Ek) : Nat := (s.headD (8, 0)).1
def cmpd : List Ek → Bool
  | [] => false
  | e :: s => if e.1 = 5 ∨ e.1 = 6 then cmpd s else decide (e.1 = 4)
/-- takes off what binds as tight -/
def redu (r : Nat) : List Ek → Cd → Nat → List Ek × Cd × Nat
  | [], c, d => ([], c, d)
  | e :: s, c, d => if e.1 ≤ 6 ∧ r ≤ e.1 then redu r s (c ++ [(e.2, 0)]) (if e.1 = 3 then d - 1 else d) else (e :: s, c, d)
def ntE (p : List Ek) : Nat := match p with
  | [] => 0
  | e :: s => (if e.1 = 3 then 1 else 0) + ntE s
def cdE (p : List Ek) : Cd := p.map (fun e => (e.2, 0))
section MAC
variable (X : Nat → Int32) (L : Nat) (kl : Bool) (kn ln : List (List Int32))
def isNt (st : List Ek) (q : Px) : Prop := (tpE st ≤ 3 ∨ 7 ≤ tpE st) ∧ sTy X L q.1 = 113
def mU (st : List Ek) (q : Px) (d : Nat) : Mx := if (¬ ((tpE st ≤ 3 ∨ 7 ≤ tpE st) ∧ sTy X L q.1 = 113) ∧ (bgU (sTy X L q.1) = false ∨ 100 ≤ q.2.2)) ∨ ((((tpE st ≤ 3 ∨ 7 ≤ tpE st) ∧ sTy X L q.1 = 113) ∨ sTy X L q.1 = 40) ∧ 7 ≤ d) then (true, st, (rf X L 2 q.1, q.2), d)
  else if kl = true ∧ 108 ≤ sTy X L q.1 ∧ sTy X L q.1 ≤ 110 then (true, st, (rf X L 6 q.1, q.2), d)
  else if (tpE st ≤ 3 ∨ 7 ≤ tpE st) ∧ sTy X L q.1 = 113 then (true, (3, 113) :: st, (nx q.1, q.2), d + 1)
  else if sTy X L q.1 = 40 then (true, (7, 0) :: st, (nx q.1, q.2.1, q.2.2 + 1), d + 1)
  else (false, st, pLf X L kn ln q, d)
def mB (st : List Ek) (q : Px) (d : Nat) : Mx := if rkT (sTy X L q.1) = 4 ∧ cmpd st = true then (true, st, (rf X L 2 q.1, q.2), d)
  else if 0 < rkT (sTy X L q.1) then (true, (rkT (sTy X L q.1), sTy X L q.1) :: (redu (rkT (sTy X L q.1)) st q.2.1 d).1, (nx q.1, (redu (rkT (sTy X L q.1)) st q.2.1 d).2.1, q.2.2), (redu (rkT (sTy X L q.1)) st q.2.1 d).2.2)
  else (match (redu 0 st q.2.1 d).1 with
    | [] => (false, [], (q.1, (redu 0 st q.2.1 d).2.1, q.2.2), (redu 0 st q.2.1 d).2.2)
    | e :: s => if e.1 = 7 then (false, s, (dm X L 41 q.1, (redu 0 st q.2.1 d).2.1, q.2.2), (redu 0 st q.2.1 d).2.2 - 1) else (false, s, (q.1, (redu 0 st q.2.1 d).2.1, q.2.2), (redu 0 st q.2.1 d).2.2))
def mS (m : Mx) : Mx := if gd m.2.2.1.1 = false ∨ m.2.1 = [] then m else if m.1 = true then mU X L kl kn ln m.2.1 m.2.2.1 m.2.2.2 else mB X L m.2.1 m.2.2.1 m.2.2.2
def mR : Nat → Mx → Mx
  | 0, m => m
  | t + 1, m => mR t (mS X L kl kn ln m)
end MAC
def tRk (lv : Nat) : Nat := if lv ≤ 1 then lv else lv + 1
def loR (lv : Nat) : Nat := if lv ≤ 2 then lv + 1 else lv + 2
def rkL (lv : Nat) : Nat := if lv ≤ 1 then lv + 1 else lv + 2
section MAP
variable {X : Nat → Int32} {L : Nat} {kl : Bool} {kn ln : List (List Int32)}
theorem mR_add : ∀ (a b : Nat) (m : Mx), mR X L kl kn ln (a + b) m = mR X L kl kn ln b (mR X L kl kn ln a m) := by
  intro a
  induction a with
  | zero => intro b m; rw [Nat.zero_add]; rfl
  | succ a ih => intro b m; rw [show a + 1 + b = (a + b) + 1 by omega]; exact ih b _
theorem mS_u {st : List Ek} {q : Px} {d : Nat} (hg : gd q.1 = true) (hs : st ≠ []) : mS X L kl kn ln (true, st, q, d) = mU X L kl kn ln st q d := by
  show (if gd q.1 = false ∨ st = [] then _ else if true = true then _ else _) = _
  rw [if_neg (fun z => z.elim (fun z => by rw [hg] at z; cases z) hs), if_pos rfl]
theorem mS_b {st : List Ek} {q : Px} {d : Nat} (hg : gd q.1 = true) (hs : st ≠ []) : mS X L kl kn ln (false, st, q, d) = mB X L st q d := by
  show (if gd q.1 = false ∨ st = [] then _ else if false = true then _ else _) = _
  rw [if_neg (fun z => z.elim (fun z => by rw [hg] at z; cases z) hs), if_neg (by decide)]
theorem ntE_app : ∀ (p s : List Ek), ntE (p ++ s) = ntE p + ntE s := by
  intro p
  induction p with
  | nil => intro s; show ntE s = 0 + ntE s; omega
  | cons e p ih => intro s; show (if e.1 = 3 then 1 else 0) + ntE (p ++ s) = (if e.1 = 3 then 1 else 0) + ntE p + ntE s; rw [ih]; omega
theorem cmpd_app : ∀ (p s : List Ek), cmpd p = true → cmpd (p ++ s) = true := by
  intro p
  induction p with
  | nil => intro s h; cases h
  | cons e p ih =>
    intro s h
    show (if e.1 = 5 ∨ e.1 = 6 then cmpd (p ++ s) else decide (e.1 = 4)) = true
    have h : (if e.1 = 5 ∨ e.1 = 6 then cmpd p else decide (e.1 = 4)) = true := h
    split
    · rename_i hc; rw [if_pos hc] at h; exact ih s h
    · rename_i hc; rw [if_neg hc] at h; exact h
theorem cmpd_skip : ∀ (p s : List Ek), (∀ e ∈ p, 5 ≤ e.1 ∧ e.1 ≤ 6) → cmpd (p ++ s) = cmpd s := by
  intro p
  induction p with
  | nil => intro s _; rfl
  | cons e p ih =>
    intro s h
    have h1 := h e (by simp)
    show (if e.1 = 5 ∨ e.1 = 6 then cmpd (p ++ s) else decide (e.1 = 4)) = _
    rw [if_pos (by omega)]
    exact ih s (fun x hx => h x (by simp [hx]))
theorem redu_all {r : Nat} : ∀ (p s : List Ek) (c : Cd) (d : Nat), (∀ e ∈ p, r ≤ e.1 ∧ e.1 ≤ 6) → ¬ (tpE s ≤ 6 ∧ r ≤ tpE s) → ntE p ≤ d → redu r (p ++ s) c d = (s, c ++ cdE p, d - ntE p) := by
  intro p
  induction p with
  | nil =>
    intro s c d _ hs _
    show redu r s c d = (s, c ++ [], d - 0)
    rw [List.append_nil, Nat.sub_zero]
    cases s with
    | nil => rfl
    | cons e s =>
      have hs : ¬ (e.1 ≤ 6 ∧ r ≤ e.1) := hs
      show (if e.1 ≤ 6 ∧ r ≤ e.1 then _ else _) = _
      rw [if_neg hs]
  | cons e p ih =>
    intro s c d hp hs hd
    have h1 := hp e (by simp)
    have hd : (if e.1 = 3 then 1 else 0) + ntE p ≤ d := hd
    show (if e.1 ≤ 6 ∧ r ≤ e.1 then redu r (p ++ s) (c ++ [(e.2, 0)]) (if e.1 = 3 then d - 1 else d) else _) = _
    rw [if_pos ⟨h1.2, h1.1⟩, ih s _ _ (fun x hx => hp x (by simp [hx])) hs (by split at hd <;> (split <;> omega))]
    have e1 : c ++ [(e.2, 0)] ++ cdE p = c ++ cdE (e :: p) := by unfold cdE; simp
    have e2 : (if e.1 = 3 then d - 1 else d) - ntE p = d - ntE (e :: p) := by
      show _ = d - ((if e.1 = 3 then 1 else 0) + ntE p)
      split <;> omega
    rw [e1, e2]
theorem rk_lv {ty lv : Nat} (h : lv < 5) : lvT ty = lv ↔ rkT ty = rkL lv := by
  unfold lvT rkT rkL
  by_cases h1 : ty = 114
  · rw [if_pos h1, if_pos h1]; split <;> omega
  · rw [if_neg h1, if_neg h1]
    by_cases h2 : ty = 115
    · rw [if_pos h2, if_pos h2]; split <;> omega
    · rw [if_neg h2, if_neg h2]
      by_cases h3 : ty = 60 ∨ ty = 61 ∨ ty = 62
      · rw [if_pos h3, if_pos h3]; split <;> omega
      · rw [if_neg h3, if_neg h3]
        by_cases h4 : ty = 43 ∨ ty = 45
        · rw [if_pos h4, if_pos h4]; split <;> omega
        · rw [if_neg h4, if_neg h4]
          by_cases h5 : ty = 42
          · rw [if_pos h5, if_pos h5]; split <;> omega
          · rw [if_neg h5, if_neg h5]; split <;> omega
theorem rk_vals {ty : Nat} : rkT ty = 0 ∨ rkT ty = 1 ∨ rkT ty = 2 ∨ rkT ty = 4 ∨ rkT ty = 5 ∨ rkT ty = 6 := by
  unfold rkT
  repeat' split
  all_goals omega
/-- where the machine stands behind a part that level lv reads -/
def Beh (X : Nat → Int32) (L lv : Nat) (st : List Ek) (ar : Nat) (q' : Px) (m : Mx) : Prop := ∃ p c, m = (false, p ++ st, (q'.1, c, q'.2.2), ar + ntE p) ∧ q'.2.1 = c ++ cdE p ∧ (∀ e ∈ p, loR lv ≤ e.1 ∧ e.1 ≤ 6) ∧ (rkT (sTy X L q'.1) < loR lv ∨ (rkT (sTy X L q'.1) = 4 ∧ cmpd p = true))
/-- the machine, from m, comes behind what ends in q' -/
def Com (X : Nat → Int32) (L : Nat) (kl : Bool) (kn ln : List (List Int32)) (lv : Nat) (st : List Ek) (ar i0 : Nat) (q' : Px) (m : Mx) : Prop := (gd q'.1 = true → ∃ t, t ≤ idx q'.1 - i0 ∧ Beh X L lv st ar q' (mR X L kl kn ln t m)) ∧ (gd q'.1 = false → ∃ t, t ≤ tkN X L - i0 ∧ (mR X L kl kn ln t m).2.2.1.1 = q'.1)
def Sim (X : Nat → Int32) (L : Nat) (kl : Bool) (kn ln : List (List Int32)) (n lv ar : Nat) : Prop := ∀ (q : Px) (st : List Ek), gd q.1 = true → InT X L q.1 → q.2.2 ≤ 100 → st ≠ [] → (tpE st ≤ tRk lv ∨ 7 ≤ tpE st) → (3 ≤ lv → sTy X L q.1 = 113 → 3 < tpE st ∧ tpE st < 7) → Com X L kl kn ln lv st ar (idx q.1) (pE X L kl kn ln n lv ar q) (true, st, q, ar)
end MAP
