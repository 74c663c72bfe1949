/-! the objects that there are several of: their addresses, and what the layout has there -/
def o_st (a : Nat) : Prop := a = 11 ∨ a = 20
def o_cv (a : Nat) : Prop := a = 30 ∨ a = 79 ∨ a = 87 ∨ a = 95 ∨ a = 103
def o_sh (a : Nat) : Prop := 111 ≤ a ∧ a < 131
def o_di (a : Nat) : Prop := a = 40 ∨ a = 47
def dn (a : Nat) : Nat := if a = 40 then 200 else 60
theorem o_st_l {a : Nat} (h : o_st a) : 4 ≤ a ∧ ms_lay[a - 4]? = some (.inr (9, [a + 5, a + 6, a + 7, a + 8, 0, a + 9, a + 10, 0, 0, 0, 0, a + 11, a + 12])) := by
  rcases h with rfl | rfl <;> exact ⟨by decide, rfl⟩
theorem o_st_a {a : Nat} (h : o_st a) : ms_lay[a + 1 - 4]? = some (.inl (0, 20)) ∧ ms_lay[a + 2 - 4]? = some (.inl (0, 20)) ∧ ms_lay[a + 3 - 4]? = some (.inl (0, 20)) ∧ ms_lay[a + 4 - 4]? = some (.inl (3, 20)) ∧ ms_lay[a + 5 - 4]? = some (.inl (1, 8)) ∧ ms_lay[a + 6 - 4]? = some (.inl (3, 8)) ∧ ms_lay[a + 7 - 4]? = some (.inl (0, 22)) ∧ ms_lay[a + 8 - 4]? = some (.inl (0, 20)) := by
  rcases h with rfl | rfl <;> exact ⟨rfl, rfl, rfl, rfl, rfl, rfl, rfl, rfl⟩
theorem o_cv_l {a : Nat} (h : o_cv a) : 4 ≤ a ∧ ms_lay[a - 4]? = some (.inr (0, [a + 5, 0, a + 6, a + 7, a + 8, 0, 0, a + 9, a + 10, a + 11, 0, 0, 0, 0, 0, 0, 0, 0])) := by
  rcases h with rfl | rfl | rfl | rfl | rfl <;> exact ⟨by decide, rfl⟩
theorem o_cv_a {a : Nat} (h : o_cv a) : ms_lay[a + 1 - 4]? = some (.inl (0, 512)) ∧ ms_lay[a + 2 - 4]? = some (.inl (1, 6)) ∧ ms_lay[a + 3 - 4]? = some (.inl (0, 6)) ∧ ms_lay[a + 4 - 4]? = some (.inl (0, 6)) ∧ ms_lay[a + 5 - 4]? = some (.inl (0, 8)) ∧ ms_lay[a + 6 - 4]? = some (.inl (0, 8)) ∧ ms_lay[a + 7 - 4]? = some (.inl (0, 8)) := by
  rcases h with rfl | rfl | rfl | rfl | rfl <;> exact ⟨rfl, rfl, rfl, rfl, rfl, rfl, rfl⟩
theorem o_di_l {a : Nat} (h : o_di a) : 4 ≤ a ∧ ms_lay[a - 4]? = some (.inr (2, [a + 5, a + 6, a + 7, a + 8, a + 9, a + 10, 0])) := by
  rcases h with rfl | rfl <;> exact ⟨by decide, rfl⟩
theorem o_di_a {a : Nat} (h : o_di a) : ms_lay[a + 1 - 4]? = some (.inl (0, dn a)) ∧ ms_lay[a + 2 - 4]? = some (.inl (0, dn a)) ∧ ms_lay[a + 3 - 4]? = some (.inl (3, dn a)) ∧ ms_lay[a + 4 - 4]? = some (.inl (0, dn a)) ∧ ms_lay[a + 5 - 4]? = some (.inl (0, dn a)) ∧ ms_lay[a + 6 - 4]? = some (.inl (0, dn a)) := by
  rcases h with rfl | rfl <;> exact ⟨rfl, rfl, rfl, rfl, rfl, rfl⟩
theorem o_sh_key (k : Nat) (hk : k < 20) : ms_lay[107 + k]? = some (.inr (8, [0, 0, 0, 0, 0, 0, 0, 3, 3])) := by
  match k, hk with
  | 0, _ => rfl
  | 1, _ => rfl
  | 2, _ => rfl
  | 3, _ => rfl
  | 4, _ => rfl
  | 5, _ => rfl
  | 6, _ => rfl
  | 7, _ => rfl
  | 8, _ => rfl
  | 9, _ => rfl
  | 10, _ => rfl
  | 11, _ => rfl
  | 12, _ => rfl
  | 13, _ => rfl
  | 14, _ => rfl
  | 15, _ => rfl
  | 16, _ => rfl
  | 17, _ => rfl
  | 18, _ => rfl
  | 19, _ => rfl
  | k + 20, hk => exact absurd hk (by omega)
theorem o_sh_l {a : Nat} (h : o_sh a) : 4 ≤ a ∧ ms_lay[a - 4]? = some (.inr (8, [0, 0, 0, 0, 0, 0, 0, 3, 3])) := ⟨Nat.le_trans (by decide) h.1, by
  have := o_sh_key (a - 111) (by have := h.1; have := h.2; omega)
  rw [show 107 + (a - 111) = a - 4 by have := h.1; omega] at this
  exact this⟩
/-- a reference that is one of a kind, read -/
def gRo (P : Nat → Bool) (a k : Nat) : mM Nat := fun S => match ms_R S a k with
  | some r => if P r = true then some (r, S) else none
  | none => none
def lQo (P : Nat → Bool) (a n : Nat) (i : Int32) : mM Nat := fun S => if mv_in i n then (match ms_Q S a i.toNatClampNeg with
  | some r => if P r = true then some (r, S) else none
  | none => none) else none
def isSt (a : Nat) : Bool := a == 11 || a == 20
def isCv (a : Nat) : Bool := a == 30 || a == 79 || a == 87 || a == 95 || a == 103
def isSh (a : Nat) : Bool := decide (111 ≤ a) && decide (a < 131)
def isA (r a : Nat) : Bool := a == r
theorem isSt_of {a : Nat} (h : isSt a = true) : o_st a := by simpa [isSt, o_st] using h
theorem isCv_of {a : Nat} (h : isCv a = true) : o_cv a := by simpa [isCv, o_cv, or_assoc] using h
theorem isSh_of {a : Nat} (h : isSh a = true) : o_sh a := by simpa [isSh, o_sh] using h
theorem isA_of {r a : Nat} (h : isA r a = true) : a = r := by simpa [isA] using h
section MSO
variable {d : Nat} {code : mv_Cd} {rt : Option FieldType} {pc pc1 x a k i ci L : Nat} {xs : Nat → Int32} {fs : List Nat} {lo : mv_L} {st : List Value} {hE : mv_H} {r : Option Value} {S S1 : ms_S}
theorem mw_gRo {P : Nat → Bool} {v : Nat} (hf : mv_find pc code = some (.getfield i, 3, x)) (h4 : 4 ≤ a) (he : ms_lay[a - 4]? = some (.inr (ci, fs))) (hc : x / 256 = ci) (hk : x % 256 = k) (hfs : fs[k]? = some 2) (hp : pc + 3 = pc1) (h : gRo P a k S = some (v, S1)) (kk : P v = true → mw d code rt pc1 lo (.ref v :: st) (ms_mk L xs S1) r hE) : mw d code rt pc lo (.ref a :: st) (ms_mk L xs S) r hE := by
  unfold gRo at h
  split at h
  · rename_i r1 hr
    split at h
    · rename_i hP
      cases h
      exact mw_gR hf h4 he hc hk hfs hp (S1 := S) (by unfold gR; rw [hr]) (kk hP)
    · cases h
  · cases h
theorem mw_lQo {P : Nat → Bool} {n t : Nat} {j : Int32} {v : Nat} (hf : mv_find pc code = some (.aaload, 1, x)) (h4 : 4 ≤ a) (he : ms_lay[a - 4]? = some (.inl (t, n))) (ht : t = 4 ∨ t = 5) (hp : pc + 1 = pc1) (h : lQo P a n j S = some (v, S1)) (kk : P v = true → mw d code rt pc1 lo (.ref v :: st) (ms_mk L xs S1) r hE) : mw d code rt pc lo (.int j :: .ref a :: st) (ms_mk L xs S) r hE := by
  unfold lQo at h
  split at h
  case isFalse => cases h
  rename_i hin
  split at h
  · rename_i r1 hr
    split at h
    · rename_i hP
      cases h
      exact mw_lQ hf h4 he ht hp (S1 := S) (by unfold lQ; rw [if_pos hin, hr]) (kk hP)
    · cases h
  · cases h
/-- a branch -/
theorem mw_if {α : Type} {c : Prop} [Decidable c] {A B : mM α} {q : α × ms_S} {ins : ClassFile.Instr} {len t : Nat} {st1 : List Value} {h0 : mv_H} (h : (if c then A else B) S = some q) (hf : mv_find pc code = some (ins, len, x)) (hv : mv_br ins pc st = some (decide c, t, st1)) (hp : pc + 3 = pc1) (kt : c → A S = some q → mw d code rt t lo st1 h0 r hE) (kf : ¬ c → B S = some q → mw d code rt pc1 lo st1 h0 r hE) : mw d code rt pc lo st h0 r hE := by
  refine mw_br hf hv hp (fun hb => ?_) (fun hb => ?_)
  · have hc := of_decide_eq_true hb
    rw [if_pos hc] at h
    exact kt hc h
  · have hc := of_decide_eq_false hb
    rw [if_neg hc] at h
    exact kf hc h
end MSO
