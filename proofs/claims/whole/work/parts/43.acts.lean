/-! what methods do, as functions of the state: the actions, and their rules in the small machine -/
abbrev mM (α : Type) : Type := ms_S → Option (α × ms_S)
def mb {α β : Type} (x : mM α) (k : α → mM β) : mM β := fun S => match x S with
  | some (v, S1) => k v S1
  | none => none
def mret {α : Type} (v : α) : mM α := fun S => some (v, S)
def mfail {α : Type} : mM α := fun _ => none
theorem mb_of {α β : Type} {x : mM α} {k : α → mM β} {S : ms_S} {q : β × ms_S} (h : mb x k S = some q) : ∃ (v : α) (S1 : ms_S), x S = some (v, S1) ∧ k v S1 = some q := by
  unfold mb at h
  split at h
  · rename_i v S1 hx
    exact ⟨v, S1, hx, h⟩
  · cases h
theorem mret_of {α : Type} {v : α} {S : ms_S} {w : α} {S1 : ms_S} (h : mret v S = some (w, S1)) : w = v ∧ S1 = S := by
  cases h
  exact ⟨rfl, rfl⟩
def gI (a k : Nat) : mM Int32 := fun S => some (ms_I S a k, S)
def gJ (a k : Nat) : mM Int64 := fun S => some (ms_J S a k, S)
def gR (a k : Nat) : mM Nat := fun S => match ms_R S a k with
  | some r => some (r, S)
  | none => none
def pI (a k : Nat) (v : Int32) : mM Unit := fun S => some ((), ms_setI S a k v)
def pZ (a k : Nat) (v : Int32) : mM Unit := fun S => if v = 0 ∨ v = 1 then some ((), ms_setI S a k v) else none
def pJ (a k : Nat) (v : Int64) : mM Unit := fun S => some ((), ms_setJ S a k v)
def pR (a k : Nat) (v : Nat) : mM Unit := fun S => some ((), ms_setR S a k (some v))
def lA (a n : Nat) (i : Int32) : mM Int32 := fun S => if mv_in i n then some (ms_A S a i.toNatClampNeg, S) else none
def lL (a n : Nat) (i : Int32) : mM Int64 := fun S => if mv_in i n then some (ms_L S a i.toNatClampNeg, S) else none
def lQ (a n : Nat) (i : Int32) : mM Nat := fun S => if mv_in i n then (match ms_Q S a i.toNatClampNeg with
  | some r => some (r, S)
  | none => none) else none
def sA (a n : Nat) (i v : Int32) : mM Unit := fun S => if mv_in i n then some ((), ms_setA S a i.toNatClampNeg v) else none
def sB (a n : Nat) (i v : Int32) : mM Unit := fun S => if mv_in i n then some ((), ms_setA S a i.toNatClampNeg (vp_nar .boolean v)) else none
def sY (a n : Nat) (i v : Int32) : mM Unit := fun S => if mv_in i n then some ((), ms_setA S a i.toNatClampNeg (vp_nar .byte v)) else none
def sL (a n : Nat) (i : Int32) (v : Int64) : mM Unit := fun S => if mv_in i n then some ((), ms_setL S a i.toNatClampNeg v) else none
def sQ (a n : Nat) (i : Int32) (v : Nat) : mM Unit := fun S => if mv_in i n then some ((), ms_setQ S a i.toNatClampNeg (some v)) else none
def mdiv (x y : Int32) : mM Int32 := fun S => if y = 0 then none else some (x / y, S)
def mrem (x y : Int32) : mM Int32 := fun S => if y = 0 then none else some (x - x / y * y, S)
/-- the script -/
def lX (L : Nat) (xs : Nat → Int32) (i : Int32) : mM Int32 := fun S => if mv_in i L then some (xs i.toNatClampNeg, S) else none
section MSR
variable {d : Nat} {code : mv_Cd} {rt : Option FieldType} {pc pc1 x a k i ci L : Nat} {xs : Nat → Int32} {fs : List Nat} {lo : mv_L} {st : List Value} {hE : mv_H} {r : Option Value} {S S1 : ms_S}
theorem ms_c_setI {v : Int32} {b : Nat} {e : ms_Lay} (h : b ≠ a) : ms_cell (ms_setI S a k v) b e = ms_cell S b e := by
  have e1 : ms_I (ms_setI S a k v) b = ms_I S b := ms_up_ne h
  unfold ms_cell
  split
  · rfl
  · congr 3
    funext k1 f
    unfold ms_fv
    split <;> first | rfl | rw [e1]
theorem ms_c_setJ {v : Int64} {b : Nat} {e : ms_Lay} (h : b ≠ a) : ms_cell (ms_setJ S a k v) b e = ms_cell S b e := by
  have e1 : ms_J (ms_setJ S a k v) b = ms_J S b := ms_up_ne h
  unfold ms_cell
  split
  · rfl
  · congr 3
    funext k1 f
    unfold ms_fv
    split <;> first | rfl | rw [e1]
theorem ms_c_setR {v : Option Nat} {b : Nat} {e : ms_Lay} (h : b ≠ a) : ms_cell (ms_setR S a k v) b e = ms_cell S b e := by
  have e1 : ms_R (ms_setR S a k v) b = ms_R S b := ms_up_ne h
  unfold ms_cell
  split
  · rfl
  · congr 3
    funext k1 f
    unfold ms_fv
    split <;> first | rfl | rw [e1]
theorem ms_c_setA {v : Int32} {b : Nat} {e : ms_Lay} (h : b ≠ a) : ms_cell (ms_setA S a k v) b e = ms_cell S b e := by
  have e1 : ms_A (ms_setA S a k v) b = ms_A S b := ms_up_ne h
  have e2 : ms_L (ms_setA S a k v) b = ms_L S b := rfl
  have e3 : ms_Q (ms_setA S a k v) b = ms_Q S b := rfl
  unfold ms_cell
  split
  · unfold ms_ar
    rw [e1, e2, e3]
  · rfl
theorem ms_c_setL {v : Int64} {b : Nat} {e : ms_Lay} (h : b ≠ a) : ms_cell (ms_setL S a k v) b e = ms_cell S b e := by
  have e1 : ms_L (ms_setL S a k v) b = ms_L S b := ms_up_ne h
  have e2 : ms_A (ms_setL S a k v) b = ms_A S b := rfl
  have e3 : ms_Q (ms_setL S a k v) b = ms_Q S b := rfl
  unfold ms_cell
  split
  · unfold ms_ar
    rw [e1, e2, e3]
  · rfl
theorem ms_c_setQ {v : Option Nat} {b : Nat} {e : ms_Lay} (h : b ≠ a) : ms_cell (ms_setQ S a k v) b e = ms_cell S b e := by
  have e1 : ms_Q (ms_setQ S a k v) b = ms_Q S b := ms_up_ne h
  have e2 : ms_L (ms_setQ S a k v) b = ms_L S b := rfl
  have e3 : ms_A (ms_setQ S a k v) b = ms_A S b := rfl
  unfold ms_cell
  split
  · unfold ms_ar
    rw [e1, e2, e3]
  · rfl
theorem mw_gI {v : Int32} (hf : mv_find pc code = some (.getfield i, 3, x)) (h4 : 4 ≤ a) (he : ms_lay[a - 4]? = some (.inr (ci, fs))) (hc : x / 256 = ci) (hk : x % 256 = k) (hfs : fs[k]? = some 0) (hp : pc + 3 = pc1) (h : gI a k S = some (v, S1)) (kk : mw d code rt pc1 lo (.int v :: st) (ms_mk L xs S1) r hE) : mw d code rt pc lo (.ref a :: st) (ms_mk L xs S) r hE := by
  subst hk
  cases h
  refine mw_heap hf ?_ hp kk
  show mv_psh1 (mv_gf x a (ms_mk L xs S)) st _ = _
  rw [ms_gf h4 he hc hfs]
  rfl
theorem mw_gZ {v : Int32} (hf : mv_find pc code = some (.getfield i, 3, x)) (h4 : 4 ≤ a) (he : ms_lay[a - 4]? = some (.inr (ci, fs))) (hc : x / 256 = ci) (hk : x % 256 = k) (hfs : fs[k]? = some 3) (hp : pc + 3 = pc1) (h : gI a k S = some (v, S1)) (kk : mw d code rt pc1 lo (.int v :: st) (ms_mk L xs S1) r hE) : mw d code rt pc lo (.ref a :: st) (ms_mk L xs S) r hE := by
  subst hk
  cases h
  refine mw_heap hf ?_ hp kk
  show mv_psh1 (mv_gf x a (ms_mk L xs S)) st _ = _
  rw [ms_gf h4 he hc hfs]
  rfl
theorem mw_gJ {v : Int64} (hf : mv_find pc code = some (.getfield i, 3, x)) (h4 : 4 ≤ a) (he : ms_lay[a - 4]? = some (.inr (ci, fs))) (hc : x / 256 = ci) (hk : x % 256 = k) (hfs : fs[k]? = some 1) (hp : pc + 3 = pc1) (h : gJ a k S = some (v, S1)) (kk : mw d code rt pc1 lo (.long v :: st) (ms_mk L xs S1) r hE) : mw d code rt pc lo (.ref a :: st) (ms_mk L xs S) r hE := by
  subst hk
  cases h
  refine mw_heap hf ?_ hp kk
  show mv_psh1 (mv_gf x a (ms_mk L xs S)) st _ = _
  rw [ms_gf h4 he hc hfs]
  rfl
theorem mw_gR {v : Nat} (hf : mv_find pc code = some (.getfield i, 3, x)) (h4 : 4 ≤ a) (he : ms_lay[a - 4]? = some (.inr (ci, fs))) (hc : x / 256 = ci) (hk : x % 256 = k) (hfs : fs[k]? = some 2) (hp : pc + 3 = pc1) (h : gR a k S = some (v, S1)) (kk : mw d code rt pc1 lo (.ref v :: st) (ms_mk L xs S1) r hE) : mw d code rt pc lo (.ref a :: st) (ms_mk L xs S) r hE := by
  subst hk
  unfold gR at h
  split at h
  · rename_i r1 hr
    cases h
    refine mw_heap hf ?_ hp kk
    show mv_psh1 (mv_gf x a (ms_mk L xs S)) st _ = _
    rw [ms_gf h4 he hc hfs]
    simp only [ms_fv, hr]
    rfl
  · cases h
theorem mw_gC {v : Nat} (hf : mv_find pc code = some (.getfield i, 3, x)) (h4 : 4 ≤ a) (he : ms_lay[a - 4]? = some (.inr (ci, fs))) (hc : x / 256 = ci) (hk : x % 256 = k) (hfs : fs[k]? = some (v + 4)) (hp : pc + 3 = pc1) (kk : mw d code rt pc1 lo (.ref v :: st) (ms_mk L xs S) r hE) : mw d code rt pc lo (.ref a :: st) (ms_mk L xs S) r hE := by
  subst hk
  refine mw_heap hf ?_ hp kk
  show mv_psh1 (mv_gf x a (ms_mk L xs S)) st _ = _
  rw [ms_gf h4 he hc hfs]
  rfl
theorem mw_pI {v : Int32} {u : Unit} (hf : mv_find pc code = some (.putfield i, 3, x)) (h4 : 4 ≤ a) (he : ms_lay[a - 4]? = some (.inr (ci, fs))) (hc : x / 256 = ci) (hk : x % 256 = k) (hfs : fs[k]? = some 0) (hp : pc + 3 = pc1) (h : pI a k v S = some (u, S1)) (kk : mw d code rt pc1 lo st (ms_mk L xs S1) r hE) : mw d code rt pc lo (.int v :: .ref a :: st) (ms_mk L xs S) r hE := by
  subst hk
  cases h
  have e1 : ms_I (ms_setI S a (x % 256) v) a (x % 256) = v := by simp [ms_I, ms_setI, ms_up]
  have e2 : ∀ k1, k1 ≠ x % 256 → ms_I (ms_setI S a (x % 256) v) a k1 = ms_I S a k1 := fun k1 h1 => by simp [ms_I, ms_setI, ms_up, h1]
  refine mw_heap hf ?_ hp kk
  show mv_put1 (mv_pf x (.int v) a (ms_mk L xs S)) st = _
  rw [ms_pf (S1 := ms_setI S a (x % 256) v) h4 he hc hfs (fun ty hty => ?_) (fun b e hb => ms_c_setI hb) (by simp only [ms_fv, e1]; try rfl) (fun k1 g h1 => by unfold ms_fv; split <;> first | rfl | rw [e2 k1 h1])]
  · rfl
  · cases ty <;> first | rfl | (cases hty; done)
theorem mw_pZ {v : Int32} {u : Unit} (hf : mv_find pc code = some (.putfield i, 3, x)) (h4 : 4 ≤ a) (he : ms_lay[a - 4]? = some (.inr (ci, fs))) (hc : x / 256 = ci) (hk : x % 256 = k) (hfs : fs[k]? = some 3) (hp : pc + 3 = pc1) (h : pZ a k v S = some (u, S1)) (kk : mw d code rt pc1 lo st (ms_mk L xs S1) r hE) : mw d code rt pc lo (.int v :: .ref a :: st) (ms_mk L xs S) r hE := by
  subst hk
  unfold pZ at h
  split at h
  case isFalse => cases h
  rename_i hz
  cases h
  have e1 : ms_I (ms_setI S a (x % 256) v) a (x % 256) = v := by simp [ms_I, ms_setI, ms_up]
  have e2 : ∀ k1, k1 ≠ x % 256 → ms_I (ms_setI S a (x % 256) v) a k1 = ms_I S a k1 := fun k1 h1 => by simp [ms_I, ms_setI, ms_up, h1]
  refine mw_heap hf ?_ hp kk
  show mv_put1 (mv_pf x (.int v) a (ms_mk L xs S)) st = _
  rw [ms_pf (S1 := ms_setI S a (x % 256) v) h4 he hc hfs (fun ty hty => ?_) (fun b e hb => ms_c_setI hb) (by simp only [ms_fv, e1]; try rfl) (fun k1 g h1 => by unfold ms_fv; split <;> first | rfl | rw [e2 k1 h1])]
  · rfl
  · cases ty <;> first | (cases hty; done) | (simp [mv_fit, hz])
theorem mw_pJ {v : Int64} {u : Unit} (hf : mv_find pc code = some (.putfield i, 3, x)) (h4 : 4 ≤ a) (he : ms_lay[a - 4]? = some (.inr (ci, fs))) (hc : x / 256 = ci) (hk : x % 256 = k) (hfs : fs[k]? = some 1) (hp : pc + 3 = pc1) (h : pJ a k v S = some (u, S1)) (kk : mw d code rt pc1 lo st (ms_mk L xs S1) r hE) : mw d code rt pc lo (.long v :: .ref a :: st) (ms_mk L xs S) r hE := by
  subst hk
  cases h
  have e1 : ms_J (ms_setJ S a (x % 256) v) a (x % 256) = v := by simp [ms_J, ms_setJ, ms_up]
  have e2 : ∀ k1, k1 ≠ x % 256 → ms_J (ms_setJ S a (x % 256) v) a k1 = ms_J S a k1 := fun k1 h1 => by simp [ms_J, ms_setJ, ms_up, h1]
  refine mw_heap hf ?_ hp kk
  show mv_put1 (mv_pf x (.long v) a (ms_mk L xs S)) st = _
  rw [ms_pf (S1 := ms_setJ S a (x % 256) v) h4 he hc hfs (fun ty hty => ?_) (fun b e hb => ms_c_setJ hb) (by simp only [ms_fv, e1]; try rfl) (fun k1 g h1 => by unfold ms_fv; split <;> first | rfl | rw [e2 k1 h1])]
  · rfl
  · cases ty <;> first | rfl | (cases hty; done)
theorem mw_pR {v : Nat} {u : Unit} (hf : mv_find pc code = some (.putfield i, 3, x)) (h4 : 4 ≤ a) (he : ms_lay[a - 4]? = some (.inr (ci, fs))) (hc : x / 256 = ci) (hk : x % 256 = k) (hfs : fs[k]? = some 2) (hp : pc + 3 = pc1) (h : pR a k v S = some (u, S1)) (kk : mw d code rt pc1 lo st (ms_mk L xs S1) r hE) : mw d code rt pc lo (.ref v :: .ref a :: st) (ms_mk L xs S) r hE := by
  subst hk
  cases h
  have e1 : ms_R (ms_setR S a (x % 256) (some v)) a (x % 256) = (some v) := by simp [ms_R, ms_setR, ms_up]
  have e2 : ∀ k1, k1 ≠ x % 256 → ms_R (ms_setR S a (x % 256) (some v)) a k1 = ms_R S a k1 := fun k1 h1 => by simp [ms_R, ms_setR, ms_up, h1]
  refine mw_heap hf ?_ hp kk
  show mv_put1 (mv_pf x (.ref v) a (ms_mk L xs S)) st = _
  rw [ms_pf (S1 := ms_setR S a (x % 256) (some v)) h4 he hc hfs (fun ty hty => ?_) (fun b e hb => ms_c_setR hb) (by simp only [ms_fv, e1]; try rfl) (fun k1 g h1 => by unfold ms_fv; split <;> first | rfl | rw [e2 k1 h1])]
  · rfl
  · cases ty <;> first | rfl | (cases hty; done)
theorem mw_lA {n : Nat} {j : Int32} {v : Int32} (hf : mv_find pc code = some (.iaload, 1, x)) (h4 : 4 ≤ a) (he : ms_lay[a - 4]? = some (.inl (0, n))) (hp : pc + 1 = pc1) (h : lA a n j S = some (v, S1)) (kk : mw d code rt pc1 lo (.int v :: st) (ms_mk L xs S1) r hE) : mw d code rt pc lo (.int j :: .ref a :: st) (ms_mk L xs S) r hE := by
  unfold lA at h
  split at h
  case isFalse => cases h
  rename_i hin
  cases h
  refine mw_heap hf ?_ hp kk
  show mv_psh1 (mv_ial j a (ms_mk L xs S)) st _ = _
  unfold mv_ial
  rw [show (ms_mk L xs S)[a]? = some (.inl (0, n, .inl (ms_A S a))) from ms_get h4 he]
  show mv_psh1 (if (0 : Nat) = 0 ∧ (a = 0 ∨ 4 ≤ a) ∧ mv_in j n then some (.int (ms_A S a j.toNatClampNeg)) else none) st _ = _
  rw [if_pos ⟨rfl, Or.inr h4, hin⟩]
  rfl
theorem mw_lB {n : Nat} {j : Int32} {v : Int32} (hf : mv_find pc code = some (.baload, 1, x)) (h4 : 4 ≤ a) (he : ms_lay[a - 4]? = some (.inl (3, n))) (hp : pc + 1 = pc1) (h : lA a n j S = some (v, S1)) (kk : mw d code rt pc1 lo (.int v :: st) (ms_mk L xs S1) r hE) : mw d code rt pc lo (.int j :: .ref a :: st) (ms_mk L xs S) r hE := by
  unfold lA at h
  split at h
  case isFalse => cases h
  rename_i hin
  cases h
  refine mw_heap hf ?_ hp kk
  show mv_psh1 (mv_bal j a (ms_mk L xs S)) st _ = _
  unfold mv_bal
  rw [show (ms_mk L xs S)[a]? = some (.inl (3, n, .inl (ms_A S a))) from ms_get h4 he]
  show mv_psh1 (if ((3 : Nat) = 2 ∨ (3 : Nat) = 3) ∧ 4 ≤ a ∧ mv_in j n then some (.int (ms_A S a j.toNatClampNeg)) else none) st _ = _
  rw [if_pos ⟨Or.inr rfl, h4, hin⟩]
  rfl
theorem mw_lY {n : Nat} {j : Int32} {v : Int32} (hf : mv_find pc code = some (.baload, 1, x)) (h4 : 4 ≤ a) (he : ms_lay[a - 4]? = some (.inl (2, n))) (hp : pc + 1 = pc1) (h : lA a n j S = some (v, S1)) (kk : mw d code rt pc1 lo (.int v :: st) (ms_mk L xs S1) r hE) : mw d code rt pc lo (.int j :: .ref a :: st) (ms_mk L xs S) r hE := by
  unfold lA at h
  split at h
  case isFalse => cases h
  rename_i hin
  cases h
  refine mw_heap hf ?_ hp kk
  show mv_psh1 (mv_bal j a (ms_mk L xs S)) st _ = _
  unfold mv_bal
  rw [show (ms_mk L xs S)[a]? = some (.inl (2, n, .inl (ms_A S a))) from ms_get h4 he]
  show mv_psh1 (if ((2 : Nat) = 2 ∨ (2 : Nat) = 3) ∧ 4 ≤ a ∧ mv_in j n then some (.int (ms_A S a j.toNatClampNeg)) else none) st _ = _
  rw [if_pos ⟨Or.inl rfl, h4, hin⟩]
  rfl
theorem mw_lL {n : Nat} {j : Int32} {v : Int64} (hf : mv_find pc code = some (.laload, 1, x)) (h4 : 4 ≤ a) (he : ms_lay[a - 4]? = some (.inl (1, n))) (hp : pc + 1 = pc1) (h : lL a n j S = some (v, S1)) (kk : mw d code rt pc1 lo (.long v :: st) (ms_mk L xs S1) r hE) : mw d code rt pc lo (.int j :: .ref a :: st) (ms_mk L xs S) r hE := by
  unfold lL at h
  split at h
  case isFalse => cases h
  rename_i hin
  cases h
  refine mw_heap hf ?_ hp kk
  show mv_psh1 (mv_lal j a (ms_mk L xs S)) st _ = _
  unfold mv_lal
  rw [show (ms_mk L xs S)[a]? = some (.inl (1, n, .inr (.inl (ms_L S a)))) from ms_get h4 he]
  show mv_psh1 (if (1 : Nat) = 1 ∧ 4 ≤ a ∧ mv_in j n then some (.long (ms_L S a j.toNatClampNeg)) else none) st _ = _
  rw [if_pos ⟨rfl, h4, hin⟩]
  rfl
theorem mw_lQ {n t : Nat} {j : Int32} {v : Nat} (hf : mv_find pc code = some (.aaload, 1, x)) (h4 : 4 ≤ a) (he : ms_lay[a - 4]? = some (.inl (t, n))) (ht : t = 4 ∨ t = 5) (hp : pc + 1 = pc1) (h : lQ a n j S = some (v, S1)) (kk : mw d code rt pc1 lo (.ref v :: st) (ms_mk L xs S1) r hE) : mw d code rt pc lo (.int j :: .ref a :: st) (ms_mk L xs S) r hE := by
  unfold lQ at h
  split at h
  case isFalse => cases h
  rename_i hin
  split at h
  case h_2 => cases h
  rename_i r1 hr
  cases h
  refine mw_heap hf ?_ hp kk
  show mv_psh1 (mv_aal j a (ms_mk L xs S)) st _ = _
  unfold mv_aal
  rw [ms_get h4 he]
  have e1 : ms_ar S a t = .inr (.inr (ms_Q S a)) := by
    rcases ht with rfl | rfl <;> rfl
  simp only [ms_cell, e1]
  rw [if_pos ⟨ht, h4, hin⟩, hr]
  rfl
theorem mw_sA {n : Nat} {j : Int32} {v : Int32} {u : Unit} (hf : mv_find pc code = some (.iastore, 1, x)) (h4 : 4 ≤ a) (he : ms_lay[a - 4]? = some (.inl (0, n))) (hp : pc + 1 = pc1) (h : sA a n j v S = some (u, S1)) (kk : mw d code rt pc1 lo st (ms_mk L xs S1) r hE) : mw d code rt pc lo (.int v :: .int j :: .ref a :: st) (ms_mk L xs S) r hE := by
  unfold sA at h
  split at h
  case isFalse => cases h
  rename_i hin
  cases h
  refine mw_heap hf ?_ hp kk
  show mv_put1 (mv_ias v j a (ms_mk L xs S)) st = _
  unfold mv_ias
  rw [show (ms_mk L xs S)[a]? = some (.inl (0, n, .inl (ms_A S a))) from ms_get h4 he]
  show mv_put1 (if (0 : Nat) = 0 ∧ 4 ≤ a ∧ mv_in j n then some ((ms_mk L xs S).set a (.inl (0, n, .inl (mv_up (ms_A S a) j.toNatClampNeg v)))) else none) st = _
  rw [if_pos ⟨rfl, h4, hin⟩]
  have e3 : ms_A (ms_setA S a j.toNatClampNeg v) a = mv_up (ms_A S a) j.toNatClampNeg v := ms_up_at
  rw [show (.inl (0, n, .inl (mv_up (ms_A S a) j.toNatClampNeg v)) : mv_E) = ms_cell (ms_setA S a j.toNatClampNeg v) a (.inl (0, n)) from by rw [← e3]; rfl, ms_set h4 he (fun b e hb => ms_c_setA hb)]
  rfl
theorem mw_sB {n : Nat} {j : Int32} {v : Int32} {u : Unit} (hf : mv_find pc code = some (.bastore, 1, x)) (h4 : 4 ≤ a) (he : ms_lay[a - 4]? = some (.inl (3, n))) (hp : pc + 1 = pc1) (h : sB a n j v S = some (u, S1)) (kk : mw d code rt pc1 lo st (ms_mk L xs S1) r hE) : mw d code rt pc lo (.int v :: .int j :: .ref a :: st) (ms_mk L xs S) r hE := by
  unfold sB at h
  split at h
  case isFalse => cases h
  rename_i hin
  cases h
  refine mw_heap hf ?_ hp kk
  show mv_put1 (mv_bas v j a (ms_mk L xs S)) st = _
  unfold mv_bas
  rw [show (ms_mk L xs S)[a]? = some (.inl (3, n, .inl (ms_A S a))) from ms_get h4 he]
  show mv_put1 (if ((3 : Nat) = 2 ∨ (3 : Nat) = 3) ∧ 4 ≤ a ∧ mv_in j n then some ((ms_mk L xs S).set a (.inl (3, n, .inl (mv_up (ms_A S a) j.toNatClampNeg (vp_nar .boolean v))))) else none) st = _
  rw [if_pos ⟨Or.inr rfl, h4, hin⟩]
  have e3 : ms_A (ms_setA S a j.toNatClampNeg (vp_nar .boolean v)) a = mv_up (ms_A S a) j.toNatClampNeg (vp_nar .boolean v) := ms_up_at
  rw [show (.inl (3, n, .inl (mv_up (ms_A S a) j.toNatClampNeg (vp_nar .boolean v))) : mv_E) = ms_cell (ms_setA S a j.toNatClampNeg (vp_nar .boolean v)) a (.inl (3, n)) from by rw [← e3]; rfl, ms_set h4 he (fun b e hb => ms_c_setA hb)]
  rfl
theorem mw_sY {n : Nat} {j : Int32} {v : Int32} {u : Unit} (hf : mv_find pc code = some (.bastore, 1, x)) (h4 : 4 ≤ a) (he : ms_lay[a - 4]? = some (.inl (2, n))) (hp : pc + 1 = pc1) (h : sY a n j v S = some (u, S1)) (kk : mw d code rt pc1 lo st (ms_mk L xs S1) r hE) : mw d code rt pc lo (.int v :: .int j :: .ref a :: st) (ms_mk L xs S) r hE := by
  unfold sY at h
  split at h
  case isFalse => cases h
  rename_i hin
  cases h
  refine mw_heap hf ?_ hp kk
  show mv_put1 (mv_bas v j a (ms_mk L xs S)) st = _
  unfold mv_bas
  rw [show (ms_mk L xs S)[a]? = some (.inl (2, n, .inl (ms_A S a))) from ms_get h4 he]
  show mv_put1 (if ((2 : Nat) = 2 ∨ (2 : Nat) = 3) ∧ 4 ≤ a ∧ mv_in j n then some ((ms_mk L xs S).set a (.inl (2, n, .inl (mv_up (ms_A S a) j.toNatClampNeg (vp_nar .byte v))))) else none) st = _
  rw [if_pos ⟨Or.inl rfl, h4, hin⟩]
  have e3 : ms_A (ms_setA S a j.toNatClampNeg (vp_nar .byte v)) a = mv_up (ms_A S a) j.toNatClampNeg (vp_nar .byte v) := ms_up_at
  rw [show (.inl (2, n, .inl (mv_up (ms_A S a) j.toNatClampNeg (vp_nar .byte v))) : mv_E) = ms_cell (ms_setA S a j.toNatClampNeg (vp_nar .byte v)) a (.inl (2, n)) from by rw [← e3]; rfl, ms_set h4 he (fun b e hb => ms_c_setA hb)]
  rfl
theorem mw_sL {n : Nat} {j : Int32} {v : Int64} {u : Unit} (hf : mv_find pc code = some (.lastore, 1, x)) (h4 : 4 ≤ a) (he : ms_lay[a - 4]? = some (.inl (1, n))) (hp : pc + 1 = pc1) (h : sL a n j v S = some (u, S1)) (kk : mw d code rt pc1 lo st (ms_mk L xs S1) r hE) : mw d code rt pc lo (.long v :: .int j :: .ref a :: st) (ms_mk L xs S) r hE := by
  unfold sL at h
  split at h
  case isFalse => cases h
  rename_i hin
  cases h
  refine mw_heap hf ?_ hp kk
  show mv_put1 (mv_las v j a (ms_mk L xs S)) st = _
  unfold mv_las
  rw [show (ms_mk L xs S)[a]? = some (.inl (1, n, .inr (.inl (ms_L S a)))) from ms_get h4 he]
  show mv_put1 (if (1 : Nat) = 1 ∧ 4 ≤ a ∧ mv_in j n then some ((ms_mk L xs S).set a (.inl (1, n, .inr (.inl (mv_up (ms_L S a) j.toNatClampNeg v))))) else none) st = _
  rw [if_pos ⟨rfl, h4, hin⟩]
  have e3 : ms_L (ms_setL S a j.toNatClampNeg v) a = mv_up (ms_L S a) j.toNatClampNeg v := ms_up_at
  rw [show (.inl (1, n, .inr (.inl (mv_up (ms_L S a) j.toNatClampNeg v))) : mv_E) = ms_cell (ms_setL S a j.toNatClampNeg v) a (.inl (1, n)) from by rw [← e3]; rfl, ms_set h4 he (fun b e hb => ms_c_setL hb)]
  rfl
theorem mw_len {n t : Nat} (hf : mv_find pc code = some (.arraylength, 1, x)) (h4 : 4 ≤ a) (he : ms_lay[a - 4]? = some (.inl (t, n))) (hp : pc + 1 = pc1) (kk : mw d code rt pc1 lo (.int (Int32.ofNat n) :: st) (ms_mk L xs S) r hE) : mw d code rt pc lo (.ref a :: st) (ms_mk L xs S) r hE := by
  refine mw_heap hf ?_ hp kk
  show mv_psh1 (mv_len a (ms_mk L xs S)) st _ = _
  unfold mv_len
  rw [ms_get h4 he]
  have ht : t < 6 := by
    have h := List.all_eq_true.mp ms_lay_ok _ (List.mem_of_getElem? he)
    simpa using h
  simp only [ms_cell]
  rw [if_pos ⟨ht, Or.inr h4⟩]
  rfl
theorem mw_lX {j v : Int32} (hf : mv_find pc code = some (.iaload, 1, x)) (hp : pc + 1 = pc1) (h : lX L xs j S = some (v, S1)) (kk : mw d code rt pc1 lo (.int v :: st) (ms_mk L xs S1) r hE) : mw d code rt pc lo (.int j :: .ref 0 :: st) (ms_mk L xs S) r hE := by
  unfold lX at h
  split at h
  case isFalse => cases h
  rename_i hin
  cases h
  refine mw_heap hf ?_ hp kk
  show mv_psh1 (mv_ial j 0 (ms_mk L xs S)) st _ = _
  unfold mv_ial
  rw [show (ms_mk L xs S)[0]? = some (.inl (0, L, .inl xs)) from rfl]
  show mv_psh1 (if (0 : Nat) = 0 ∧ ((0 : Nat) = 0 ∨ 4 ≤ 0) ∧ mv_in j L then some (.int (xs j.toNatClampNeg)) else none) st _ = _
  rw [if_pos ⟨rfl, Or.inl rfl, hin⟩]
  rfl
theorem mw_lenX (hf : mv_find pc code = some (.arraylength, 1, x)) (hp : pc + 1 = pc1) (kk : mw d code rt pc1 lo (.int (Int32.ofNat L) :: st) (ms_mk L xs S) r hE) : mw d code rt pc lo (.ref 0 :: st) (ms_mk L xs S) r hE := by
  refine mw_heap hf ?_ hp kk
  rfl
theorem mw_div {y z v : Int32} (hf : mv_find pc code = some (.idiv, 1, x)) (hp : pc + 1 = pc1) (h : mdiv y z S = some (v, S1)) (kk : mw d code rt pc1 lo (.int v :: st) (ms_mk L xs S1) r hE) : mw d code rt pc lo (.int z :: .int y :: st) (ms_mk L xs S) r hE := by
  unfold mdiv at h
  split at h
  · cases h
  · rename_i hz
    cases h
    refine mw_stk hf ?_ hp kk
    simp only [mv_stk, mv_bin, if_neg hz]
theorem mw_rem {y z v : Int32} (hf : mv_find pc code = some (.irem, 1, x)) (hp : pc + 1 = pc1) (h : mrem y z S = some (v, S1)) (kk : mw d code rt pc1 lo (.int v :: st) (ms_mk L xs S1) r hE) : mw d code rt pc lo (.int z :: .int y :: st) (ms_mk L xs S) r hE := by
  unfold mrem at h
  split at h
  · cases h
  · rename_i hz
    cases h
    refine mw_stk hf ?_ hp kk
    simp only [mv_stk, mv_bin, if_neg hz]
/-- a call's arguments on the layout -/
theorem ms_recv (h4 : 4 ≤ a) (he : ms_lay[a - 4]? = some (.inr (ci, fs))) {as : List Value} : mv_recv ci (.ref a :: as) (ms_mk L xs S) = true := by
  show (match (ms_mk L xs S)[a]? with | some (.inr (c, _)) => decide (c = ci ∧ 4 ≤ a) | _ => false) = true
  rw [ms_get h4 he]
  simp [ms_cell, h4]
theorem ms_argV {j nl na : Nat} {y : MethodName} {b : ByteArray} {rt2 : Option FieldType} {cd : mv_Cd} {as rest : List Value} {kd : Nat} (hm : mv_mc[j]? = some ((y, b, nl, rt2, ci, na, kd), cd)) (h4 : 4 ≤ a) (he : ms_lay[a - 4]? = some (.inr (ci, fs))) (hs : st = (Value.ref a :: as).reverse ++ rest) (hn : as.length + 1 = na) (h8 : (rest.map fun v => v.category).sum ≤ 8) : mv_arg kd j st (ms_mk L xs S) = some (.ref a :: as, rest) := by
  subst hs
  subst hn
  have e1 : ((Value.ref a :: as).reverse ++ rest).take (as.length + 1) = (Value.ref a :: as).reverse := by rw [List.take_append_of_le_length (by simp), List.take_of_length_le (by simp)]
  have e2 : ((Value.ref a :: as).reverse ++ rest).drop (as.length + 1) = rest := by rw [List.drop_append_of_le_length (by simp), List.drop_of_length_le (by simp)]; rfl
  simp only [mv_arg, hm, e1, e2, List.reverse_reverse]
  rw [if_pos (by exact ⟨trivial, by simp, h8, Or.inr (ms_recv h4 he)⟩)]
theorem ms_argS {j nl na c2 : Nat} {y : MethodName} {b : ByteArray} {rt2 : Option FieldType} {cd : mv_Cd} {as rest : List Value} {h : mv_H} (hm : mv_mc[j]? = some ((y, b, nl, rt2, c2, na, 0), cd)) (hs : st = as.reverse ++ rest) (hn : as.length = na) (h8 : (rest.map fun v => v.category).sum ≤ 8) : mv_arg 0 j st h = some (as, rest) := by
  subst hs
  subst hn
  have e1 : (as.reverse ++ rest).take as.length = as.reverse := by rw [List.take_append_of_le_length (by simp), List.take_of_length_le (by simp)]
  have e2 : (as.reverse ++ rest).drop as.length = rest := by rw [List.drop_append_of_le_length (by simp), List.drop_of_length_le (by simp)]; rfl
  simp only [mv_arg, hm, e1, e2, List.reverse_reverse]
  rw [if_pos (by exact ⟨trivial, by simp, h8, Or.inl trivial⟩)]
end MSR
