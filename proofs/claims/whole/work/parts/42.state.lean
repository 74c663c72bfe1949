/-! a typed state: what the cells of the layout hold -/
/-- int fields, long fields, references that change, int arrays, long arrays, arrays of references: by address and place -/
abbrev ms_S : Type := (Nat → Nat → Int32) × (Nat → Nat → Int64) × (Nat → Nat → Option Nat) × (Nat → Nat → Int32) × (Nat → Nat → Int64) × (Nat → Nat → Option Nat)
def ms_I (S : ms_S) : Nat → Nat → Int32 := S.1
def ms_J (S : ms_S) : Nat → Nat → Int64 := S.2.1
def ms_R (S : ms_S) : Nat → Nat → Option Nat := S.2.2.1
def ms_A (S : ms_S) : Nat → Nat → Int32 := S.2.2.2.1
def ms_L (S : ms_S) : Nat → Nat → Int64 := S.2.2.2.2.1
def ms_Q (S : ms_S) : Nat → Nat → Option Nat := S.2.2.2.2.2
def ms_up {α : Type} (f : Nat → Nat → α) (a k : Nat) (v : α) : Nat → Nat → α := fun a1 k1 => if a1 = a ∧ k1 = k then v else f a1 k1
def ms_setI (S : ms_S) (a k : Nat) (v : Int32) : ms_S := (ms_up S.1 a k v, S.2)
def ms_setJ (S : ms_S) (a k : Nat) (v : Int64) : ms_S := (S.1, ms_up S.2.1 a k v, S.2.2)
def ms_setR (S : ms_S) (a k : Nat) (v : Option Nat) : ms_S := (S.1, S.2.1, ms_up S.2.2.1 a k v, S.2.2.2)
def ms_setA (S : ms_S) (a k : Nat) (v : Int32) : ms_S := (S.1, S.2.1, S.2.2.1, ms_up S.2.2.2.1 a k v, S.2.2.2.2)
def ms_setL (S : ms_S) (a k : Nat) (v : Int64) : ms_S := (S.1, S.2.1, S.2.2.1, S.2.2.2.1, ms_up S.2.2.2.2.1 a k v, S.2.2.2.2.2)
def ms_setQ (S : ms_S) (a k : Nat) (v : Option Nat) : ms_S := (S.1, S.2.1, S.2.2.1, S.2.2.2.1, S.2.2.2.2.1, ms_up S.2.2.2.2.2 a k v)
def ms_fv (S : ms_S) (a k f : Nat) : Value := match f with
  | 0 => .int (ms_I S a k)
  | 1 => .long (ms_J S a k)
  | 2 => mv_val (ms_R S a k)
  | 3 => .int (ms_I S a k)
  | r + 4 => .ref r
def ms_ar (S : ms_S) (a t : Nat) : mv_A := if t = 1 then .inr (.inl (ms_L S a)) else if t < 4 then .inl (ms_A S a) else .inr (.inr (ms_Q S a))
def ms_cell (S : ms_S) (a : Nat) (e : ms_Lay) : mv_E := match e with
  | .inl (t, n) => .inl (t, n, ms_ar S a t)
  | .inr (ci, fs) => .inr (ci, fs.mapIdx fun k f => ms_fv S a k f)
def ms_mk (L : Nat) (xs : Nat → Int32) (S : ms_S) : mv_H := [.inl (0, L, .inl xs), .inr (99, []), .inr (99, []), .inr (99, [])] ++ ms_lay.mapIdx fun i e => ms_cell S (i + 4) e
section MSS
variable {L : Nat} {xs : Nat → Int32} {S S1 : ms_S} {a k : Nat} {e : ms_Lay}
theorem ms_get (h4 : 4 ≤ a) (he : ms_lay[a - 4]? = some e) : (ms_mk L xs S)[a]? = some (ms_cell S a e) := by
  unfold ms_mk
  rw [List.getElem?_append_right (by exact h4), List.getElem?_mapIdx, show a - [(.inl (0, L, .inl xs) : mv_E), .inr (99, []), .inr (99, []), .inr (99, [])].length = a - 4 from rfl, he]
  simp only [Option.map_some, show a - 4 + 4 = a by omega]
theorem ms_len : (ms_mk L xs S).length = 4 + ms_lay.length := by simp [ms_mk]; omega
/-- a cell set, where the states agree but at its address -/
theorem ms_set (h4 : 4 ≤ a) (he : ms_lay[a - 4]? = some e) (h : ∀ (b : Nat) (e : ms_Lay), b ≠ a → ms_cell S1 b e = ms_cell S b e) : (ms_mk L xs S).set a (ms_cell S1 a e) = ms_mk L xs S1 := by
  apply List.ext_getElem?
  intro i
  rw [List.getElem?_set]
  by_cases hi : a = i
  · subst hi
    have hl : a < (ms_mk L xs S).length := (List.getElem?_eq_some_iff.mp (ms_get (L := L) (xs := xs) (S := S) h4 he)).1
    rw [if_pos rfl, if_pos hl, ms_get h4 he]
  · rw [if_neg hi]
    unfold ms_mk
    by_cases hi4 : i < 4
    · rw [List.getElem?_append_left (by exact hi4), List.getElem?_append_left (by exact hi4)]
    · rw [List.getElem?_append_right (by exact Nat.not_lt.mp hi4), List.getElem?_append_right (by exact Nat.not_lt.mp hi4), List.getElem?_mapIdx, List.getElem?_mapIdx]
      cases hl : ms_lay[i - [(.inl (0, L, .inl xs) : mv_E), .inr (99, []), .inr (99, []), .inr (99, [])].length]? with
      | none => rfl
      | some e1 =>
        have e2 : i - [(.inl (0, L, .inl xs) : mv_E), .inr (99, []), .inr (99, []), .inr (99, [])].length + 4 = i := by show i - 4 + 4 = i; omega
        simp only [Option.map_some, e2]
        rw [h i e1 (fun q => hi q.symm)]
theorem ms_up_ne {α : Type} {f : Nat → Nat → α} {b : Nat} {v : α} (h : b ≠ a) : ms_up f a k v b = f b := by
  funext k1
  simp [ms_up, h]
theorem ms_up_at {α : Type} {f : Nat → Nat → α} {v : α} : ms_up f a k v a = mv_up (f a) k v := by
  funext k1
  simp [ms_up, mv_up]
/-- the layout's objects have as many fields as their classes, of the same types -/
def ms_kindOK (ty : FieldType) (f : Nat) : Bool := match ty, f with
  | .int, 0 => true
  | .long, 1 => true
  | .boolean, 3 => true
  | .object _, 2 => true
  | .object _, _ + 4 => true
  | .array _, 2 => true
  | .array _, _ + 4 => true
  | _, _ => false
theorem ms_lay_ok : ms_lay.all (fun e => match e with | .inl (t, _) => decide (t < 6) | .inr (ci, fs) => decide (fs.length = (mv_nf ci).length) && ((mv_nf ci).zip fs).all (fun q => ms_kindOK q.1.1 q.2)) = true := by decide +kernel
theorem ms_lay_obj {ci : Nat} {fs : List Nat} (he : ms_lay[a - 4]? = some (.inr (ci, fs))) : fs.length = (mv_nf ci).length ∧ ∀ (k f : Nat), fs[k]? = some f → ∃ q, (mv_nf ci)[k]? = some q ∧ ms_kindOK q.1 f = true := by
  have h := List.all_eq_true.mp ms_lay_ok _ (List.mem_of_getElem? he)
  simp only [Bool.and_eq_true, decide_eq_true_eq] at h
  refine ⟨h.1, fun k f hf => ?_⟩
  have hk : k < (mv_nf ci).length := by rw [← h.1]; exact (List.getElem?_eq_some_iff.mp hf).1
  refine ⟨(mv_nf ci)[k], List.getElem?_eq_getElem hk, ?_⟩
  have hz : ((mv_nf ci).zip fs)[k]? = some ((mv_nf ci)[k], f) := by rw [List.getElem?_zip_eq_some]; exact ⟨List.getElem?_eq_getElem hk, hf⟩
  exact List.all_eq_true.mp h.2 _ (List.mem_of_getElem? hz)
theorem ms_gf {ci x f : Nat} {fs : List Nat} (h4 : 4 ≤ a) (he : ms_lay[a - 4]? = some (.inr (ci, fs))) (hc : x / 256 = ci) (hf : fs[x % 256]? = some f) : mv_gf x a (ms_mk L xs S) = some (ms_fv S a (x % 256) f) := by
  unfold mv_gf
  rw [ms_get h4 he]
  have hl : x % 256 < (mv_nf ci).length := by rw [← (ms_lay_obj he).1]; exact (List.getElem?_eq_some_iff.mp hf).1
  simp only [ms_cell]
  rw [if_pos ⟨hc.symm, h4, hl⟩, List.getElem?_mapIdx, hf]
  rfl
theorem ms_pf {ci x f : Nat} {fs : List Nat} {v : Value} (h4 : 4 ≤ a) (he : ms_lay[a - 4]? = some (.inr (ci, fs))) (hc : x / 256 = ci) (hf : fs[x % 256]? = some f) (hv : ∀ ty, ms_kindOK ty f = true → mv_fit ty v = true) (h1 : ∀ (b : Nat) (e : ms_Lay), b ≠ a → ms_cell S1 b e = ms_cell S b e) (h2 : ms_fv S1 a (x % 256) f = v) (h3 : ∀ (k g : Nat), k ≠ x % 256 → ms_fv S1 a k g = ms_fv S a k g) : mv_pf x v a (ms_mk L xs S) = some (ms_mk L xs S1) := by
  unfold mv_pf
  rw [ms_get h4 he]
  obtain ⟨hlen, hk⟩ := ms_lay_obj he
  obtain ⟨⟨ty, fin⟩, hq, hok⟩ := hk _ _ hf
  have hl : x % 256 < fs.length := (List.getElem?_eq_some_iff.mp hf).1
  simp only [ms_cell, hq]
  rw [if_pos ⟨hc.symm, h4, by simpa using hl, hv ty hok⟩]
  congr 1
  rw [← ms_set (S := S) (S1 := S1) h4 he h1]
  congr 1
  simp only [ms_cell]
  congr 2
  apply List.ext_getElem?
  intro i
  rw [List.getElem?_set, List.length_mapIdx, List.getElem?_mapIdx, List.getElem?_mapIdx]
  by_cases hi : x % 256 = i
  · subst hi
    rw [if_pos rfl, if_pos hl, hf]
    simp only [Option.map_some, h2]
  · rw [if_neg hi]
    cases hg : fs[i]? with
    | none => rfl
    | some g => simp only [Option.map_some, h3 i g (fun q => hi q.symm)]
end MSS
