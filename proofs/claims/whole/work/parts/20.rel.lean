/-! the small machine's words in the real one's: addresses, values, cells, locals -/
def mv_ad (base : Nat) (oa : Nat → Nat) (a : Nat) : Nat := if a < 4 then oa a else base + (a - 4)
def mv_tr (ad : Nat → Nat) (v : Value) : Value := match v with
  | .ref a => .ref (ad a)
  | v => v
def mv_trA (ad : Nat → Nat) (c : mv_A) : (Nat → Int32) ⊕ (Nat → Int64) ⊕ (Nat → UInt32) ⊕ (Nat → UInt64) ⊕ (Nat → Option Nat) := match c with
  | .inl f => .inl f
  | .inr (.inl f) => .inr (.inl f)
  | .inr (.inr f) => .inr (.inr (.inr (.inr (fun j => (f j).map ad))))
def mv_trE (ad : Nat → Nat) (cA : Nat → ClassId) (e : mv_E) : va_E := match e with
  | .inl (t, n, c) => .inl (cA t, n, mv_trA ad c)
  | .inr (ci, fs) => .inr (ci, fs.map (mv_tr ad))
def mv_ws (base : Nat) (ad : Nat → Nat) (cA : Nat → ClassId) (h : mv_H) : va_W := (h.drop 4).mapIdx fun i e => (base + i, mv_trE ad cA e)
theorem mv_tr_cat (ad : Nat → Nat) (v : Value) : (mv_tr ad v).category = v.category := by cases v <;> rfl
theorem mv_tr_val (ad : Nat → Nat) (r : Option Nat) : mv_tr ad (mv_val r) = va_rf (r.map ad) := by cases r <;> rfl
section MVW
variable {base : Nat} {oa : Nat → Nat} {cA : Nat → ClassId} {h : mv_H} {a : Nat} {e : mv_E}
theorem mv_ws_get (ha : 4 ≤ a) (he : h[a]? = some e) : (mv_ws base (mv_ad base oa) cA h)[a - 4]? = some (mv_ad base oa a, mv_trE (mv_ad base oa) cA e) := by
  unfold mv_ws
  rw [List.getElem?_mapIdx, List.getElem?_drop, show 4 + (a - 4) = a by omega, he]
  simp [mv_ad, show ¬ a < 4 by omega]
theorem mv_ws_len : (mv_ws base (mv_ad base oa) cA h).length = h.length - 4 := by simp [mv_ws]
theorem mv_ws_set (ha : 4 ≤ a) : (mv_ws base (mv_ad base oa) cA h).set (a - 4) (mv_ad base oa a, mv_trE (mv_ad base oa) cA e) = mv_ws base (mv_ad base oa) cA (h.set a e) := by
  apply List.ext_getElem?
  intro i
  rw [List.getElem?_set, mv_ws_len]
  unfold mv_ws
  rw [List.getElem?_mapIdx, List.getElem?_mapIdx, List.getElem?_drop, List.getElem?_drop, List.getElem?_set]
  by_cases hi : a - 4 = i
  · subst hi
    rw [if_pos rfl, if_pos (show a = 4 + (a - 4) by omega)]
    by_cases hl : a - 4 < h.length - 4
    · rw [if_pos hl, if_pos (show a < h.length by omega)]
      simp [mv_ad, show ¬ a < 4 by omega]
    · rw [if_neg hl, if_neg (show ¬ a < h.length by omega)]
      rfl
  · rw [if_neg hi, if_neg (show ¬ a = 4 + i by omega)]
theorem mv_ws_app (hl : 4 ≤ h.length) : mv_ws base (mv_ad base oa) cA h ++ [(mv_ad base oa h.length, mv_trE (mv_ad base oa) cA e)] = mv_ws base (mv_ad base oa) cA (h ++ [e]) := by
  unfold mv_ws
  rw [List.drop_append_of_le_length hl, List.mapIdx_append]
  simp [mv_ad, show ¬ h.length < 4 by omega]
theorem mv_ws_D : va_D (fun q => base ≤ q) (mv_ws base (mv_ad base oa) cA h) := by
  refine ⟨fun i j p q hi hj hpq => ?_, fun k q hk => ?_⟩
  · unfold mv_ws at hi hj
    rw [List.getElem?_mapIdx] at hi hj
    cases h1 : (List.drop 4 h)[i]? with
    | none => rw [h1] at hi; cases hi
    | some e1 =>
      cases h2 : (List.drop 4 h)[j]? with
      | none => rw [h2] at hj; cases hj
      | some e2 =>
        rw [h1] at hi
        rw [h2] at hj
        cases hi
        cases hj
        simp at hpq
        exact hpq
  · unfold mv_ws at hk
    rw [List.getElem?_mapIdx] at hk
    cases h1 : (List.drop 4 h)[k]? with
    | none => rw [h1] at hk; cases hk
    | some e1 =>
      rw [h1] at hk
      cases hk
      exact Nat.le_add_right _ _
end MVW
/-- the locals -/
def mv_lr (ad : Nat → Nat) (l : mv_L) (ls : Array Slot) : Prop := ls.size = l.length ∧ lv_wf ls ∧ ∀ (i : Nat) (v : Value), mv_get l i = some v → ls[i]? = some (.val (mv_tr ad v))
def mv_prs (ad : Nat → Nat) (l : mv_L) : List (Nat × Value) := (List.range l.length).filterMap fun i => (mv_get l i).map fun v => (i, mv_tr ad v)
section MVL
variable {ad : Nat → Nat} {l : mv_L} {ls : Array Slot} {i : Nat}
theorem mv_get_lt {v : Value} (h : mv_get l i = some v) : i < l.length := by
  unfold mv_get at h
  split at h
  · rename_i w hw
    exact (List.getElem?_eq_some_iff.mp hw).1
  · cases h
theorem mv_lr.has (h : mv_lr ad l ls) : lv_has ls l.length (mv_prs ad l) := by
  refine ⟨h.1, h.2.1, fun q hq => ?_⟩
  obtain ⟨i, -, hi⟩ := List.mem_filterMap.mp hq
  cases hg : mv_get l i with
  | none => rw [hg] at hi; cases hi
  | some v =>
    rw [hg] at hi
    cases hi
    exact h.2.2 i v hg
theorem mv_prs_mem {v : Value} (h : mv_get l i = some v) : (i, mv_tr ad v) ∈ mv_prs ad l :=
  List.mem_filterMap.mpr ⟨i, List.mem_range.mpr (mv_get_lt h), by rw [h]; rfl⟩
theorem mv_get_set {x : Option Value} {k : Nat} : mv_get (l.set k x) i = if k = i then (if k < l.length then x else none) else mv_get l i := by
  unfold mv_get
  rw [List.getElem?_set]
  by_cases hk : k = i
  · rw [if_pos hk, if_pos hk]
    by_cases hl : k < l.length
    · rw [if_pos hl, if_pos hl]
      cases x <;> rfl
    · rw [if_neg hl, if_neg hl]
  · rw [if_neg hk, if_neg hk]
theorem mv_clr_len : (mv_clr l i).length = l.length := by
  unfold mv_clr
  split
  · rfl
  · split
    · split <;> simp
    · rfl
theorem mv_get_clr {j : Nat} {w : Value} (h : mv_get (mv_clr l i) j = some w) : mv_get l j = some w ∧ ¬ (j + 1 = i ∧ w.category = 2) := by
  unfold mv_clr at h
  split at h
  · exact ⟨h, fun q => by omega⟩
  · rename_i k
    split at h
    · rename_i v hv
      split at h
      · rename_i hc
        rw [mv_get_set] at h
        by_cases hk : k = j
        · rw [if_pos hk] at h
          split at h <;> cases h
        · rw [if_neg hk] at h
          exact ⟨h, fun q => by omega⟩
      · rename_i hc
        refine ⟨h, fun q => ?_⟩
        have : k = j := by omega
        subst this
        rw [hv] at h
        cases h
        exact hc q.2
    · rename_i hv
      refine ⟨h, fun q => ?_⟩
      have : k = j := by omega
      subst this
      rw [hv] at h
      cases h
theorem mv_lr.st1 {v : Value} {ls' : Array Slot} (hi : i < l.length) (h : lv_has ls' l.length ((i, mv_tr ad v) :: (mv_prs ad l).filter (fun q => !(q.1 == i) && !(q.1 + 1 == i && q.2.category == 2)))) : mv_lr ad (mv_st1 l i v) ls' := by
  refine ⟨by rw [h.1]; simp [mv_st1, mv_clr_len], h.2.1, fun j w hw => ?_⟩
  unfold mv_st1 at hw
  rw [mv_get_set, mv_clr_len, if_pos hi] at hw
  by_cases hj : i = j
  · rw [if_pos hj] at hw
    cases hw
    subst hj
    exact h.2.2 _ List.mem_cons_self
  · rw [if_neg hj] at hw
    obtain ⟨h1, h2⟩ := mv_get_clr hw
    refine h.2.2 (j, mv_tr ad w) (List.mem_cons_of_mem _ (List.mem_filter.mpr ⟨mv_prs_mem h1, ?_⟩))
    rw [mv_tr_cat]
    by_cases hc : j + 1 = i
    · have : ¬ w.category = 2 := fun q => h2 ⟨hc, q⟩
      simp [Ne.symm hj, hc, this]
    · simp [Ne.symm hj, hc]
theorem mv_lr.st2 {v : Value} {ls' : Array Slot} (hi : i + 1 < l.length) (h : lv_has ls' l.length ((i, mv_tr ad v) :: (mv_prs ad l).filter (fun q => !(q.1 == i) && (!(q.1 == i + 1) && !(q.1 + 1 == i && q.2.category == 2))))) : mv_lr ad (mv_st2 l i v) ls' := by
  refine ⟨by rw [h.1]; simp [mv_st2, mv_clr_len], h.2.1, fun j w hw => ?_⟩
  unfold mv_st2 at hw
  rw [mv_get_set, List.length_set, mv_clr_len, if_pos (show i < l.length by omega)] at hw
  by_cases hj : i = j
  · rw [if_pos hj] at hw
    cases hw
    subst hj
    exact h.2.2 _ List.mem_cons_self
  · rw [if_neg hj, mv_get_set, mv_clr_len, if_pos hi] at hw
    by_cases hj2 : i + 1 = j
    · rw [if_pos hj2] at hw
      cases hw
    · rw [if_neg hj2] at hw
      obtain ⟨h1, h2⟩ := mv_get_clr hw
      refine h.2.2 (j, mv_tr ad w) (List.mem_cons_of_mem _ (List.mem_filter.mpr ⟨mv_prs_mem h1, ?_⟩))
      rw [mv_tr_cat]
      by_cases hc : j + 1 = i
      · have : ¬ w.category = 2 := fun q => h2 ⟨hc, q⟩
        simp [Ne.symm hj, Ne.symm hj2, hc, this]
      · simp [Ne.symm hj, Ne.symm hj2, hc]
end MVL
