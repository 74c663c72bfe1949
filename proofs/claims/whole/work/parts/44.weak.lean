/-! fewer locals known: the same run; joins -/
def mw_le : mv_L → mv_L → Prop
  | [], [] => True
  | none :: l, _ :: l2 => mw_le l l2
  | some v :: l, w :: l2 => w = some v ∧ mw_le l l2
  | _, _ => False
theorem mw_le_len : ∀ {l l2 : mv_L}, mw_le l l2 → l.length = l2.length := by
  intro l
  induction l with
  | nil => intro l2 h; cases l2 with
    | nil => rfl
    | cons a l2 => exact h.elim
  | cons x l ih => intro l2 h; cases l2 with
    | nil => cases x <;> exact h.elim
    | cons y l2 =>
      cases x with
      | none => simp [ih (l2 := l2) h]
      | some v => simp [ih (l2 := l2) h.2]
theorem mw_le_get : ∀ {l l2 : mv_L}, mw_le l l2 → ∀ (i : Nat) (v : Value), mv_get l i = some v → mv_get l2 i = some v := by
  intro l
  induction l with
  | nil => intro l2 h i v hv; simp [mv_get] at hv
  | cons x l ih => intro l2 h i v hv; cases l2 with
    | nil => cases x <;> exact h.elim
    | cons y l2 =>
      cases x with
      | none =>
        cases i with
        | zero => simp [mv_get] at hv
        | succ i => exact ih (l2 := l2) h i v hv
      | some w =>
        cases i with
        | zero =>
          obtain ⟨rfl, -⟩ := h
          exact hv
        | succ i => exact ih (l2 := l2) h.2 i v hv
/-- the same, by what can be read -/
def mw_lg (l l2 : mv_L) : Prop := l.length = l2.length ∧ ∀ (i : Nat) (v : Value), mv_get l i = some v → mv_get l2 i = some v
theorem mw_lg_clr {l l2 : mv_L} {i : Nat} (h : mw_lg l l2) : ∀ (j : Nat) (v : Value), mv_get (mv_clr l i) j = some v → mv_get (mv_clr l2 i) j = some v := by
  intro j v hj
  obtain ⟨h1, h2⟩ := mv_get_clr hj
  have h3 := h.2 j v h1
  unfold mv_clr
  split
  · exact h3
  · rename_i k
    split
    · rename_i w hw
      split
      · rename_i hc
        rw [mv_get_set]
        by_cases hk : k = j
        · subst hk
          rw [h3] at hw
          cases hw
          exact absurd ⟨rfl, hc⟩ h2
        · rw [if_neg hk]
          exact h3
      · exact h3
    · exact h3
theorem mw_lg_st1 {l l2 : mv_L} {i : Nat} {v : Value} (h : mw_lg l l2) : mw_lg (mv_st1 l i v) (mv_st1 l2 i v) := by
  refine ⟨by simp [mv_st1, mv_clr_len, h.1], fun j w hj => ?_⟩
  unfold mv_st1 at hj ⊢
  rw [mv_get_set, mv_clr_len] at hj ⊢
  by_cases hij : i = j
  · rw [if_pos hij] at hj ⊢
    rw [← h.1]
    exact hj
  · rw [if_neg hij] at hj ⊢
    exact mw_lg_clr h j w hj
theorem mw_lg_st2 {l l2 : mv_L} {i : Nat} {v : Value} (h : mw_lg l l2) : mw_lg (mv_st2 l i v) (mv_st2 l2 i v) := by
  refine ⟨by simp [mv_st2, mv_clr_len, h.1], fun j w hj => ?_⟩
  unfold mv_st2 at hj ⊢
  rw [mv_get_set, List.length_set, mv_clr_len] at hj ⊢
  by_cases hij : i = j
  · rw [if_pos hij] at hj ⊢
    rw [← h.1]
    exact hj
  · rw [if_neg hij, mv_get_set, mv_clr_len] at hj ⊢
    by_cases hij2 : i + 1 = j
    · rw [if_pos hij2] at hj
      split at hj <;> cases hj
    · rw [if_neg hij2] at hj ⊢
      exact mw_lg_clr h j w hj
theorem mw_lg_psh {l l2 : mv_L} {ins : ClassFile.Instr} {x : Nat} {v : Value} (h : mw_lg l l2) (hv : mv_psh ins x l = some v) : mv_psh ins x l2 = some v := by
  have gi : ∀ (i : Nat) (v : Value), mv_intL l i = some v → mv_intL l2 i = some v := fun i v q => by
    obtain ⟨y, rfl, hy⟩ := mv_intL_of q
    simp only [mv_intL, h.2 _ _ hy]
  have gl : ∀ (i : Nat) (v : Value), mv_longL l i = some v → mv_longL l2 i = some v := fun i v q => by
    obtain ⟨y, rfl, hy⟩ := mv_longL_of q
    simp only [mv_longL, h.2 _ _ hy]
  have gr : ∀ (i : Nat) (v : Value), mv_refL l i = some v → mv_refL l2 i = some v := fun i v q => by
    obtain ⟨y, rfl, hy⟩ := mv_refL_of q
    simp only [mv_refL, h.2 _ _ hy]
  unfold mv_psh at hv
  split at hv
  case h_14 => cases hv
  case h_8 => exact gi _ _ hv
  case h_9 => exact gi _ _ hv
  case h_10 => exact gl _ _ hv
  case h_11 => exact gl _ _ hv
  case h_12 => exact gr _ _ hv
  case h_13 => exact gr _ _ hv
  all_goals exact hv
theorem mw_lg_sto {l l2 lo1 : mv_L} {ins : ClassFile.Instr} {st st1 : List Value} (h : mw_lg l l2) (hv : mv_sto ins l st = some (lo1, st1)) : ∃ lo2, mv_sto ins l2 st = some (lo2, st1) ∧ mw_lg lo1 lo2 := by
  unfold mv_sto at hv
  split at hv
  case h_8 => cases hv
  case h_7 =>
    rename_i i n
    split at hv
    · rename_i v hg
      cases hv
      exact ⟨_, by simp only [mv_sto, h.2 _ _ hg], mw_lg_st1 h⟩
    · cases hv
  case h_1 =>
    unfold mv_stI at hv
    split at hv
    · split at hv
      · rename_i hi
        cases hv
        exact ⟨_, by simp only [mv_sto, mv_stI]; rw [if_pos (by rw [← h.1]; exact hi)], mw_lg_st1 h⟩
      · cases hv
    · cases hv
  case h_2 =>
    unfold mv_stI at hv
    split at hv
    · split at hv
      · rename_i hi
        cases hv
        exact ⟨_, by simp only [mv_sto, mv_stI]; rw [if_pos (by rw [← h.1]; exact hi)], mw_lg_st1 h⟩
      · cases hv
    · cases hv
  case h_3 =>
    unfold mv_stL at hv
    split at hv
    · split at hv
      · rename_i hi
        cases hv
        exact ⟨_, by simp only [mv_sto, mv_stL]; rw [if_pos (by rw [← h.1]; exact hi)], mw_lg_st2 h⟩
      · cases hv
    · cases hv
  case h_4 =>
    unfold mv_stL at hv
    split at hv
    · split at hv
      · rename_i hi
        cases hv
        exact ⟨_, by simp only [mv_sto, mv_stL]; rw [if_pos (by rw [← h.1]; exact hi)], mw_lg_st2 h⟩
      · cases hv
    · cases hv
  case h_5 =>
    unfold mv_stA at hv
    split at hv
    · split at hv
      · rename_i hi
        cases hv
        exact ⟨_, by simp only [mv_sto, mv_stA]; rw [if_pos (by rw [← h.1]; exact hi)], mw_lg_st1 h⟩
      · cases hv
    · cases hv
  case h_6 =>
    unfold mv_stA at hv
    split at hv
    · split at hv
      · rename_i hi
        cases hv
        exact ⟨_, by simp only [mv_sto, mv_stA]; rw [if_pos (by rw [← h.1]; exact hi)], mw_lg_st1 h⟩
      · cases hv
    · cases hv
theorem mr_weak {call : mv_Call} {code : mv_Cd} {rt : Option FieldType} {r : Option Value} {hE : mv_H} : ∀ (n pc : Nat) (l l2 : mv_L) (st : List Value) (h : mv_H), mw_lg l l2 → mv_run call code rt n pc l st h = some (r, hE) → mv_run call code rt n pc l2 st h = some (r, hE) := by
  intro n
  induction n with
  | zero => intro pc l l2 st h _ hr; cases hr
  | succ n ih =>
    intro pc l l2 st h hl hr
    obtain ⟨ins, len, x, hf, hq⟩ := mv_run_step hr
    rcases hq with ⟨v, hv, hr⟩ | ⟨lo1, st1, hv, hr⟩ | ⟨st1, hv, hr⟩ | ⟨st1, h1, hv, hr⟩ | ⟨b, t, st1, hv, hr⟩ | ⟨t, st1, hv, hr⟩ | ⟨hv, rfl⟩ | ⟨kd, st1, h1, hi, hv, hr⟩
    · rw [mr_psh hf (mw_lg_psh hl hv)]; exact ih _ _ _ _ _ hl hr
    · obtain ⟨lo2, h2, h3⟩ := mw_lg_sto hl hv
      rw [mr_sto hf h2]; exact ih _ _ _ _ _ h3 hr
    · rw [mr_stk hf hv]; exact ih _ _ _ _ _ hl hr
    · rw [mr_heap hf hv]; exact ih _ _ _ _ _ hl hr
    · rw [mr_br hf hv]; exact ih _ _ _ _ _ hl hr
    · rw [mr_jmp hf hv]; exact ih _ _ _ _ _ hl hr
    · rw [mr_ret hf hv]
    · rw [mr_cll hf hi hv]; exact ih _ _ _ _ _ hl hr
theorem mw_weak {d pc : Nat} {code : mv_Cd} {rt : Option FieldType} {l l2 : mv_L} {st : List Value} {h hE : mv_H} {r : Option Value} (k : mw d code rt pc l st h r hE) (hl : mw_le l l2) : mw d code rt pc l2 st h r hE := by
  obtain ⟨N, n, k⟩ := k
  exact ⟨N, n, mr_weak n pc l l2 st h ⟨mw_le_len hl, mw_le_get hl⟩ k⟩
/-- a join: its code once, under a name -/
def mlet {α β : Type} (b : α) (k : α → β) : β := k b
theorem mlet_of {α β : Type} {b : α} {k : α → mM β} {S : ms_S} {q : β × ms_S} (h : mlet b k S = some q) : ∃ J, J = b ∧ k J S = some q := ⟨b, rfl, h⟩
def mretZ (v : Int32) : mM Int32 := fun S => if v = 0 ∨ v = 1 then some (v, S) else none
section MWS
variable {d : Nat} {code : mv_Cd} {pc x : Nat} {lo : mv_L} {h : mv_H}
theorem mw_retI {v : Int32} (hf : mv_find pc code = some (.ireturn, 1, x)) : mw d code (some .int) pc lo [.int v] h (some (.int v)) h := mw_ret hf (by simp [mv_ret, mv_fit])
theorem mw_retZ {v w : Int32} {S S1 : ms_S} {L : Nat} {xs : Nat → Int32} (hf : mv_find pc code = some (.ireturn, 1, x)) (hq : mretZ v S = some (w, S1)) : mw d code (some .boolean) pc lo [.int v] (ms_mk L xs S) (some (.int w)) (ms_mk L xs S1) := by
  unfold mretZ at hq
  split at hq
  · rename_i hv
    cases hq
    exact mw_ret hf (by simp [mv_ret, mv_fit, hv])
  · cases hq
theorem mw_retJ {v : Int64} (hf : mv_find pc code = some (.lreturn, 1, x)) : mw d code (some .long) pc lo [.long v] h (some (.long v)) h := mw_ret hf rfl
theorem mw_retV (hf : mv_find pc code = some (.return_, 1, x)) : mw d code none pc lo [] h none h := mw_ret hf rfl
end MWS
