/-! runs of the small machine, goal first: what a method does for all large fuels -/
section MWN
variable {ins : ClassFile.Instr} {x pc : Nat} {lo : mv_L} {st : List Value} {h : mv_H} {rt : Option FieldType}
theorem mw_n_sto {q : mv_L × List Value} (hq : mv_sto ins lo st = some q) : mv_psh ins x lo = none := by
  unfold mv_sto at hq
  split at hq <;> first | rfl | cases hq
theorem mw_n_stk {q : List Value} (hq : mv_stk ins st = some q) : mv_psh ins x lo = none ∧ mv_sto ins lo st = none := by
  unfold mv_stk at hq
  split at hq
  case h_10 =>
    split at hq
    · split at hq
      · rename_i hb
        unfold mv_bin at hb
        split at hb <;> first | exact ⟨rfl, rfl⟩ | cases hb
      · cases hq
    · split at hq
      · rename_i hb
        unfold mv_lbin at hb
        split at hb <;> first | exact ⟨rfl, rfl⟩ | cases hb
      · cases hq
    · cases hq
  all_goals exact ⟨rfl, rfl⟩
theorem mw_n_heap {q : List Value × mv_H} (hq : mv_heap ins x st h = some q) : mv_psh ins x lo = none ∧ mv_sto ins lo st = none ∧ mv_stk ins st = none := by
  unfold mv_heap at hq
  split at hq
  case h_15 => cases hq
  all_goals
    refine ⟨rfl, rfl, ?_⟩
    simp only [mv_stk, mv_bin, mv_lbin]
    split <;> rfl
theorem mw_n_br {q : Bool × Nat × List Value} (hq : mv_br ins pc st = some q) : mv_psh ins x lo = none ∧ mv_sto ins lo st = none ∧ mv_stk ins st = none ∧ mv_heap ins x st h = none := by
  unfold mv_br at hq
  split at hq
  case h_3 => cases hq
  all_goals
    refine ⟨rfl, rfl, ?_, rfl⟩
    simp only [mv_stk, mv_bin, mv_lbin]
    split <;> rfl
theorem mw_n_jmp {q : Nat × List Value} (hq : mv_jmp ins pc st = some q) : mv_psh ins x lo = none ∧ mv_sto ins lo st = none ∧ mv_stk ins st = none ∧ mv_heap ins x st h = none ∧ mv_br ins pc st = none := by
  unfold mv_jmp at hq
  split at hq
  · rename_i ho
    unfold mv_off at ho
    split at ho
    case h_4 => cases ho
    all_goals
      refine ⟨rfl, rfl, ?_, rfl, rfl⟩
      simp only [mv_stk, mv_bin, mv_lbin]
      split <;> rfl
  · cases hq
theorem mw_n_ret {q : Option Value} (hq : mv_ret ins rt st = some q) : mv_psh ins x lo = none ∧ mv_sto ins lo st = none ∧ mv_stk ins st = none ∧ mv_heap ins x st h = none ∧ mv_br ins pc st = none ∧ mv_jmp ins pc st = none := by
  unfold mv_ret at hq
  split at hq
  case h_4 => cases hq
  all_goals
    refine ⟨rfl, rfl, ?_, rfl, rfl, rfl⟩
    simp only [mv_stk, mv_bin, mv_lbin]
    split <;> rfl
theorem mw_n_inv {q : Nat} (hq : mv_inv ins = some q) : mv_psh ins x lo = none ∧ mv_sto ins lo st = none ∧ mv_stk ins st = none ∧ mv_heap ins x st h = none ∧ mv_br ins pc st = none ∧ mv_jmp ins pc st = none ∧ mv_ret ins rt st = none := by
  unfold mv_inv at hq
  split at hq
  case h_4 => cases hq
  all_goals
    refine ⟨rfl, rfl, ?_, rfl, rfl, rfl, rfl⟩
    simp only [mv_stk, mv_bin, mv_lbin]
    split <;> rfl
end MWN
section MWR
variable {call : mv_Call} {code : mv_Cd} {rt : Option FieldType} {n pc len x : Nat} {lo : mv_L} {st : List Value} {h : mv_H} {ins : ClassFile.Instr}
theorem mr_psh {v : Value} (hf : mv_find pc code = some (ins, len, x)) (hv : mv_psh ins x lo = some v) : mv_run call code rt (n + 1) pc lo st h = mv_run call code rt n (pc + len) lo (v :: st) h := by
  rw [mv_run, hf]; simp only [hv]
theorem mr_sto {lo1 : mv_L} {st1 : List Value} (hf : mv_find pc code = some (ins, len, x)) (hv : mv_sto ins lo st = some (lo1, st1)) : mv_run call code rt (n + 1) pc lo st h = mv_run call code rt n (pc + len) lo1 st1 h := by
  rw [mv_run, hf]; simp only [mw_n_sto hv, hv]
theorem mr_stk {st1 : List Value} (hf : mv_find pc code = some (ins, len, x)) (hv : mv_stk ins st = some st1) : mv_run call code rt (n + 1) pc lo st h = mv_run call code rt n (pc + len) lo st1 h := by
  obtain ⟨h1, h2⟩ := mw_n_stk (x := x) (lo := lo) hv
  rw [mv_run, hf]; simp only [h1, h2, hv]
theorem mr_heap {st1 : List Value} {h1 : mv_H} (hf : mv_find pc code = some (ins, len, x)) (hv : mv_heap ins x st h = some (st1, h1)) : mv_run call code rt (n + 1) pc lo st h = mv_run call code rt n (pc + len) lo st1 h1 := by
  obtain ⟨q1, q2, q3⟩ := mw_n_heap (lo := lo) hv
  rw [mv_run, hf]; simp only [q1, q2, q3, hv]
theorem mr_br {b : Bool} {t : Nat} {st1 : List Value} (hf : mv_find pc code = some (ins, len, x)) (hv : mv_br ins pc st = some (b, t, st1)) : mv_run call code rt (n + 1) pc lo st h = mv_run call code rt n (if b = true then t else pc + 3) lo st1 h := by
  obtain ⟨q1, q2, q3, q4⟩ := mw_n_br (x := x) (lo := lo) (h := h) hv
  rw [mv_run, hf]; simp only [q1, q2, q3, q4, hv]
  cases b <;> rfl
theorem mr_jmp {t : Nat} {st1 : List Value} (hf : mv_find pc code = some (ins, len, x)) (hv : mv_jmp ins pc st = some (t, st1)) : mv_run call code rt (n + 1) pc lo st h = mv_run call code rt n t lo st1 h := by
  obtain ⟨q1, q2, q3, q4, q5⟩ := mw_n_jmp (x := x) (lo := lo) (h := h) hv
  rw [mv_run, hf]; simp only [q1, q2, q3, q4, q5, hv]
theorem mr_ret {r : Option Value} (hf : mv_find pc code = some (ins, len, x)) (hv : mv_ret ins rt st = some r) : mv_run call code rt (n + 1) pc lo st h = some (r, h) := by
  obtain ⟨q1, q2, q3, q4, q5, q6⟩ := mw_n_ret (x := x) (lo := lo) (h := h) (pc := pc) hv
  rw [mv_run, hf]; simp only [q1, q2, q3, q4, q5, q6, hv]
theorem mr_cll {kd : Nat} {st1 : List Value} {h1 : mv_H} (hf : mv_find pc code = some (ins, len, x)) (hi : mv_inv ins = some kd) (hv : mv_cll call kd x st h = some (st1, h1)) : mv_run call code rt (n + 1) pc lo st h = mv_run call code rt n (pc + 3) lo st1 h1 := by
  obtain ⟨q1, q2, q3, q4, q5, q6, q7⟩ := mw_n_inv (x := x) (lo := lo) (h := h) (pc := pc) (st := st) (rt := rt) hi
  rw [mv_run, hf]; simp only [q1, q2, q3, q4, q5, q6, q7, hi, hv]
end MWR
/-- more fuel, deeper calls: the same answer -/
theorem mr_mono {c1 c2 : mv_Call} {code : mv_Cd} {rt : Option FieldType} (hc : ∀ (j : Nat) (as : List Value) (h : mv_H) (q : mv_R), c1 j as h = some q → c2 j as h = some q) {r : Option Value} {hE : mv_H} : ∀ (n n2 pc : Nat) (lo : mv_L) (st : List Value) (h : mv_H), n ≤ n2 → mv_run c1 code rt n pc lo st h = some (r, hE) → mv_run c2 code rt n2 pc lo st h = some (r, hE) := by
  intro n
  induction n with
  | zero => intro n2 pc lo st h _ hr; cases hr
  | succ n ih =>
    intro n2 pc lo st h hn hr
    obtain ⟨n2, rfl⟩ : ∃ k, n2 = k + 1 := ⟨n2 - 1, by omega⟩
    obtain ⟨ins, len, x, hf, hq⟩ := mv_run_step hr
    rcases hq with ⟨v, hv, hr⟩ | ⟨lo1, st1, hv, hr⟩ | ⟨st1, hv, hr⟩ | ⟨st1, h1, hv, hr⟩ | ⟨b, t, st1, hv, hr⟩ | ⟨t, st1, hv, hr⟩ | ⟨hv, rfl⟩ | ⟨kd, st1, h1, hi, hv, hr⟩
    · rw [mr_psh hf hv]; exact ih _ _ _ _ _ (by omega) hr
    · rw [mr_sto hf hv]; exact ih _ _ _ _ _ (by omega) hr
    · rw [mr_stk hf hv]; exact ih _ _ _ _ _ (by omega) hr
    · rw [mr_heap hf hv]; exact ih _ _ _ _ _ (by omega) hr
    · rw [mr_br hf hv]; exact ih _ _ _ _ _ (by omega) hr
    · rw [mr_jmp hf hv]; exact ih _ _ _ _ _ (by omega) hr
    · rw [mr_ret hf hv]
    · have hv2 : mv_cll c2 kd x st h = some (st1, h1) := by
        unfold mv_cll at hv ⊢
        split at hv
        · exact hv
        · split at hv
          · rename_i hj; rw [if_pos hj]; exact hv
          · rename_i hj
            rw [if_neg hj]
            split at hv
            · rename_i ha
              split at hv
              · rename_i hcl
                cases hv
                simp only [ha, hc _ _ _ _ hcl]
              · cases hv
            · cases hv
      rw [mr_cll hf hi hv2]; exact ih _ _ _ _ _ (by omega) hr
theorem mv_ex_mono : ∀ (d N N2 d2 : Nat) (j : Nat) (as : List Value) (h : mv_H) (q : mv_R), d ≤ d2 → N ≤ N2 → mv_ex N d j as h = some q → mv_ex N2 d2 j as h = some q := by
  intro d
  induction d with
  | zero => intro N N2 d2 j as h q _ _ hr; cases hr
  | succ d ih =>
    intro N N2 d2 j as h q hd hN hr
    obtain ⟨d2, rfl⟩ : ∃ k, d2 = k + 1 := ⟨d2 - 1, by omega⟩
    unfold mv_ex at hr ⊢
    split at hr
    · rename_i hm
      try simp only [hm]
      split at hr
      · rename_i hc
        rw [if_pos hc]
        exact mr_mono (fun j as h q hq => ih N N2 d2 j as h q (by omega) hN hq) _ _ _ _ _ _ hN hr
      · cases hr
    · cases hr
def mw_Does (d j : Nat) (as : List Value) (h : mv_H) (r : Option Value) (h1 : mv_H) : Prop := ∃ N, mv_ex N d j as h = some (r, h1)
theorem mw_Does.up {d d2 j : Nat} {as : List Value} {h h1 : mv_H} {r : Option Value} (hd : d ≤ d2) (k : mw_Does d j as h r h1) : mw_Does d2 j as h r h1 := by
  obtain ⟨N, hN⟩ := k
  exact ⟨N, mv_ex_mono d N N d2 j as h _ hd (Nat.le_refl _) hN⟩
def mw (d : Nat) (code : mv_Cd) (rt : Option FieldType) (pc : Nat) (lo : mv_L) (st : List Value) (h : mv_H) (r : Option Value) (h1 : mv_H) : Prop := ∃ N n, mv_run (mv_ex N d) code rt n pc lo st h = some (r, h1)
section MWW
variable {d : Nat} {code : mv_Cd} {rt : Option FieldType} {pc pc1 len x : Nat} {lo : mv_L} {st : List Value} {h hE : mv_H} {r : Option Value} {ins : ClassFile.Instr}
theorem mw_psh {v : Value} (hf : mv_find pc code = some (ins, len, x)) (hv : mv_psh ins x lo = some v) (hp : pc + len = pc1) (k : mw d code rt pc1 lo (v :: st) h r hE) : mw d code rt pc lo st h r hE := by
  obtain ⟨N, n, k⟩ := k
  subst hp
  exact ⟨N, n + 1, by rw [mr_psh hf hv]; exact k⟩
theorem mw_sto {lo1 : mv_L} {st1 : List Value} (hf : mv_find pc code = some (ins, len, x)) (hv : mv_sto ins lo st = some (lo1, st1)) (hp : pc + len = pc1) (k : mw d code rt pc1 lo1 st1 h r hE) : mw d code rt pc lo st h r hE := by
  obtain ⟨N, n, k⟩ := k
  subst hp
  exact ⟨N, n + 1, by rw [mr_sto hf hv]; exact k⟩
theorem mw_stk {st1 : List Value} (hf : mv_find pc code = some (ins, len, x)) (hv : mv_stk ins st = some st1) (hp : pc + len = pc1) (k : mw d code rt pc1 lo st1 h r hE) : mw d code rt pc lo st h r hE := by
  obtain ⟨N, n, k⟩ := k
  subst hp
  exact ⟨N, n + 1, by rw [mr_stk hf hv]; exact k⟩
theorem mw_heap {st1 : List Value} {h1 : mv_H} (hf : mv_find pc code = some (ins, len, x)) (hv : mv_heap ins x st h = some (st1, h1)) (hp : pc + len = pc1) (k : mw d code rt pc1 lo st1 h1 r hE) : mw d code rt pc lo st h r hE := by
  obtain ⟨N, n, k⟩ := k
  subst hp
  exact ⟨N, n + 1, by rw [mr_heap hf hv]; exact k⟩
theorem mw_jmp {st1 : List Value} (hf : mv_find pc code = some (ins, len, x)) (hv : mv_jmp ins pc st = some (pc1, st1)) (k : mw d code rt pc1 lo st1 h r hE) : mw d code rt pc lo st h r hE := by
  obtain ⟨N, n, k⟩ := k
  exact ⟨N, n + 1, by rw [mr_jmp hf hv]; exact k⟩
theorem mw_br {b : Bool} {t : Nat} {st1 : List Value} (hf : mv_find pc code = some (ins, len, x)) (hv : mv_br ins pc st = some (b, t, st1)) (hp : pc + 3 = pc1) (kt : b = true → mw d code rt t lo st1 h r hE) (kf : b = false → mw d code rt pc1 lo st1 h r hE) : mw d code rt pc lo st h r hE := by
  subst hp
  cases hb : b with
  | true =>
    obtain ⟨N, n, k⟩ := kt hb
    refine ⟨N, n + 1, ?_⟩
    rw [mr_br hf hv, if_pos hb]
    exact k
  | false =>
    obtain ⟨N, n, k⟩ := kf hb
    refine ⟨N, n + 1, ?_⟩
    rw [mr_br hf hv, if_neg (by rw [hb]; decide)]
    exact k
theorem mw_ret (hf : mv_find pc code = some (ins, len, x)) (hv : mv_ret ins rt st = some r) : mw d code rt pc lo st h r h := ⟨0, 1, mr_ret hf hv⟩
theorem mw_call {kd j : Nat} {as rest : List Value} {r1 : Option Value} {h2 : mv_H} (hf : mv_find pc code = some (ins, len, j + 1)) (hi : mv_inv ins = some kd) (hj : j < 1000) (ha : mv_arg kd j st h = some (as, rest)) (hd : mw_Does d j as h r1 h2) (hp : pc + 3 = pc1) (k : mw d code rt pc1 lo (r1.toList ++ rest) h2 r hE) : mw d code rt pc lo st h r hE := by
  obtain ⟨N1, k1⟩ := hd
  obtain ⟨N2, n, k2⟩ := k
  subst hp
  refine ⟨max N1 N2, n + 1, ?_⟩
  have h3 := mv_ex_mono d N1 (max N1 N2) d j as h _ (Nat.le_refl _) (Nat.le_max_left _ _) k1
  have hv : mv_cll (mv_ex (max N1 N2) d) kd (j + 1) st h = some (r1.toList ++ rest, h2) := by
    simp only [mv_cll, if_neg (show ¬ 1000 ≤ j by omega), ha, h3]
  rw [mr_cll hf hi hv]
  exact mr_mono (fun j as h q hq => mv_ex_mono d N2 (max N1 N2) d j as h q (Nat.le_refl _) (Nat.le_max_right _ _) hq) _ _ _ _ _ _ (Nat.le_refl _) k2
/-- String's, Math's, Object's: no frame of ours -/
theorem mw_nat {kd : Nat} {st1 : List Value} (hf : mv_find pc code = some (ins, len, x)) (hi : mv_inv ins = some kd) (hv : mv_cll (fun _ _ _ => none) kd x st h = some (st1, h)) (hp : pc + 3 = pc1) (k : mw d code rt pc1 lo st1 h r hE) : mw d code rt pc lo st h r hE := by
  obtain ⟨N, n, k⟩ := k
  subst hp
  refine ⟨N, n + 1, ?_⟩
  have hv2 : mv_cll (mv_ex N d) kd x st h = some (st1, h) := by
    unfold mv_cll at hv ⊢
    split at hv
    · exact hv
    · split at hv
      · rename_i hj; rw [if_pos hj]; exact hv
      · split at hv
        · split at hv
          · rename_i hq; cases hq
          · cases hv
        · cases hv
  rw [mr_cll hf hi hv2]
  exact k
theorem mw_enter {j nl ci na kd : Nat} {y : MethodName} {b : ByteArray} {as : List Value} (hm : mv_mc[j]? = some ((y, b, nl, rt, ci, na, kd), code)) (hl : as.length = na) (hw : mv_wd as ≤ nl) (k : mw d code rt 0 (mv_ent as nl) [] h r hE) : mw_Does (d + 1) j as h r hE := by
  obtain ⟨N, n, k⟩ := k
  refine ⟨max N n, ?_⟩
  unfold mv_ex
  simp only [hm, if_pos (And.intro hl hw)]
  exact mr_mono (fun j as h q hq => mv_ex_mono d N (max N n) d j as h q (Nat.le_refl _) (Nat.le_max_left _ _) hq) _ _ _ _ _ _ (Nat.le_max_right _ _) k
end MWW
