/-! a run of the small machine is a run of the real one -/
theorem mv_run_step {call : mv_Call} {code : mv_Cd} {rt : Option FieldType} {n pc : Nat} {lo : mv_L} {st : List Value} {h hE : mv_H} {r : Option Value} (hr : mv_run call code rt (n + 1) pc lo st h = some (r, hE)) : ∃ ins len x, mv_find pc code = some (ins, len, x) ∧ (
    (∃ v, mv_psh ins x lo = some v ∧ mv_run call code rt n (pc + len) lo (v :: st) h = some (r, hE)) ∨
    (∃ lo1 st1, mv_sto ins lo st = some (lo1, st1) ∧ mv_run call code rt n (pc + len) lo1 st1 h = some (r, hE)) ∨
    (∃ st1, mv_stk ins st = some st1 ∧ mv_run call code rt n (pc + len) lo st1 h = some (r, hE)) ∨
    (∃ st1 h1, mv_heap ins x st h = some (st1, h1) ∧ mv_run call code rt n (pc + len) lo st1 h1 = some (r, hE)) ∨
    (∃ b t st1, mv_br ins pc st = some (b, t, st1) ∧ mv_run call code rt n (if b = true then t else pc + 3) lo st1 h = some (r, hE)) ∨
    (∃ t st1, mv_jmp ins pc st = some (t, st1) ∧ mv_run call code rt n t lo st1 h = some (r, hE)) ∨
    (mv_ret ins rt st = some r ∧ hE = h) ∨
    (∃ kd st1 h1, mv_inv ins = some kd ∧ mv_cll call kd x st h = some (st1, h1) ∧ mv_run call code rt n (pc + 3) lo st1 h1 = some (r, hE))) := by
  rw [mv_run] at hr
  split at hr
  · cases hr
  · rename_i ins len x hf
    refine ⟨ins, len, x, hf, ?_⟩
    split at hr
    · rename_i v hv
      exact Or.inl ⟨v, hv, hr⟩
    · right
      split at hr
      · rename_i lo1 st1 hv
        exact Or.inl ⟨lo1, st1, hv, hr⟩
      · right
        split at hr
        · rename_i st1 hv
          exact Or.inl ⟨st1, hv, hr⟩
        · right
          split at hr
          · rename_i st1 h1 hv
            exact Or.inl ⟨st1, h1, hv, hr⟩
          · right
            split at hr
            · rename_i b t st1 hv
              refine Or.inl ⟨b, t, st1, hv, ?_⟩
              split at hr
              · rename_i hb
                rw [if_pos hb]
                exact hr
              · rename_i hb
                rw [if_neg hb]
                exact hr
            · right
              split at hr
              · rename_i t st1 hv
                exact Or.inl ⟨t, st1, hv, hr⟩
              · right
                split at hr
                · rename_i r2 hv
                  cases hr
                  exact Or.inl ⟨hv, rfl⟩
                · right
                  split at hr
                  · rename_i kd hk
                    split at hr
                    · rename_i st1 h1 hv
                      exact ⟨kd, st1, h1, hk, hv, hr⟩
                    · cases hr
                  · cases hr
theorem mv_cll_ge {call : mv_Call} {kd x : Nat} {st st1 : List Value} {h h1 : mv_H} (hc : ∀ (j : Nat) (as : List Value) (h : mv_H) (r : Option Value) (h1 : mv_H), call j as h = some (r, h1) → mv_ge h h1) (hr : mv_cll call kd x st h = some (st1, h1)) : mv_ge h h1 := by
  unfold mv_cll at hr
  split at hr
  · split at hr
    · split at hr
      · split at hr
        · cases hr
          exact mv_ge.refl _
        · cases hr
      · cases hr
    · cases hr
  · split at hr
    · split at hr
      · split at hr
        · cases hr
          exact mv_ge.refl _
        · cases hr
      · cases hr
    · split at hr
      · split at hr
        · rename_i hcl
          cases hr
          exact hc _ _ _ _ _ hcl
        · cases hr
      · cases hr
theorem mv_run_ge {call : mv_Call} {code : mv_Cd} {rt : Option FieldType} {r : Option Value} {hE : mv_H} (hc : ∀ (j : Nat) (as : List Value) (h : mv_H) (r : Option Value) (h1 : mv_H), call j as h = some (r, h1) → mv_ge h h1) : ∀ (n pc : Nat) (lo : mv_L) (st : List Value) (h : mv_H), mv_run call code rt n pc lo st h = some (r, hE) → mv_ge h hE := by
  intro n
  induction n with
  | zero =>
    intro pc lo st h hr
    cases hr
  | succ n ih =>
    intro pc lo st h hr
    obtain ⟨ins, len, x, -, hq⟩ := mv_run_step hr
    rcases hq with ⟨v, -, hr⟩ | ⟨lo1, st1, -, hr⟩ | ⟨st1, -, hr⟩ | ⟨st1, h1, hh, hr⟩ | ⟨b, t, st1, -, hr⟩ | ⟨t, st1, -, hr⟩ | ⟨-, rfl⟩ | ⟨kd, st1, h1, -, hh, hr⟩
    · exact ih _ _ _ _ hr
    · exact ih _ _ _ _ hr
    · exact ih _ _ _ _ hr
    · exact (mv_heap_ge hh).trans (ih _ _ _ _ hr)
    · exact ih _ _ _ _ hr
    · exact ih _ _ _ _ hr
    · exact mv_ge.refl _
    · exact (mv_cll_ge hc hh).trans (ih _ _ _ _ hr)
theorem mv_sto_len {ins : ClassFile.Instr} {lo lo1 : mv_L} {st st1 : List Value} (h : mv_sto ins lo st = some (lo1, st1)) : lo1.length = lo.length := by
  have l1 : ∀ (i : Nat) (v : Value), (mv_st1 lo i v).length = lo.length := fun i v => by simp [mv_st1, mv_clr_len]
  have l2 : ∀ (i : Nat) (v : Value), (mv_st2 lo i v).length = lo.length := fun i v => by simp [mv_st2, mv_clr_len]
  unfold mv_sto at h
  split at h
  case h_8 => cases h
  case h_7 =>
    split at h
    · cases h; exact l1 _ _
    · cases h
  all_goals
    first | unfold mv_stI at h | unfold mv_stL at h | unfold mv_stA at h
    split at h
    · split at h
      · cases h
        first | exact l1 _ _ | exact l2 _ _
      · cases h
    · cases h
theorem mv_swi_psh {ins : ClassFile.Instr} {x : Nat} {lo : mv_L} {v : Value} (h : mv_psh ins x lo = some v) : mv_swi ins = false := by
  unfold mv_swi
  split
  · cases h
  · cases h
  · rfl
theorem mv_swi_sto {ins : ClassFile.Instr} {lo : mv_L} {st : List Value} {q : mv_L × List Value} (h : mv_sto ins lo st = some q) : mv_swi ins = false := by
  unfold mv_swi
  split
  · cases h
  · cases h
  · rfl
theorem mv_swi_stk {ins : ClassFile.Instr} {st st1 : List Value} (h : mv_stk ins st = some st1) : mv_swi ins = false := by
  unfold mv_swi
  split
  · simp only [mv_stk, mv_bin, mv_lbin] at h
    split at h <;> cases h
  · simp only [mv_stk, mv_bin, mv_lbin] at h
    split at h <;> cases h
  · rfl
theorem mv_swi_heap {ins : ClassFile.Instr} {x : Nat} {st : List Value} {h : mv_H} {q : List Value × mv_H} (hq : mv_heap ins x st h = some q) : mv_swi ins = false := by
  unfold mv_swi
  split
  · cases hq
  · cases hq
  · rfl
theorem mv_swi_br {ins : ClassFile.Instr} {pc : Nat} {st : List Value} {q : Bool × Nat × List Value} (h : mv_br ins pc st = some q) : mv_swi ins = false := by
  unfold mv_swi
  split
  · cases h
  · cases h
  · rfl
theorem mv_swi_inv {ins : ClassFile.Instr} {kd : Nat} (h : mv_inv ins = some kd) : mv_swi ins = false := by
  unfold mv_swi
  split
  · cases h
  · cases h
  · rfl
section MV6
variable {p : Program} {l : Launch} {e : Env} {R : Room} {s : State} {m : MethodId} {args : Array Value} {below : List Frame} {meth : Method} {c : Code} {Q : State → Prop}
variable {cc : ByteArray} {ci L d nl : Nat} {init : Bool} {D : va_G} {cA : Nat → ClassId} {base : Nat} {oa : Nat → Nat} {xs : Nat → Int32} {call : mv_Call} {code : mv_Cd} {rt : Option FieldType} {r : Option Value} {hE : mv_H} {cE sE : Nat}
set_option maxHeartbeats 4000000 in
theorem mv_sim (hN : mv_NatH l base oa) (hCall : mv_CallOK l D cA base oa L xs d call) (hx : p.tables.exec = Jvm.exec) (hb : c.code = cc) (hml : c.maxLocals = nl) (hown : s.vm.findClass (mv_cn ci) = some m.cls) (hts : ∀ w ∈ mv_tbl, w.before args s = true) (hF : mv_Fr D cA base oa L xs s) (hini : init = true → meth.name = "<init>") (hfr : d + 9 ≤ R.frames) (hlo : 100 * (d + 9) ≤ R.locals) (hcd : code.all (mv_dK cc) = true) (hce : code.all (mv_eK ci init) = true) (hcE : cE ≤ R.cells) (hsE : sE ≤ R.slots)
    (hret : ∀ (pc : Nat) (ins : ClassFile.Instr) (len : Nat) (st : List Value) (ls : Array Slot) (H : Heap) (locs : List Loc), decode cc pc = .ok (ins, len) → (mv_swi ins = false → len = mv_il ins) → mv_ret ins rt st = some r → mv_I D cA base oa hE s H locs cE → hE[0]? = some (.inl (0, L, .inl xs)) → W p l e R s m args below meth c H locs cE sE Q (F0 m pc ls (st.map (mv_tr (mv_ad base oa))))) :
    ∀ (n pc : Nat) (lo : mv_L) (st : List Value) (h : mv_H), mv_run call code rt n pc lo st h = some (r, hE) → ∀ (ls : Array Slot) (H : Heap) (locs : List Loc) (cells slots : Nat), mv_lr (mv_ad base oa) lo ls → lo.length = nl → mv_I D cA base oa h s H locs cells → h[0]? = some (.inl (0, L, .inl xs)) → cells + hE.length = cE + h.length → slots + mv_sl hE = sE + mv_sl h →
      W p l e R s m args below meth c H locs cells slots Q (F0 m pc ls (st.map (mv_tr (mv_ad base oa)))) := by
  have hg : ∀ (j : Nat) (as : List Value) (h : mv_H) (r : Option Value) (h1 : mv_H), call j as h = some (r, h1) → mv_ge h h1 := fun j as h r h1 q => (hCall j as h r h1 q).1
  intro n
  induction n with
  | zero =>
    intro pc lo st h hr
    cases hr
  | succ n ih =>
    intro pc lo st h hr ls H locs cells slots hl hln hI h0 hc hs
    obtain ⟨ins, len, x, hf, hq⟩ := mv_run_step hr
    have hmem := mv_find_mem hf
    have hdg := List.all_eq_true.mp hcd _ hmem
    simp only [mv_dK, decide_eq_true_eq] at hdg
    have hek := List.all_eq_true.mp hce _ hmem
    simp only [mv_eK, Bool.and_eq_true, Bool.or_eq_true, beq_iff_eq] at hek
    obtain ⟨hel, hew⟩ := hek
    have hlen : mv_swi ins = false → len = mv_il ins := fun q => hel.resolve_right (by rw [q]; decide)
    have hsz : c.maxLocals = ls.size := by rw [hml, hl.1, hln]
    rcases hq with ⟨v, hv, hr⟩ | ⟨lo1, st1, hv, hr⟩ | ⟨st1, hv, hr⟩ | ⟨st1, h1, hv, hr⟩ | ⟨b, t, st1, hv, hr⟩ | ⟨t, st1, hv, hr⟩ | ⟨hv, rfl⟩ | ⟨kd, st1, h1, hi, hv, hr⟩
    · exact mv_psh_W hx hb hown hdg (hlen (mv_swi_psh hv)) hl (mv_kst_of hts hF hew) hv (ih _ _ _ _ hr ls H locs cells slots hl hln hI h0 hc hs)
    · exact mv_sto_W hx hb hdg (hlen (mv_swi_sto hv)) hl hv (fun ls' hl' => ih _ _ _ _ hr ls' H locs cells slots hl' ((mv_sto_len hv).trans hln) hI h0 hc hs)
    · exact mv_stk_W hx hb hdg (hlen (mv_swi_stk hv)) hv (ih _ _ _ _ hr ls H locs cells slots hl hln hI h0 hc hs)
    · have g1 := mv_heap_ge hv
      have g2 := mv_run_ge hg _ _ _ _ _ hr
      have h01 : h1[0]? = some (.inl (0, L, .inl xs)) := (g1.2.2 0 (by decide) (by have := hI.1; omega)).trans h0
      refine mv_heap_W hx hb hown hts hF hini hI h0 hdg (hlen (mv_swi_heap hv)) hew hv ?_ ?_ (fun H1 locs1 cells1 slots1 e1 e2 hI1 => ih _ _ _ _ hr ls H1 locs1 cells1 slots1 hl hln hI1 h01 ?_ ?_)
      · have := g2.1
        omega
      · have := g2.2.1
        omega
      · omega
      · omega
    · exact mv_br_W hx hb hdg (hlen (mv_swi_br hv)) hv (ih _ _ _ _ hr ls H locs cells slots hl hln hI h0 hc hs)
    · exact mv_jmp_W hx hb hdg (fun off ho => by subst ho; exact hlen rfl) hv (ih _ _ _ _ hr ls H locs cells slots hl hln hI h0 hc hs)
    · have e1 : cells = cE := by omega
      have e2 : slots = sE := by omega
      subst e1
      subst e2
      exact hret pc ins len st ls H locs hdg hlen hv hI h0
    · have g1 := mv_cll_ge hg hv
      have g2 := mv_run_ge hg _ _ _ _ _ hr
      have h01 : h1[0]? = some (.inl (0, L, .inl xs)) := (g1.2.2 0 (by decide) (by have := hI.1; omega)).trans h0
      refine mv_cll_W hN hCall hx hb hsz hown hts hF hI h0 hfr hlo hdg (hlen (mv_swi_inv hi)) hi hew hv ?_ ?_ (fun H1 locs1 cells1 slots1 e1 e2 hI1 => ih _ _ _ _ hr ls H1 locs1 cells1 slots1 hl hln hI1 h01 ?_ ?_)
      · have := g2.1
        omega
      · have := g2.2.1
        omega
      · omega
      · omega
end MV6
theorem mv_ent_len : ∀ (as : List Value) (n : Nat), mv_wd as ≤ n → (mv_ent as n).length = n := by
  intro as
  induction as with
  | nil => intro n _; simp [mv_ent]
  | cons v as ih =>
    intro n hn
    have hw : mv_wd (v :: as) = v.category + mv_wd as := by simp [mv_wd]
    rw [hw] at hn
    unfold mv_ent
    rcases lv_cat v with hc | hc
    · rw [if_neg (by rw [hc]; decide), List.length_cons, ih (n - 1) (by omega)]
      omega
    · rw [if_pos hc, List.length_cons, List.length_cons, ih (n - 2) (by omega)]
      omega
theorem mv_ent_get (ad : Nat → Nat) : ∀ (as : List Value) (n k i : Nat) (v : Value), mv_get (mv_ent as n) i = some v → (k + i, mv_tr ad v) ∈ lv_args k (as.map (mv_tr ad)) := by
  intro as
  induction as with
  | nil =>
    intro n k i v h
    unfold mv_get mv_ent at h
    rw [List.getElem?_replicate] at h
    split at h
    · rename_i hq
      split at hq <;> cases hq
    · cases h
  | cons w as ih =>
    intro n k i v h
    rw [List.map_cons, lv_args, mv_tr_cat]
    unfold mv_ent at h
    split at h
    · rename_i hc
      rw [if_pos hc]
      match i, h with
      | 0, h => cases h; exact List.mem_cons_self
      | 1, h => cases h
      | i + 2, h =>
        have := ih (n - 2) (k + 2) i v h
        rw [show k + (i + 2) = k + 2 + i by omega]
        exact List.mem_cons_of_mem _ this
    · rename_i hc
      rw [if_neg hc]
      match i, h with
      | 0, h => cases h; exact List.mem_cons_self
      | i + 1, h =>
        have := ih (n - 1) (k + 1) i v h
        rw [show k + (i + 1) = k + 1 + i by omega]
        exact List.mem_cons_of_mem _ this
theorem mv_sl_wd (ad : Nat → Nat) (as : List Value) : (lg_sl (as.map (mv_tr ad))).length = mv_wd as := by
  induction as with
  | nil => rfl
  | cons v as ih =>
    have hw : mv_wd (v :: as) = v.category + mv_wd as := by simp [mv_wd]
    have hs : lg_sl ((v :: as).map (mv_tr ad)) = (if (mv_tr ad v).category = 2 then [Slot.val (mv_tr ad v), Slot.second] else [Slot.val (mv_tr ad v)]) ++ lg_sl (as.map (mv_tr ad)) := by simp [lg_sl]
    rw [hs, List.length_append, ih, hw, mv_tr_cat]
    rcases lv_cat v with hc | hc
    · rw [if_neg (by rw [hc]; decide), hc]; rfl
    · rw [if_pos hc, hc]; rfl
/-- THE SMALL MACHINE IS RIGHT: what it answers of a method, the method does -/
theorem mv_met {l : Launch} {D : va_G} {cA : Nat → ClassId} {base : Nat} {oa : Nat → Nat} {L : Nat} {xs : Nat → Int32} (hN : mv_NatH l base oa) (N : Nat) : ∀ d, mv_CallOK l D cA base oa L xs d (mv_ex N d) := by
  intro d
  induction d with
  | zero =>
    intro j as h r h1 hr
    cases hr
  | succ d ih =>
    intro j as h r h1 hr
    have hgc : ∀ (j : Nat) (as : List Value) (h : mv_H) (r : Option Value) (h1 : mv_H), mv_ex N d j as h = some (r, h1) → mv_ge h h1 := fun j as h r h1 q => (ih j as h r h1 q).1
    unfold mv_ex at hr
    split at hr
    · rename_i y b nl rt ci na kd code hm
      split at hr
      · rename_i hc
        obtain ⟨hna, hwd⟩ := hc
        have hge : mv_ge h h1 := mv_run_ge hgc _ _ _ _ _ hr
        refine ⟨hge, fun h4 h0 => ?_⟩
        intro y' b' nl' rt' ci' na' kd' cd' hm' hj
        rw [hm] at hm'
        cases hm'
        obtain ⟨w1, w2, w3, w4, w5, w6, w7, w8⟩ := mv_mw_of (mv_mw_all j hj _ hm)
        obtain ⟨hcd, hce, hcn, hnl⟩ := mv_dk _ (List.mem_of_getElem? hm)
        dsimp only at hcd hce hcn hnl
        refine Met.ofW (cc := b) (maxL := nl) (ret := rt) w7 rfl ?_
        intro p e s m args below meth c s₁ B hml hv
        obtain ⟨rfl, g1, g2, g3, g4, g5⟩ := hv
        have hts : ∀ w ∈ mv_tbl, w.before (as.map (mv_tr (mv_ad base oa))).toArray s = true := fun w hw => atoms_spec (ws := .code y b nl rt :: mv_tbl) B.pre w (List.mem_cons_of_mem _ hw)
        have hown : s.vm.findClass (mv_cn ci) = some m.cls := by rw [hcn]; exact findClass_of_methodNamed B.named
        have hlocks := B.notSynchronized
        have hr2 := B.returns
        have hin : (kd == 2) = true → meth.name = "<init>" := fun hk => by rw [(name_of_methodNamed B.named B.method).1]; exact (w6 (by simpa using hk)).1
        have hl := lv_entry (as.map (mv_tr (mv_ad base oa))) (n := nl) (by rw [mv_sl_wd]; exact hwd)
        rw [lg_entry_eq]
        generalize (lg_sl (as.map (mv_tr (mv_ad base oa))) ++ List.replicate (nl - (lg_sl (as.map (mv_tr (mv_ad base oa)))).length) Slot.unset).toArray = ls at hl ⊢
        have hlr : mv_lr (mv_ad base oa) (mv_ent as nl) ls := ⟨by rw [hl.1, mv_ent_len as nl hwd], hl.2.1, fun i v hv => by
          have := mv_ent_get (mv_ad base oa) as nl 0 i v hv
          rw [Nat.zero_add] at this
          exact hl.2.2 _ this⟩
        have hI : mv_I D cA base oa h s s.heap [] 0 := ⟨g1, g3, rfl, g5.2.1.2.2, g4, va_S.rf⟩
        refine mv_sim (cE := h1.length - h.length) (sE := mv_sl h1 - mv_sl h) (R := (headSpec (.code y b nl rt :: mv_tbl) (mv_rm (d + 1) (h1.length - h.length) (mv_sl h1 - mv_sl h))).room) (d := d) hN ih B.exec B.bytes hml hown hts g5 hin (Nat.le_refl _) (Nat.le_refl _) hcd hce (Nat.le_refl _) (Nat.le_refl _) ?_ N 0 (mv_ent as nl) [] h hr ls s.heap [] 0 0 hlr (mv_ent_len as nl hwd) hI h0 (by have := hge.1; omega) (by have := hge.2.1; omega)
        intro pc ins len st ls H locs hdg hlen hrt hI1 h01
        have hq : ∀ t : State, t.heap = H → s.WarmedH t.vm → mv_Qc D cA base oa L xs r h1 (as.map (mv_tr (mv_ad base oa))).toArray s (.returned (r.map (mv_tr (mv_ad base oa)))) t := by
          intro t ht hW
          refine ⟨rfl, mv_Pre.of g5 hI1 h01 ht hW, ?_, ?_⟩
          · rw [ht]; exact hI1.2.2.2.2.2.1
          · intro q q1 q2
            rw [ht]
            exact hI1.2.2.2.2.2.2.1 q q1 q2
        unfold mv_ret at hrt
        split at hrt
        · have hl1 : len = 1 := hlen rfl
          subst hl1
          split at hrt
          · rename_i v ty
            split at hrt
            · rename_i hty
              cases hrt
              exact W.zret B.exec B.bytes hr2 (mv_fit_of (ad := mv_ad base oa) hty.2).1 hq hI1.2.2.2.2.2.2.2 hdg hlocks
            · cases hrt
          · cases hrt
        · have hl1 : len = 1 := hlen rfl
          subst hl1
          split at hrt
          · cases hrt
            exact W.lret B.exec B.bytes hr2 hq hI1.2.2.2.2.2.2.2 hdg hlocks
          · cases hrt
        · have hl1 : len = 1 := hlen rfl
          subst hl1
          split at hrt
          · cases hrt
            exact W.vret B.exec B.bytes hr2 hq hI1.2.2.2.2.2.2.2 hdg hlocks
          · cases hrt
        · cases hrt
      · cases hr
    · cases hr
