/-! one instruction of the small machine is one of the real one: what needs no heap -/
/-- what the tables say of a constant -/
def mv_kst (own : String) (args : Array Value) (s : State) (ad : Nat → Nat) (ins : ClassFile.Instr) (x : Nat) : Prop := match ins with
  | .ldc i => if x < 1099511627776 then (Cond.constant own i (Int32.ofNat x)).before args s = true else ∃ tx, vk_R own i tx (ad (x - 1099511627776)) s
  | .ldc_w i => (Cond.constant own i (Int32.ofNat x)).before args s = true
  | .ldc2_w i => (Cond.constantLong own i (Int64.ofNat x)).before args s = true
  | _ => True
theorem mv_intL_of {l : mv_L} {i : Nat} {v : Value} (h : mv_intL l i = some v) : ∃ x, v = .int x ∧ mv_get l i = some (.int x) := by
  unfold mv_intL at h
  split at h
  · rename_i x hx
    cases h
    exact ⟨x, rfl, hx⟩
  · cases h
theorem mv_longL_of {l : mv_L} {i : Nat} {v : Value} (h : mv_longL l i = some v) : ∃ x, v = .long x ∧ mv_get l i = some (.long x) := by
  unfold mv_longL at h
  split at h
  · rename_i x hx
    cases h
    exact ⟨x, rfl, hx⟩
  · cases h
theorem mv_refL_of {l : mv_L} {i : Nat} {v : Value} (h : mv_refL l i = some v) : ∃ x, v = .ref x ∧ mv_get l i = some (.ref x) := by
  unfold mv_refL at h
  split at h
  · rename_i x hx
    cases h
    exact ⟨x, rfl, hx⟩
  · cases h
theorem mv_tgt_of {pc t : Nat} {off : Int} (h : mv_tgt pc off = some t) : (pc : Int) + off = (t : Int) := by
  unfold mv_tgt at h
  split at h
  · rename_i x hx
    cases h
    rw [hx]
    rfl
  · cases h
section MV1
variable {p : Program} {l : Launch} {e : Env} {R : Room} {s : State} {m : MethodId} {args : Array Value} {below : List Frame} {meth : Method} {c : Code} {H : Heap} {locs : List Loc} {cells slots : Nat} {Q : State → Prop}
variable {cc : ByteArray} {pc len x : Nat} {ls : Array Slot} {ad : Nat → Nat} {lo : mv_L} {st : List Value} {ins : ClassFile.Instr}
theorem mv_psh_W (hx : p.tables.exec = Jvm.exec) (hb : c.code = cc) {own : String} (hown : s.vm.findClass own = some m.cls) {v : Value} {rest : List Value} (hdg : decode cc pc = .ok (ins, len)) (hlen : len = mv_il ins) (hl : mv_lr ad lo ls) (hk : mv_kst own args s ad ins x) (h : mv_psh ins x lo = some v)
    (k : W p l e R s m args below meth c H locs cells slots Q (F0 m (pc + len) ls (mv_tr ad v :: rest))) : W p l e R s m args below meth c H locs cells slots Q (F0 m pc ls rest) := by
  subst hlen
  unfold mv_psh at h
  split at h
  · cases h
    exact lv_iconst hx hb hdg rfl k
  · cases h
    exact lv_bipush hx hb hdg rfl k
  · cases h
    exact lv_sipush hx hb hdg rfl k
  · cases h
    exact lv_lconst hx hb hdg rfl k
  · rename_i idx
    split at h
    · rename_i hlt
      cases h
      have hk : (Cond.constant own idx (Int32.ofNat x)).before args s = true := by simpa only [mv_kst, if_pos hlt] using hk
      exact lv_ldc hx hb hown hk hdg k
    · rename_i hlt
      cases h
      obtain ⟨tx, hZ⟩ : ∃ tx, vk_R own idx tx (ad (x - 1099511627776)) s := by simpa only [mv_kst, if_neg hlt] using hk
      exact va_ldcS hx hb hown hZ hdg k
  · cases h
    exact lv_ldcw hx hb hown hk hdg k
  · cases h
    exact lv_ldc2 hx hb hown hk hdg k
  · obtain ⟨y, rfl, hy⟩ := mv_intL_of h
    exact lv_iload_n hx hb hdg rfl (hl.2.2 _ _ hy) k
  · obtain ⟨y, rfl, hy⟩ := mv_intL_of h
    exact lv_iload hx hb hdg (hl.2.2 _ _ hy) k
  · obtain ⟨y, rfl, hy⟩ := mv_longL_of h
    exact lv_lload_n hx hb hdg rfl (hl.2.2 _ _ hy) k
  · obtain ⟨y, rfl, hy⟩ := mv_longL_of h
    exact lv_lload hx hb hdg (hl.2.2 _ _ hy) k
  · obtain ⟨y, rfl, hy⟩ := mv_refL_of h
    exact lv_aload_n hx hb hdg rfl (hl.2.2 _ _ hy) k
  · obtain ⟨y, rfl, hy⟩ := mv_refL_of h
    exact lv_aload hx hb hdg (hl.2.2 _ _ hy) k
  · cases h
theorem mv_sto_W (hx : p.tables.exec = Jvm.exec) (hb : c.code = cc) {lo1 : mv_L} {st1 : List Value} (hdg : decode cc pc = .ok (ins, len)) (hlen : len = mv_il ins) (hl : mv_lr ad lo ls) (h : mv_sto ins lo st = some (lo1, st1))
    (k : ∀ ls' : Array Slot, mv_lr ad lo1 ls' → W p l e R s m args below meth c H locs cells slots Q (F0 m (pc + len) ls' (st1.map (mv_tr ad)))) : W p l e R s m args below meth c H locs cells slots Q (F0 m pc ls (st.map (mv_tr ad))) := by
  subst hlen
  unfold mv_sto at h
  split at h
  · unfold mv_stI at h
    split at h
    · split at h
      · rename_i hi
        cases h
        exact lv_istore_n hx hb hdg rfl hl.has hi rfl (fun ls' hl' => k ls' (mv_lr.st1 hi hl'))
      · cases h
    · cases h
  · unfold mv_stI at h
    split at h
    · split at h
      · rename_i hi
        cases h
        exact lv_istore hx hb hdg hl.has hi rfl (fun ls' hl' => k ls' (mv_lr.st1 hi hl'))
      · cases h
    · cases h
  · unfold mv_stL at h
    split at h
    · split at h
      · rename_i hi
        cases h
        exact lv_lstore_n hx hb hdg rfl hl.has hi rfl (fun ls' hl' => k ls' (mv_lr.st2 hi hl'))
      · cases h
    · cases h
  · unfold mv_stL at h
    split at h
    · split at h
      · rename_i hi
        cases h
        exact lv_lstore hx hb hdg hl.has hi rfl (fun ls' hl' => k ls' (mv_lr.st2 hi hl'))
      · cases h
    · cases h
  · unfold mv_stA at h
    split at h
    · split at h
      · rename_i hi
        cases h
        exact lv_astore_n hx hb hdg rfl hl.has hi rfl (fun ls' hl' => k ls' (mv_lr.st1 hi hl'))
      · cases h
    · cases h
  · unfold mv_stA at h
    split at h
    · split at h
      · rename_i hi
        cases h
        exact lv_astore hx hb hdg hl.has hi rfl (fun ls' hl' => k ls' (mv_lr.st1 hi hl'))
      · cases h
    · cases h
  · split at h
    · rename_i v hv
      cases h
      obtain ⟨j, hj⟩ := List.getElem?_of_mem (mv_prs_mem (ad := ad) hv)
      exact lv_iinc hx hb hdg hl.has hj rfl (mv_get_lt hv) rfl (fun ls' hl' => k ls' (mv_lr.st1 (v := .int _) (mv_get_lt hv) hl'))
    · cases h
  · cases h
theorem mv_bin_W (hx : p.tables.exec = Jvm.exec) (hb : c.code = cc) {y z w : Int32} {rest : List Value} (hdg : decode cc pc = .ok (ins, len)) (hlen : len = mv_il ins) (h : mv_bin ins y z = some w)
    (k : W p l e R s m args below meth c H locs cells slots Q (F0 m (pc + len) ls (.int w :: rest))) : W p l e R s m args below meth c H locs cells slots Q (F0 m pc ls (.int z :: .int y :: rest)) := by
  subst hlen
  unfold mv_bin at h
  split at h
  · cases h; exact lv_iadd hx hb hdg k
  · cases h; exact lv_isub hx hb hdg k
  · cases h; exact lv_imul hx hb hdg k
  · cases h; exact lv_iand hx hb hdg k
  · cases h; exact lv_ior hx hb hdg k
  · cases h; exact lv_ixor hx hb hdg k
  · cases h; exact lv_ishl hx hb hdg k
  · cases h; exact lv_ishr hx hb hdg k
  · cases h; exact lv_iushr hx hb hdg rfl k
  · split at h
    · cases h
    · rename_i hz
      cases h; exact lv_idiv hx hb hdg hz k
  · split at h
    · cases h
    · rename_i hz
      cases h; exact lv_irem hx hb hdg hz k
  · cases h
theorem mv_lbin_W (hx : p.tables.exec = Jvm.exec) (hb : c.code = cc) {y z : Int64} {w : Value} {rest : List Value} (hdg : decode cc pc = .ok (ins, len)) (hlen : len = mv_il ins) (h : mv_lbin ins y z = some w)
    (k : W p l e R s m args below meth c H locs cells slots Q (F0 m (pc + len) ls (mv_tr ad w :: rest))) : W p l e R s m args below meth c H locs cells slots Q (F0 m pc ls (.long z :: .long y :: rest)) := by
  subst hlen
  unfold mv_lbin at h
  split at h
  · cases h; exact lv_ladd hx hb hdg k
  · cases h; exact lv_lmul hx hb hdg k
  · cases h; exact lv_lor hx hb hdg k
  · cases h; exact W.lcmp hx hb hdg k
  · cases h
theorem mv_stk_W (hx : p.tables.exec = Jvm.exec) (hb : c.code = cc) {st1 : List Value} (hdg : decode cc pc = .ok (ins, len)) (hlen : len = mv_il ins) (h : mv_stk ins st = some st1)
    (k : W p l e R s m args below meth c H locs cells slots Q (F0 m (pc + len) ls (st1.map (mv_tr ad)))) : W p l e R s m args below meth c H locs cells slots Q (F0 m pc ls (st.map (mv_tr ad))) := by
  unfold mv_stk at h
  split at h
  · subst hlen
    split at h
    · split at h
      · rename_i hv
        cases h
        exact lv_dup hx hb hdg (by rw [mv_tr_cat]; exact hv) k
      · cases h
    · cases h
  · subst hlen
    split at h
    · split at h
      · rename_i hv
        cases h
        exact lv_dup2_11 hx hb hdg (by rw [mv_tr_cat]; exact hv.1) (by rw [mv_tr_cat]; exact hv.2) k
      · cases h
    · cases h
  · subst hlen
    split at h
    · split at h
      · rename_i hv
        cases h
        exact lv_pop hx hb hdg (by rw [mv_tr_cat]; exact hv) k
      · cases h
    · cases h
  · subst hlen
    split at h
    · cases h; exact lv_ineg hx hb hdg k
    · cases h
  · subst hlen
    split at h
    · cases h; exact lv_i2l hx hb hdg rfl k
    · cases h
  · subst hlen
    split at h
    · cases h; exact lv_l2i hx hb hdg rfl k
    · cases h
  · subst hlen
    split at h
    · cases h; exact lv_i2b hx hb hdg rfl k
    · cases h
  · subst hlen
    split at h
    · cases h; exact lv_i2c hx hb hdg rfl k
    · cases h
  · subst hlen
    split at h
    · cases h; exact lv_lshl hx hb hdg rfl k
    · cases h
  · split at h
    · split at h
      · rename_i hz
        cases h
        exact mv_bin_W hx hb hdg hlen hz k
      · cases h
    · split at h
      · rename_i hz
        cases h
        exact mv_lbin_W hx hb hdg hlen hz k
      · cases h
    · cases h
theorem mv_br_W (hx : p.tables.exec = Jvm.exec) (hb : c.code = cc) {b : Bool} {t : Nat} {st1 : List Value} (hdg : decode cc pc = .ok (ins, len)) (hlen : len = mv_il ins) (h : mv_br ins pc st = some (b, t, st1))
    (k : W p l e R s m args below meth c H locs cells slots Q (F0 m (if b = true then t else pc + 3) ls (st1.map (mv_tr ad)))) : W p l e R s m args below meth c H locs cells slots Q (F0 m pc ls (st.map (mv_tr ad))) := by
  unfold mv_br at h
  split at h
  · rename_i cd off
    subst hlen
    split at h
    · split at h
      · rename_i ht
        have ht := mv_tgt_of ht
        cases h
        cases cd
        · exact lv_if_eq hx hb hdg ht (fun q => by simpa [mv_cond, q] using k) (fun q => by simpa [mv_cond, q] using k)
        · exact lv_if_ne hx hb hdg ht (fun q => by simpa [mv_cond, q] using k) (fun q => by simpa [mv_cond, q] using k)
        · exact lv_if_lt hx hb hdg ht (fun q => by simpa only [mv_cond, q, decide_true, decide_false, if_true] using k) (fun q => by simpa only [mv_cond, q, decide_true, decide_false, Bool.false_eq_true, if_false] using k)
        · exact lv_if_ge hx hb hdg ht (fun q => by simpa only [mv_cond, q, decide_true, decide_false, if_true] using k) (fun q => by simpa only [mv_cond, q, decide_true, decide_false, Bool.false_eq_true, if_false] using k)
        · exact lv_if_gt hx hb hdg ht (fun q => by simpa only [mv_cond, q, decide_true, decide_false, if_true] using k) (fun q => by simpa only [mv_cond, q, decide_true, decide_false, Bool.false_eq_true, if_false] using k)
        · exact lv_if_le hx hb hdg ht (fun q => by simpa only [mv_cond, q, decide_true, decide_false, if_true] using k) (fun q => by simpa only [mv_cond, q, decide_true, decide_false, Bool.false_eq_true, if_false] using k)
      · cases h
    · cases h
  · rename_i cd off
    subst hlen
    split at h
    · split at h
      · rename_i ht
        have ht := mv_tgt_of ht
        cases h
        cases cd
        · exact lv_icmp_eq hx hb hdg ht (fun q => by simpa [mv_cond, q] using k) (fun q => by simpa [mv_cond, q] using k)
        · exact lv_icmp_ne hx hb hdg ht (fun q => by simpa [mv_cond, q] using k) (fun q => by simpa [mv_cond, q] using k)
        · exact lv_icmp_lt hx hb hdg ht (fun q => by simpa only [mv_cond, q, decide_true, decide_false, if_true] using k) (fun q => by simpa only [mv_cond, q, decide_true, decide_false, Bool.false_eq_true, if_false] using k)
        · exact lv_icmp_ge hx hb hdg ht (fun q => by simpa only [mv_cond, q, decide_true, decide_false, if_true] using k) (fun q => by simpa only [mv_cond, q, decide_true, decide_false, Bool.false_eq_true, if_false] using k)
        · exact lv_icmp_gt hx hb hdg ht (fun q => by simpa only [mv_cond, q, decide_true, decide_false, if_true] using k) (fun q => by simpa only [mv_cond, q, decide_true, decide_false, Bool.false_eq_true, if_false] using k)
        · exact lv_icmp_le hx hb hdg ht (fun q => by simpa only [mv_cond, q, decide_true, decide_false, if_true] using k) (fun q => by simpa only [mv_cond, q, decide_true, decide_false, Bool.false_eq_true, if_false] using k)
      · cases h
    · cases h
  · cases h
theorem mv_jmp_W (hx : p.tables.exec = Jvm.exec) (hb : c.code = cc) {t : Nat} {st1 : List Value} (hdg : decode cc pc = .ok (ins, len)) (hlen : (∀ off, ins = .goto off → len = 3)) (h : mv_jmp ins pc st = some (t, st1))
    (k : W p l e R s m args below meth c H locs cells slots Q (F0 m t ls (st1.map (mv_tr ad)))) : W p l e R s m args below meth c H locs cells slots Q (F0 m pc ls (st.map (mv_tr ad))) := by
  unfold mv_jmp at h
  split at h
  · rename_i off st2 ho
    split at h
    · rename_i ht
      have ht := mv_tgt_of ht
      cases h
      unfold mv_off at ho
      split at ho
      · cases ho
        have := hlen _ rfl
        subst this
        exact lv_goto hx hb hdg ht k
      · split at ho
        · split at ho
          · rename_i hc
            cases ho
            exact lv_tableOut hx hb hdg hc ht k
          · rename_i hc
            split at ho
            · rename_i hoff
              cases ho
              exact lv_tableIn hx hb hdg (fun q => hc (Or.inl q)) (fun q => hc (Or.inr q)) hoff ht k
            · cases ho
        · cases ho
      · split at ho
        · split at ho
          · rename_i hp
            cases ho
            exact lv_lookup hx hb hdg hp rfl ht k
          · cases ho
        · cases ho
      · cases ho
    · cases h
  · cases h
end MV1
