/-! calls: a callee's contract, taken at its call -/
theorem mv_cn_cl {ci N : Nat} {C : String} {T : u_T} (hc : vwCl[ci]? = some (C, T, N)) : mv_cn ci = C := by
  have hlt : ci < 13 := (List.getElem?_eq_some_iff.mp hc).1
  match ci, hlt, hc with
  | 0, _, hc => cases hc; rfl
  | 1, _, hc => cases hc; rfl
  | 2, _, hc => cases hc; rfl
  | 3, _, hc => cases hc; rfl
  | 4, _, hc => cases hc; rfl
  | 5, _, hc => cases hc; rfl
  | 6, _, hc => cases hc; rfl
  | 7, _, hc => cases hc; rfl
  | 8, _, hc => cases hc; rfl
  | 9, _, hc => cases hc; rfl
  | 10, _, hc => cases hc; rfl
  | 11, _, hc => cases hc; rfl
  | 12, _, hc => cases hc; rfl
def mv_rm (d mc ms : Nat) : Room := { frames := d + 8, cells := mc, slots := ms, locals := 100 * (d + 8) }
def mv_MetJ (l : Launch) (D : va_G) (cA : Nat → ClassId) (base : Nat) (oa : Nat → Nat) (L : Nat) (xs : Nat → Int32) (d j : Nat) (as : List Value) (h : mv_H) (r : Option Value) (h1 : mv_H) : Prop :=
  ∀ (y : MethodName) (b : ByteArray) (nl : Nat) (rt : Option FieldType) (ci na kd : Nat) (cd : mv_Cd), mv_mc[j]? = some ((y, b, nl, rt, ci, na, kd), cd) → j < 256 →
    Met l y (.code y b nl rt :: mv_tbl) (mv_rm d (h1.length - h.length) (mv_sl h1 - mv_sl h)) (mv_Pc D cA base oa L xs as h) (mv_Qc D cA base oa L xs r h1) (h1.length - h.length) (mv_sl h1 - mv_sl h) (fun q => base ≤ q)
def mv_CallOK (l : Launch) (D : va_G) (cA : Nat → ClassId) (base : Nat) (oa : Nat → Nat) (L : Nat) (xs : Nat → Int32) (d : Nat) (call : mv_Call) : Prop :=
  ∀ (j : Nat) (as : List Value) (h : mv_H) (r : Option Value) (h1 : mv_H), call j as h = some (r, h1) → mv_ge h h1 ∧ (4 ≤ h.length → h[0]? = some (.inl (0, L, .inl xs)) → mv_MetJ l D cA base oa L xs d j as h r h1)
/-- String's methods on the constants: proved in a part of their own -/
def mv_NatH (l : Launch) (base : Nat) (oa : Nat → Nat) : Prop :=
  ∀ (p : Program) (e : Env) (R : Room) (s : State) (m : MethodId) (args : Array Value) (below : List Frame) (meth : Method) (c : Code) (H : Heap) (locs : List Loc) (cells slots : Nat) (Q : State → Prop) (cc : ByteArray) (pc i ci j : Nat) (ls : Array Slot) (st st1 : List Value),
    p.tables.exec = Jvm.exec → c.code = cc → c.maxLocals = ls.size → s.vm.findClass (mv_cn ci) = some m.cls → (∀ w ∈ mv_tbl, w.before args s = true) → mv_Str base oa s → base ≤ s.heap.size → va_S (fun q => base ≤ q) s.heap H locs → decode cc pc = .ok (.invokevirtual i, 3) → Cond.methodLink (mv_cn ci) i (mv_nay j) ∈ mv_tbl → 8 ≤ R.frames → 800 ≤ R.locals → cells ≤ R.cells → slots ≤ R.slots → (st.map fun v => v.category).sum ≤ 8 → mv_nat j st = some st1 →
    W p l e R s m args below meth c H locs cells slots Q (F0 m (pc + 3) ls (st1.map (mv_tr (mv_ad base oa)))) → W p l e R s m args below meth c H locs cells slots Q (F0 m pc ls (st.map (mv_tr (mv_ad base oa))))
theorem mv_arg_of {kd j : Nat} {st as rest : List Value} {h : mv_H} (hr : mv_arg kd j st h = some (as, rest)) : ∃ (y : MethodName) (b : ByteArray) (nl : Nat) (rt : Option FieldType) (ci na : Nat) (cd : mv_Cd), mv_mc[j]? = some ((y, b, nl, rt, ci, na, kd), cd) ∧ (rest.map fun v => v.category).sum ≤ 8 ∧ (kd = 0 ∨ mv_recv ci as h = true) ∧ st = as.reverse ++ rest ∧ as.length = na := by
  unfold mv_arg at hr
  split at hr
  · rename_i y b nl rt ci na k2 cd hm
    split at hr
    · rename_i hc
      obtain ⟨rfl, h1, h2, h3⟩ := hc
      cases hr
      exact ⟨y, b, nl, rt, ci, na, cd, hm, h2, h3, by simp, by simp; omega⟩
    · cases hr
  · cases hr
theorem mv_recv_of {ci : Nat} {as : List Value} {h : mv_H} (hr : mv_recv ci as h = true) : ∃ (a : Nat) (as2 fs : List Value), as = .ref a :: as2 ∧ h[a]? = some (.inr (ci, fs)) ∧ 4 ≤ a := by
  unfold mv_recv at hr
  split at hr
  · rename_i a as2
    split at hr
    · rename_i c2 fs he
      obtain ⟨rfl, h4⟩ := of_decide_eq_true hr
      exact ⟨a, as2, fs, rfl, he, h4⟩
    · cases hr
  · cases hr
theorem mv_tbl_code {y : MethodName} {b : ByteArray} {nl : Nat} {rt : Option FieldType} (h : Cond.code y b nl rt ∈ mv_tbl) : GoodIn mv_tbl (.code y b nl rt :: mv_tbl) := fun w hw => by
  rcases List.mem_cons.mp hw with rfl | hw
  · exact mv_tbl_good _ h
  · exact mv_tbl_good _ hw
theorem mv_sum_tr (ad : Nat → Nat) (st : List Value) : ((st.map (mv_tr ad)).map fun v => v.category).sum = (st.map fun v => v.category).sum := by
  rw [List.map_map]
  congr 1
  exact List.map_congr_left fun v _ => mv_tr_cat ad v
section MV5
variable {p : Program} {l : Launch} {e : Env} {R : Room} {s : State} {m : MethodId} {args : Array Value} {below : List Frame} {meth : Method} {c : Code} {H : Heap} {locs : List Loc} {cells slots : Nat} {Q : State → Prop}
variable {cc : ByteArray} {pc x len ci L d : Nat} {init : Bool} {ls : Array Slot} {D : va_G} {cA : Nat → ClassId} {base : Nat} {oa : Nat → Nat} {h h1 : mv_H} {xs : Nat → Int32} {ins : ClassFile.Instr} {st st1 : List Value} {r : Option Value}
theorem mv_back {mc ms : Nat} {st0 rest : List Value} {av : Array Value} (hr : va_Run p l e R s m args below meth c H locs cells slots mc ms (F0 m pc ls st0) rest (mv_Qc D cA base oa L xs r h1 av) (fun q => base ≤ q)) (hI : mv_I D cA base oa h s H locs cells) (hg : mv_ge h h1) (hmc : mc = h1.length - h.length)
    (kk : ∀ (H1 : Heap) (locs1 : List Loc), mv_I D cA base oa h1 s H1 locs1 (cells + mc) → W p l e R s m args below meth c H1 locs1 (cells + mc) (slots + ms) Q (F0 m (pc + 3) ls ((r.map (mv_tr (mv_ad base oa))).toList ++ rest))) : W p l e R s m args below meth c H locs cells slots Q (F0 m pc ls st0) := by
  intro T hT X
  obtain ⟨v, st₀, t, T', Lc, e0, X', hL, e1, e2, ⟨hv, ⟨g1, g2, g3, g4, g5⟩, hz, hk⟩, st⟩ := hr T hT X
  cases hv
  obtain ⟨i1, i2, i3, i4, i5, i6⟩ := hI
  rw [e0] at hz hk
  have hI1 : mv_I D cA base oa h1 s T'.heap (locs ++ Lc) (cells + mc) := by
    refine ⟨g1, by rw [e1]; exact g3, ?_, i4, by rw [e1]; exact g4, by rw [e1]; exact Nat.le_trans i6.1 hz, fun q q1 q2 => ?_, fun q hq => ?_⟩
    · rw [e1, g3]
      have := hg.1
      omega
    · rw [e1, hk q (Nat.lt_of_lt_of_le q1 i6.1) q2]
      exact i6.2.1 q q1 q2
    · rcases List.mem_append.mp hq with hq | hq
      · exact i6.2.2 q hq
      · exact hL q hq
  obtain ⟨t2, a1, b1⟩ := kk T'.heap (locs ++ Lc) hI1 T' rfl X'
  exact ⟨t2, st t2 a1, b1⟩
theorem mv_cll_W {call : mv_Call} {kd : Nat} (hN : mv_NatH l base oa) (hCall : mv_CallOK l D cA base oa L xs d call) (hx : p.tables.exec = Jvm.exec) (hb : c.code = cc) (hml : c.maxLocals = ls.size) (hown : s.vm.findClass (mv_cn ci) = some m.cls) (hts : ∀ w ∈ mv_tbl, w.before args s = true) (hF : mv_Fr D cA base oa L xs s) (hI : mv_I D cA base oa h s H locs cells) (h0 : h[0]? = some (.inl (0, L, .inl xs))) (hfr : d + 9 ≤ R.frames) (hlo : 100 * (d + 9) ≤ R.locals) (hdg : decode cc pc = .ok (ins, len)) (hlen : len = mv_il ins) (hinv : mv_inv ins = some kd) (hew : mv_eW ci init ins x = true) (hr : mv_cll call kd x st h = some (st1, h1)) (hc : cells + h1.length ≤ R.cells + h.length) (hs : slots + mv_sl h1 ≤ R.slots + mv_sl h)
    (k : ∀ (H1 : Heap) (locs1 : List Loc) (cells1 slots1 : Nat), cells + h1.length = cells1 + h.length → slots + mv_sl h1 = slots1 + mv_sl h → mv_I D cA base oa h1 s H1 locs1 cells1 → W p l e R s m args below meth c H1 locs1 cells1 slots1 Q (F0 m (pc + 3) ls (st1.map (mv_tr (mv_ad base oa))))) : W p l e R s m args below meth c H locs cells slots Q (F0 m pc ls (st.map (mv_tr (mv_ad base oa)))) := by
  unfold mv_cll at hr
  split at hr
  · -- Object's constructor
    split at hr
    · rename_i hkd
      subst hkd
      split at hr
      · rename_i a st2
        split at hr
        · rename_i h8
          cases hr
          unfold mv_inv at hinv
          split at hinv
          · cases hinv
          · cases hinv
          · rename_i i
            subst hlen
            have hl0 : mv_any mv_oiT ci i 0 = true := by simpa [mv_eW] using hew
            refine W.objInit hx hb hown (hts _ (mv_oi_of hl0)) (hts _ (mv_tbl_of mv_ob0 rfl)) (hts _ (mv_tbl_of mv_ob1 rfl)) rfl hml.symm rfl hdg (by omega) ?_ (k H locs cells slots rfl rfl hI)
            have := lv_room (m := m) (pc := pc) (ls := ls) (rest := (Value.ref a :: st1).map (mv_tr (mv_ad base oa))) (st := st1.map (mv_tr (mv_ad base oa))) (by rw [mv_sum_tr]; exact h8)
            omega
          · cases hinv
        · cases hr
      · cases hr
    · cases hr
  · rename_i j
    split at hr
    · -- String's, Math's
      rename_i hj
      split at hr
      · rename_i h8
        split at hr
        · rename_i st2 hn
          cases hr
          unfold mv_inv at hinv
          split at hinv
          · -- static: Math
            rename_i i
            cases hinv
            subst hlen
            rw [if_neg (by decide), if_pos rfl] at hn
            simp only [mv_eW, if_pos (show 1001 ≤ j + 1 by omega), Nat.add_sub_cancel] at hew
            have hlk := hts _ (mv_na_of hew)
            have hI0 : (Cond.initialized "java/lang/Math").before args s = true := hts _ (mv_tbl_of mv_maI0 rfl)
            unfold mv_mth at hn
            split at hn
            · rename_i hj3
              subst hj3
              split at hn
              · rename_i y st3
                cases hn
                obtain ⟨⟨k1, w1⟩, k2, w2⟩ := mv_ma0
                refine va_mabs hx hb hml hown hlk (hts _ (mv_tbl_of w1 rfl)) hI0 (hts _ (mv_tbl_of w2 rfl)) (by omega) ?_ (by omega) (by omega) hdg (k H locs cells slots rfl rfl hI)
                rw [mv_sum_tr]
                rw [List.map_cons, List.sum_cons] at h8
                omega
              · cases hn
            · split at hn
              · rename_i hj3
                subst hj3
                split at hn
                · rename_i y z st3
                  cases hn
                  obtain ⟨⟨k1, w1⟩, k2, w2⟩ := mv_ma1
                  refine va_mmax hx hb hml hown hlk (hts _ (mv_tbl_of w1 rfl)) hI0 (hts _ (mv_tbl_of w2 rfl)) (by omega) ?_ (by omega) (by omega) hdg (k H locs cells slots rfl rfl hI)
                  rw [mv_sum_tr]
                  rw [List.map_cons, List.sum_cons, List.map_cons, List.sum_cons] at h8
                  omega
                · cases hn
              · split at hn
                · rename_i hj3
                  subst hj3
                  split at hn
                  · rename_i y z st3
                    cases hn
                    obtain ⟨⟨k1, w1⟩, k2, w2⟩ := mv_ma2
                    refine va_mmin hx hb hml hown hlk (hts _ (mv_tbl_of w1 rfl)) hI0 (hts _ (mv_tbl_of w2 rfl)) (by omega) ?_ (by omega) (by omega) hdg (k H locs cells slots rfl rfl hI)
                    rw [mv_sum_tr]
                    rw [List.map_cons, List.sum_cons, List.map_cons, List.sum_cons] at h8
                    omega
                  · cases hn
                · cases hn
          · -- virtual: String
            rename_i i
            cases hinv
            subst hlen
            rw [if_pos rfl] at hn
            simp only [mv_eW, if_pos (show 1001 ≤ j + 1 by omega), Nat.add_sub_cancel] at hew
            exact hN p e R s m args below meth c H locs cells slots Q cc pc i ci j ls st st1 hx hb hml hown hts hF.2.2.2.2.2 hF.2.1.2.2 hI.2.2.2.2.2 hdg (mv_na_of hew) (by omega) (by omega) (by omega) (by omega) h8 hn (k H locs cells slots rfl rfl hI)
          · cases hinv
            rw [if_neg (by decide), if_neg (by decide)] at hn
            cases hn
          · cases hinv
        · cases hr
      · cases hr
    · -- a method of the tables
      rename_i hj
      split at hr
      · rename_i as rest harg
        split at hr
        · rename_i r1 h2 hcl
          cases hr
          obtain ⟨y, b2, nl, rt, c2, na, cd, hm, h8, hrc, rfl, hna⟩ := mv_arg_of harg
          obtain ⟨hge, hmet⟩ := hCall j as h r1 h1 hcl
          have hj2 : j < 256 := by
            unfold mv_inv at hinv
            split at hinv
            · simp only [mv_eW, if_neg (show ¬ 1001 ≤ j + 1 by omega), Bool.and_eq_true, decide_eq_true_eq] at hew
              omega
            · simp only [mv_eW, if_neg (show ¬ 1001 ≤ j + 1 by omega), Bool.and_eq_true, decide_eq_true_eq] at hew
              omega
            · simp only [mv_eW, if_neg (show ¬ j + 1 = 0 by omega), Bool.and_eq_true, decide_eq_true_eq] at hew
              omega
            · cases hinv
          have hM := hmet hI.1 h0 y b2 nl rt c2 na kd cd hm hj2
          obtain ⟨w1, w2, w3, w4, w5, w6, w7, w8⟩ := mv_mw_of (mv_mw_all j hj2 _ hm)
          obtain ⟨-, -, hcn, hnl⟩ := mv_dk _ (List.mem_of_getElem? hm)
          dsimp only at hcn hnl
          have e1 : cells + (h1.length - h.length) ≤ R.cells ∧ slots + (mv_sl h1 - mv_sl h) ≤ R.slots := by
            have := hge.1
            have := hge.2.1
            omega
          have hroom : (mv_rm d (h1.length - h.length) (mv_sl h1 - mv_sl h)).frames + 1 ≤ R.frames ∧ 8 + (nl + 11) + (mv_rm d (h1.length - h.length) (mv_sl h1 - mv_sl h)).locals ≤ R.locals := by
            simp only [mv_rm]
            omega
          have hfin : ∀ (H1 : Heap) (locs1 : List Loc), mv_I D cA base oa h1 s H1 locs1 (cells + (h1.length - h.length)) → W p l e R s m args below meth c H1 locs1 (cells + (h1.length - h.length)) (slots + (mv_sl h1 - mv_sl h)) Q (F0 m (pc + 3) ls ((r1.map (mv_tr (mv_ad base oa))).toList ++ rest.map (mv_tr (mv_ad base oa)))) := by
            intro H1 locs1 hI1
            have hk := k H1 locs1 (cells + (h1.length - h.length)) (slots + (mv_sl h1 - mv_sl h)) (by have := hge.1; omega) (by have := hge.2.1; omega) hI1
            rw [List.map_append] at hk
            cases r1 <;> exact hk
          have hP : ∀ U : State, U.heap = H → s.WarmedH U.vm → mv_Pc D cA base oa L xs as h (as.map (mv_tr (mv_ad base oa))).toArray U := fun U hU hW => ⟨rfl, mv_Pre.of hF hI h0 hU hW⟩
          have h8' : ((rest.map (mv_tr (mv_ad base oa))).map fun v => v.category).sum ≤ 8 := by rw [mv_sum_tr]; exact h8
          unfold mv_inv at hinv
          split at hinv
          · -- static
            rename_i i
            cases hinv
            subst hlen
            simp only [mv_eW, if_neg (show ¬ 1001 ≤ j + 1 by omega), Bool.and_eq_true, Nat.add_sub_cancel] at hew
            refine mv_back (va_runS (As := as.map (mv_tr (mv_ad base oa))) (rest := rest.map (mv_tr (mv_ad base oa))) ⟨hx, hb, hml, hown, hts⟩ hM ⟨callB_of na hts (mv_tbl_code w1) rfl rfl rfl (hts _ w2) (hts _ (mv_ml_of hew.2.2 hm)) (by simpa using w8) hroom, hts _ (w3 rfl)⟩ ⟨mv_blind, hP⟩ rfl (by simpa using hna) rfl (by simp) (lv_room h8') hdg e1) hI hge rfl hfin
          · -- virtual
            rename_i i
            cases hinv
            subst hlen
            simp only [mv_eW, if_neg (show ¬ 1001 ≤ j + 1 by omega), Bool.and_eq_true, Nat.add_sub_cancel] at hew
            obtain ⟨a, as2, fs, rfl, hea, h4⟩ := mv_recv_of (hrc.resolve_left (by decide))
            have hwg := mv_ws_get (base := base) (oa := oa) (cA := cA) h4 hea
            obtain ⟨⟨C, T, N⟩, hcl2, -⟩ := hI.2.2.2.2.1 _ _ hwg
            have hC : C = y.cls := (mv_cn_cl hcl2).symm.trans hcn
            have hrv := va_recv hF.1 hI.2.2.2.2.1 hcl2 hwg
            dsimp only at hrv
            rw [hC] at hrv
            refine mv_back (va_runV (C := y.cls) (b := mv_ad base oa a) (As := as2.map (mv_tr (mv_ad base oa))) (rest := rest.map (mv_tr (mv_ad base oa))) ⟨hx, hb, hml, hown, hts⟩ hM ⟨callB_of (na - 1) hts (mv_tbl_code w1) rfl rfl rfl (hts _ w2) (hts _ (mv_ml_of hew.2.2 hm)) (by simpa using w8) hroom, hts _ (w4 (show (1 : Nat) ≠ 0 by decide)).1, hts _ (w5 rfl)⟩ ⟨mv_blind, hrv, hP⟩ rfl (by simp at hna ⊢; omega) rfl (by simp [mv_tr]) (lv_room h8') hdg e1) hI hge rfl hfin
          · -- a constructor
            rename_i i
            cases hinv
            subst hlen
            simp only [mv_eW, if_neg (show ¬ j + 1 = 0 by omega), Bool.and_eq_true, Bool.or_eq_true, Nat.add_sub_cancel] at hew
            obtain ⟨a, as2, fs, rfl, hea, h4⟩ := mv_recv_of (hrc.resolve_left (by decide))
            obtain ⟨hyn, rfl⟩ := w6 rfl
            rcases hew.2 with hlk | hlk
            · refine mv_back (va_runI (b := mv_ad base oa a) (As := as2.map (mv_tr (mv_ad base oa))) (rest := rest.map (mv_tr (mv_ad base oa))) ⟨hx, hb, hml, hown, hts⟩ hM ⟨callB_of (na - 1) hts (mv_tbl_code w1) rfl rfl rfl (hts _ w2) (hts _ (mv_ml_of hlk hm)) (by simpa using w8) hroom, hyn, hts _ (w4 (show (2 : Nat) ≠ 0 by decide)).1⟩ ⟨mv_blind, hP⟩ rfl (by simp at hna ⊢; omega) rfl (by simp [mv_tr]) (lv_room h8') hdg e1) hI hge rfl hfin
            · simp only [beq_iff_eq, List.any_eq_true, Bool.and_eq_true] at hlk
              obtain ⟨rfl, q, hq, rfl, hy⟩ := hlk
              rw [show j.succ - 1 = j from rfl, hm] at hy
              have hy : q.2 = y := of_decide_eq_true hy
              subst hy
              have hnw := hF.2.2.2.2.1 q hq
              refine mv_back (va_runIN (host := RX11) (b := mv_ad base oa a) (As := as2.map (mv_tr (mv_ad base oa))) (rest := rest.map (mv_tr (mv_ad base oa))) ⟨hx, hb, hml, hown, hts⟩ hM ⟨va_cnB (na - 1) hts (mv_tbl_code w1) rfl rfl rfl hnw (hts _ w2) (by simpa using w8) hroom, hyn, hts _ (w4 (show (2 : Nat) ≠ 0 by decide)).1⟩ ⟨mv_blind, hP⟩ rfl (by simp at hna ⊢; omega) rfl (by simp [mv_tr]) (lv_room h8') hdg e1) hI hge rfl hfin
          · cases hinv
        · cases hr
      · cases hr
end MV5
