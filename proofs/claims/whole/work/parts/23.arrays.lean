/-! one instruction of the small machine is one of the real one: arrays, new cells -/
section MV3
variable {p : Program} {l : Launch} {e : Env} {R : Room} {s : State} {m : MethodId} {args : Array Value} {below : List Frame} {meth : Method} {c : Code} {H : Heap} {locs : List Loc} {cells slots : Nat} {Q : State → Prop}
variable {cc : ByteArray} {pc x : Nat} {ls : Array Slot} {D : va_G} {cA : Nat → ClassId} {base : Nat} {oa : Nat → Nat} {h h1 : mv_H} {a : Nat} {rest : List Value} {Ts : List Cond} {own : String} {i : Int32} {v : Value}
/-- the script, in the small machine's cell 0 and in the real one's heap -/
def mv_X (base : Nat) (oa : Nat → Nat) (L : Nat) (xs : Nat → Int32) (s : State) : Prop := va_X (oa 0) L xs s s.heap ∧ oa 0 < base ∧ base ≤ s.heap.size
theorem mv_ial_W (hx : p.tables.exec = Jvm.exec) (hb : c.code = cc) (hK : va_K D vwCl (mv_tys cA) s) (hI : mv_I D cA base oa h s H locs cells) {L : Nat} {xs : Nat → Int32} (hX : mv_X base oa L xs s) (h0 : h[0]? = some (.inl (0, L, .inl xs))) (hdg : decode cc pc = .ok (.iaload, 1)) (hr : mv_ial i a h = some v)
    (k : W p l e R s m args below meth c H locs cells slots Q (F0 m (pc + 1) ls (mv_tr (mv_ad base oa) v :: rest))) : W p l e R s m args below meth c H locs cells slots Q (F0 m pc ls (.int i :: .ref (mv_ad base oa a) :: rest)) := by
  unfold mv_ial at hr
  split at hr
  · rename_i t n f he
    split at hr
    · rename_i hc
      obtain ⟨rfl, h4, hin⟩ := hc
      cases hr
      rcases h4 with rfl | h4
      · rw [h0] at he
        cases he
        exact va_sld hx hb hX.1 (Nat.lt_of_lt_of_le hX.2.1 hX.2.2) (Nat.not_le.mpr hX.2.1) hI.2.2.2.2.2 hin hdg k
      · exact va_iald hx hb hK hI.2.2.2.2.1 (a - 4) 0 (mv_ws_get h4 he) rfl hin hdg k
    · cases hr
  · cases hr
theorem mv_bal_W (hx : p.tables.exec = Jvm.exec) (hb : c.code = cc) (hK : va_K D vwCl (mv_tys cA) s) (hI : mv_I D cA base oa h s H locs cells) (hdg : decode cc pc = .ok (.baload, 1)) (hr : mv_bal i a h = some v)
    (k : W p l e R s m args below meth c H locs cells slots Q (F0 m (pc + 1) ls (mv_tr (mv_ad base oa) v :: rest))) : W p l e R s m args below meth c H locs cells slots Q (F0 m pc ls (.int i :: .ref (mv_ad base oa a) :: rest)) := by
  unfold mv_bal at hr
  split at hr
  · rename_i t n f he
    split at hr
    · rename_i hc
      obtain ⟨ht, h4, hin⟩ := hc
      cases hr
      rcases ht with rfl | rfl
      · exact va_bald hx hb hK hI.2.2.2.2.1 (a - 4) 2 (mv_ws_get h4 he) rfl hin hdg k
      · exact va_zald hx hb hK hI.2.2.2.2.1 (a - 4) 3 (mv_ws_get h4 he) rfl hin hdg k
    · cases hr
  · cases hr
theorem mv_lal_W (hx : p.tables.exec = Jvm.exec) (hb : c.code = cc) (hK : va_K D vwCl (mv_tys cA) s) (hI : mv_I D cA base oa h s H locs cells) (hdg : decode cc pc = .ok (.laload, 1)) (hr : mv_lal i a h = some v)
    (k : W p l e R s m args below meth c H locs cells slots Q (F0 m (pc + 1) ls (mv_tr (mv_ad base oa) v :: rest))) : W p l e R s m args below meth c H locs cells slots Q (F0 m pc ls (.int i :: .ref (mv_ad base oa a) :: rest)) := by
  unfold mv_lal at hr
  split at hr
  · rename_i t n f he
    split at hr
    · rename_i hc
      obtain ⟨rfl, h4, hin⟩ := hc
      cases hr
      exact va_lald hx hb hK hI.2.2.2.2.1 (a - 4) 1 (mv_ws_get h4 he) rfl hin hdg k
    · cases hr
  · cases hr
theorem mv_aal_W (hx : p.tables.exec = Jvm.exec) (hb : c.code = cc) (hK : va_K D vwCl (mv_tys cA) s) (hI : mv_I D cA base oa h s H locs cells) (hdg : decode cc pc = .ok (.aaload, 1)) (hr : mv_aal i a h = some v)
    (k : W p l e R s m args below meth c H locs cells slots Q (F0 m (pc + 1) ls (mv_tr (mv_ad base oa) v :: rest))) : W p l e R s m args below meth c H locs cells slots Q (F0 m pc ls (.int i :: .ref (mv_ad base oa a) :: rest)) := by
  unfold mv_aal at hr
  split at hr
  · rename_i t n f he
    split at hr
    · rename_i hc
      obtain ⟨ht, h4, hin⟩ := hc
      cases hr
      rw [mv_tr_val] at k
      rcases ht with rfl | rfl
      · exact va_aldq hx hb hK hI.2.2.2.2.1 (a - 4) 4 (mv_ws_get h4 he) rfl hin hdg k
      · exact va_aldq hx hb hK hI.2.2.2.2.1 (a - 4) 5 (mv_ws_get h4 he) rfl hin hdg k
    · cases hr
  · cases hr
theorem mv_len_W (hx : p.tables.exec = Jvm.exec) (hb : c.code = cc) (hK : va_K D vwCl (mv_tys cA) s) (hI : mv_I D cA base oa h s H locs cells) {L : Nat} {xs : Nat → Int32} (hX : mv_X base oa L xs s) (h0 : h[0]? = some (.inl (0, L, .inl xs))) (hdg : decode cc pc = .ok (.arraylength, 1)) (hr : mv_len a h = some v)
    (k : W p l e R s m args below meth c H locs cells slots Q (F0 m (pc + 1) ls (mv_tr (mv_ad base oa) v :: rest))) : W p l e R s m args below meth c H locs cells slots Q (F0 m pc ls (.ref (mv_ad base oa a) :: rest)) := by
  unfold mv_len at hr
  split at hr
  · rename_i t n f he
    split at hr
    · rename_i hc
      obtain ⟨ht, h4⟩ := hc
      cases hr
      rcases h4 with rfl | h4
      · rw [h0] at he
        cases he
        exact va_slen hx hb hX.1 (Nat.lt_of_lt_of_le hX.2.1 hX.2.2) (Nat.not_le.mpr hX.2.1) hI.2.2.2.2.2 hdg k
      · exact va_alen hx hb hK hI.2.2.2.2.1 (a - 4) t (mv_ws_get h4 he) (mv_tys_at ht) rfl hdg k
    · cases hr
  · cases hr
/-- behind a store -/
theorem mv_wr (hI : mv_I D cA base oa h s H locs cells) (h4 : 4 ≤ a) {e2 : mv_E} {g : JFrame} (k : ∀ (H1 : Heap) (locs1 : List Loc), mv_I D cA base oa (h.set a e2) s H1 locs1 cells → W p l e R s m args below meth c H1 locs1 cells slots Q g) (H1 : Heap) (locs1 : List Loc) {w2 : Nat × va_E} (hw : (mv_ad base oa a, mv_trE (mv_ad base oa) cA e2) = w2) (hP : va_P D vwCl ((mv_ws base (mv_ad base oa) cA h).set (a - 4) w2) H1) (hS : va_S (fun q => base ≤ q) H H1 locs1) : W p l e R s m args below meth c H1 locs1 cells slots Q g := by
  subst hw
  rw [mv_ws_set h4] at hP
  exact mv_W_size (fun hz => k H1 locs1 (hI.wr hP hS hz))
theorem mv_I.self (hI : mv_I D cA base oa h s H locs cells) : va_S (fun q => base ≤ q) H H locs := ⟨Nat.le_refl _, fun _ _ _ => rfl, hI.2.2.2.2.2.2.2⟩
theorem mv_ias_W (hx : p.tables.exec = Jvm.exec) (hb : c.code = cc) (hK : va_K D vwCl (mv_tys cA) s) (hI : mv_I D cA base oa h s H locs cells) (hdg : decode cc pc = .ok (.iastore, 1)) {y : Int32} (hr : mv_ias y i a h = some h1)
    (k : ∀ (H1 : Heap) (locs1 : List Loc), mv_I D cA base oa h1 s H1 locs1 cells → W p l e R s m args below meth c H1 locs1 cells slots Q (F0 m (pc + 1) ls rest)) : W p l e R s m args below meth c H locs cells slots Q (F0 m pc ls (.int y :: .int i :: .ref (mv_ad base oa a) :: rest)) := by
  unfold mv_ias at hr
  split at hr
  · rename_i t n f he
    split at hr
    · rename_i hc
      obtain ⟨rfl, h4, hin⟩ := hc
      cases hr
      exact va_iast hx hb hK hI.2.2.2.2.1 mv_ws_D hI.self (a - 4) 0 (mv_ws_get h4 he) rfl hin hdg (fun H1 locs1 hP _ hS => mv_wr hI h4 k H1 locs1 rfl hP hS)
    · cases hr
  · cases hr
theorem mv_bas_W (hx : p.tables.exec = Jvm.exec) (hb : c.code = cc) (hK : va_K D vwCl (mv_tys cA) s) (hI : mv_I D cA base oa h s H locs cells) (hdg : decode cc pc = .ok (.bastore, 1)) {y : Int32} (hr : mv_bas y i a h = some h1)
    (k : ∀ (H1 : Heap) (locs1 : List Loc), mv_I D cA base oa h1 s H1 locs1 cells → W p l e R s m args below meth c H1 locs1 cells slots Q (F0 m (pc + 1) ls rest)) : W p l e R s m args below meth c H locs cells slots Q (F0 m pc ls (.int y :: .int i :: .ref (mv_ad base oa a) :: rest)) := by
  unfold mv_bas at hr
  split at hr
  · rename_i t n f he
    split at hr
    · rename_i hc
      obtain ⟨ht, h4, hin⟩ := hc
      cases hr
      rcases ht with rfl | rfl
      · exact va_bast hx hb hK hI.2.2.2.2.1 mv_ws_D hI.self (a - 4) 2 (mv_ws_get h4 he) rfl hin hdg (fun H1 locs1 hP _ hS => mv_wr hI h4 k H1 locs1 rfl hP hS)
      · exact va_zast hx hb hK hI.2.2.2.2.1 mv_ws_D hI.self (a - 4) 3 (mv_ws_get h4 he) rfl hin hdg (fun H1 locs1 hP _ hS => mv_wr hI h4 k H1 locs1 rfl hP hS)
    · cases hr
  · cases hr
theorem mv_las_W (hx : p.tables.exec = Jvm.exec) (hb : c.code = cc) (hK : va_K D vwCl (mv_tys cA) s) (hI : mv_I D cA base oa h s H locs cells) (hdg : decode cc pc = .ok (.lastore, 1)) {y : Int64} (hr : mv_las y i a h = some h1)
    (k : ∀ (H1 : Heap) (locs1 : List Loc), mv_I D cA base oa h1 s H1 locs1 cells → W p l e R s m args below meth c H1 locs1 cells slots Q (F0 m (pc + 1) ls rest)) : W p l e R s m args below meth c H locs cells slots Q (F0 m pc ls (.long y :: .int i :: .ref (mv_ad base oa a) :: rest)) := by
  unfold mv_las at hr
  split at hr
  · rename_i t n f he
    split at hr
    · rename_i hc
      obtain ⟨rfl, h4, hin⟩ := hc
      cases hr
      exact va_last hx hb hK hI.2.2.2.2.1 mv_ws_D hI.self (a - 4) 1 (mv_ws_get h4 he) rfl hin hdg (fun H1 locs1 hP _ hS => mv_wr hI h4 k H1 locs1 rfl hP hS)
    · cases hr
  · cases hr
theorem mv_up_map {ad : Nat → Nat} {f : Nat → Option Nat} {k v : Nat} : (fun j => (mv_up f k (some v) j).map ad) = va_up (fun j => (f j).map ad) k (some (ad v)) := by
  funext j
  unfold mv_up va_up
  by_cases hj : j = k
  · simp [hj]
  · simp [hj]
theorem mv_aas_W (hx : p.tables.exec = Jvm.exec) (hb : c.code = cc) (hK : va_K D vwCl (mv_tys cA) s) (hI : mv_I D cA base oa h s H locs cells) (hdg : decode cc pc = .ok (.aastore, 1)) {y : Nat} (hr : mv_aas y i a h = some h1)
    (k : ∀ (H1 : Heap) (locs1 : List Loc), mv_I D cA base oa h1 s H1 locs1 cells → W p l e R s m args below meth c H1 locs1 cells slots Q (F0 m (pc + 1) ls rest)) : W p l e R s m args below meth c H locs cells slots Q (F0 m pc ls (.ref (mv_ad base oa y) :: .int i :: .ref (mv_ad base oa a) :: rest)) := by
  unfold mv_aas at hr
  split at hr
  · rename_i t n f he
    split at hr
    · rename_i ci fs hy
      split at hr
      · rename_i hc
        obtain ⟨ht, h4, h4y, hci, hin⟩ := hc
        cases hr
        rcases ht with rfl | rfl
        · cases hci
          exact va_astq (r := (RX0, TX0, 18)) hx hb hK hI.2.2.2.2.1 mv_ws_D hI.self (a - 4) 4 (y - 4) 0 (mv_ws_get h4 he) rfl (mv_ws_get h4y hy) rfl hin hdg (fun H1 locs1 hP _ hS => mv_wr hI h4 k H1 locs1 (by simp only [mv_trE, mv_trA, mv_up_map]) hP hS)
        · cases hci
          exact va_astq (r := (RX8, TX8, 9)) hx hb hK hI.2.2.2.2.1 mv_ws_D hI.self (a - 4) 5 (y - 4) 8 (mv_ws_get h4 he) rfl (mv_ws_get h4y hy) rfl hin hdg (fun H1 locs1 hP _ hS => mv_wr hI h4 k H1 locs1 (by simp only [mv_trE, mv_trA, mv_up_map]) hP hS)
      · cases hr
    · cases hr
  · cases hr
/-- how many slots a cell takes -/
def mv_sz (e : mv_E) : Nat := match e with
  | .inl (_, n, _) => n
  | .inr (_, fs) => fs.length
theorem mv_RA_find {U : State} {cB : ClassId} {ty : FieldType} (h1 : va_RA U cB ty) : U.vm.findClass ("[" ++ ty.toString) = some cB := by
  cases ty with
  | object C =>
    obtain ⟨_, _, _, _, _, h1⟩ := h1
    exact h1
  | _ => exact h1
theorem mv_cA_eq {tys : List (ClassId × FieldType)} {cB : ClassId} {t : Nat} (ht : t < 6) (hK : va_K D vwCl (mv_tys cA) s) (hK2 : va_K D vwCl (tys ++ [(cB, mv_ty t)]) s) : cB = cA t := by
  have h1 := mv_RA_find (hK.2 t _ (mv_tys_at ht)).2
  have h2 := mv_RA_find (hK2.2 tys.length (cB, mv_ty t) (by simp)).2
  dsimp only at h1 h2
  exact Option.some.inj (h2.symm.trans h1)
/-- behind a new cell -/
theorem mv_nw (hI : mv_I D cA base oa h s H locs cells) {e2 : mv_E} {sl2 : Nat} {g : Nat → JFrame} (k : ∀ H1 : Heap, mv_I D cA base oa (h ++ [e2]) s H1 locs (cells + 1) → W p l e R s m args below meth c H1 locs (cells + 1) sl2 Q (g (mv_ad base oa h.length))) (q : Nat) (H1 : Heap) {w2 : va_E} (hw : mv_trE (mv_ad base oa) cA e2 = w2) (hP : va_P D vwCl (mv_ws base (mv_ad base oa) cA h ++ [(q, w2)]) H1) (hD : va_D (fun q => base ≤ q) (mv_ws base (mv_ad base oa) cA h ++ [(q, w2)])) (hS : va_S (fun q => base ≤ q) H H1 locs) : W p l e R s m args below meth c H1 locs (cells + 1) sl2 Q (g q) := by
  subst hw
  refine mv_W_size (fun hz => ?_)
  obtain ⟨rfl, hI2⟩ := hI.al hP hD hS hz
  exact k H1 hI2
theorem mv_newP_W (hx : p.tables.exec = Jvm.exec) (hb : c.code = cc) (hK : va_K D vwCl (mv_tys cA) s) (hI : mv_I D cA base oa h s H locs cells) {ty : ClassFile.ArrayType} (hdg : decode cc pc = .ok (.newarray ty, 2)) (hac : (Cond.arrayClass (Op.newarray.typeOf ty)).before args s = true) (ht : mv_atT ty < 4) {n : Int32} {st st1 : List Value} (hr : mv_newA (mv_atT ty) n st h = some (st1, h1)) (hcells : cells + 1 ≤ R.cells) (hslots : slots + n.toNatClampNeg ≤ R.slots)
    (k : ∀ H1 : Heap, mv_I D cA base oa h1 s H1 locs (cells + 1) → W p l e R s m args below meth c H1 locs (cells + 1) (slots + n.toNatClampNeg) Q (F0 m (pc + 2) ls (st1.map (mv_tr (mv_ad base oa))))) : W p l e R s m args below meth c H locs cells slots Q (F0 m pc ls (.int n :: st.map (mv_tr (mv_ad base oa)))) := by
  unfold mv_newA at hr
  split at hr
  · rename_i hc
    obtain ⟨h6, hn, hN⟩ := hc
    cases hr
    have hbase : ∀ q, H.size ≤ q → base ≤ q := fun q hq => Nat.le_trans (by have := hI.2.1; omega) hq
    have key : ∀ (t : Nat) (a0 : mv_A), mv_atT ty = t → Op.newarray.typeOf ty = mv_ty t → t < 4 → mv_zero t = a0 → (∀ cB : ClassId, vp_cell cB (n.toNatClampNeg, mv_trA (mv_ad base oa) a0) = arrV cB n.toNatClampNeg (fun _ => defaultValue (mv_ty t))) → n.toNatClampNeg * componentBytes (mv_ty t) ≤ 536870912 → W p l e R s m args below meth c H locs cells slots Q (F0 m pc ls (.int n :: st.map (mv_tr (mv_ad base oa)))) := by
      intro t a0 e1 e2 e3 e4 e5 e6
      refine va_newa hx hb hac e2 hK hI.2.2.2.2.1 (mv_ws_D (base := base) (oa := oa) (cA := cA) (h := h)) hI.self hbase e5 hn rfl e6 hcells hslots hdg (fun q cB H1 hK2 hP hD hS => ?_)
      have := mv_cA_eq (by omega) hK hK2
      subst this
      rw [e1, e4] at k
      exact mv_nw (e2 := .inl (t, n.toNatClampNeg, a0)) (g := fun q => F0 m (pc + 2) ls (.ref q :: st.map (mv_tr (mv_ad base oa)))) hI k q H1 rfl hP hD hS
    cases ty with
    | int => exact key 0 _ rfl rfl (by omega) rfl (fun cB => rfl) (by show _ * 4 ≤ _; omega)
    | long => exact key 1 _ rfl rfl (by omega) rfl (fun cB => rfl) (by show _ * 8 ≤ _; omega)
    | byte => exact key 2 _ rfl rfl (by omega) rfl (fun cB => rfl) (by show _ * 1 ≤ _; omega)
    | boolean => exact key 3 _ rfl rfl (by omega) rfl (fun cB => rfl) (by show _ * 1 ≤ _; omega)
    | char => exact absurd ht (by decide)
    | float => exact absurd ht (by decide)
    | double => exact absurd ht (by decide)
    | short => exact absurd ht (by decide)
  · cases hr
theorem mv_newR_W (hx : p.tables.exec = Jvm.exec) (hb : c.code = cc) (hown : s.vm.findClass own = some m.cls) (hK : va_K D vwCl (mv_tys cA) s) (hI : mv_I D cA base oa h s H locs cells) {idx : Nat} (hdg : decode cc pc = .ok (.anewarray idx, 3)) {C : String} (hxt : mv_ty x = .object C) (hx4 : x = 4 ∨ x = 5) (hcl : (Cond.classLink own idx C).before args s = true) (hov : va_AO C s) {n : Int32} {st st1 : List Value} (hr : mv_newA x n st h = some (st1, h1)) (hcells : cells + 1 ≤ R.cells) (hslots : slots + n.toNatClampNeg ≤ R.slots)
    (k : ∀ H1 : Heap, mv_I D cA base oa h1 s H1 locs (cells + 1) → W p l e R s m args below meth c H1 locs (cells + 1) (slots + n.toNatClampNeg) Q (F0 m (pc + 3) ls (st1.map (mv_tr (mv_ad base oa))))) : W p l e R s m args below meth c H locs cells slots Q (F0 m pc ls (.int n :: st.map (mv_tr (mv_ad base oa)))) := by
  unfold mv_newA at hr
  split at hr
  · rename_i hc
    obtain ⟨h6, hn, hN⟩ := hc
    cases hr
    have hbase : ∀ q, H.size ≤ q → base ≤ q := fun q hq => Nat.le_trans (by have := hI.2.1; omega) hq
    refine va_newq hx hb hown hcl hov hK hI.2.2.2.2.1 (mv_ws_D (base := base) (oa := oa) (cA := cA) (h := h)) hI.self hbase hn rfl (by omega) hcells hslots hdg (fun q cB H1 hK2 hP hD hS => ?_)
    rw [← hxt] at hK2
    have := mv_cA_eq (by omega) hK hK2
    subst this
    exact mv_nw (e2 := .inl (x, n.toNatClampNeg, mv_zero x)) (g := fun q => F0 m (pc + 3) ls (.ref q :: st.map (mv_tr (mv_ad base oa)))) hI k q H1 (by rcases hx4 with rfl | rfl <;> rfl) hP hD hS
  · cases hr
theorem mv_newO_W (hx : p.tables.exec = Jvm.exec) (hb : c.code = cc) (hown : s.vm.findClass own = some m.cls) (hts : ∀ w ∈ Ts, w.before args s = true) (hCK : mv_CK Ts) (hK : va_K D vwCl (mv_tys cA) s) (hI : mv_I D cA base oa h s H locs cells) {idx : Nat} (hdg : decode cc pc = .ok (.new idx, 3)) {C : String} {T : u_T} {N : Nat} (hci : vwCl[x]? = some (C, T, N)) (hcl : (Cond.classLink own idx C).before args s = true) (hin : (Cond.instantiable C N).before args s = true) (hini : (Cond.initialized C).before args s = true) {st : List Value} (hcells : cells + 1 ≤ R.cells) (hslots : slots + N ≤ R.slots)
    (hft : ∀ q ∈ mv_nf x, q.1 = .int ∨ q.1 = .boolean ∨ q.1 = .long ∨ (∃ n, q.1 = .object n) ∨ ∃ t, q.1 = .array t)
    (k : ∀ H1 : Heap, mv_I D cA base oa (h ++ [.inr (x, (mv_nf x).map fun q => mv_dflt q.1)]) s H1 locs (cells + 1) → W p l e R s m args below meth c H1 locs (cells + 1) (slots + N) Q (F0 m (pc + 3) ls (.ref (mv_ad base oa h.length) :: st.map (mv_tr (mv_ad base oa))))) : W p l e R s m args below meth c H locs cells slots Q (F0 m pc ls (st.map (mv_tr (mv_ad base oa)))) := by
  have hbase : ∀ q, H.size ≤ q → base ≤ q := fun q hq => Nat.le_trans (by have := hI.2.1; omega) hq
  obtain ⟨hlen, ⟨ty0, hp0, hq0⟩, hnm, hC⟩ := mv_cinfo hci
  refine va_new hx hb hts (hCK _ _ _ _ hci) ty0 hp0 hown hcl hin hini hK hI.2.2.2.2.1 (mv_ws_D (base := base) (oa := oa) (cA := cA) (h := h)) hI.self hbase hci (fs := ((mv_nf x).map fun q => mv_dflt q.1).map (mv_tr (mv_ad base oa))) (fun j hj => ?_) hcells hslots hdg (fun q H1 hP hD hS => ?_)
  · have h9 := hq0 j hj
    have hm := List.mem_of_getElem? h9
    simp only [vp_V, List.getD_eq_getElem?_getD, List.getElem?_map, h9, Option.map_some, Option.getD_some]
    exact (mv_dflt_eq _ (hft _ hm)).symm
  · exact mv_nw (e2 := .inr (x, (mv_nf x).map fun q => mv_dflt q.1)) (g := fun q => F0 m (pc + 3) ls (.ref q :: st.map (mv_tr (mv_ad base oa)))) hI k q H1 rfl hP hD hS
end MV3
