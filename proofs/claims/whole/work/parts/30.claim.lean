/-! THE CLAIM OUT OF ONE WALK OF THE LAW'S BODY. Your part is whole_start (and what it stands on); all else here is the same for every law, but numbers. -/
def R_law : String := "StraitHouseLaw"
def lw_P (b : Addr) (xs : List Int32) (args : Array Value) (s : State) : Prop := args = #[.ref b] ∧ s.IntsAt b xs ∧ xs.length ≤ 4608 ∧ (Jvm.Cond.and given_1 narrow_1).before args s = true
def lw_Q (_ : Array Value) (s : State) (o : Outcome) (t : State) : Prop := o = .returned (some (.int 1)) ∧ Framed s o t [] 600000 7302250
def lw_Z (below : List Frame) (a : Array Value) (s : State) : State → Prop := fun t => ∃ o, t.status = .running ∧ Ended t below o ∧ lw_Q a s o t
/-- the law's own end, with 1 on the stack, nothing written that was there before, its room as the claim has it -/
theorem lw_ret {p : Program} {l : Launch} {e : Env} {s : State} {m : MethodId} {below : List Frame} {meth : Method} {c : Code} {b : Nat} (hx : p.tables.exec = Jvm.exec) (hb : c.code = code) (hr : meth.sig.returnType = ret) (hlocks : meth.locks = false) {pc : Nat} {H : Heap} {ls : Array Slot} (hdg : decode code pc = .ok (.ireturn, 1)) : W p l e room_1 s m #[Value.ref b] below meth c H [] 600000 7302250 (lw_Z below #[Value.ref b] s) (F0 m pc ls [.int 1]) := by
  intro T hT X
  obtain ⟨fs, hret, hrun, hended, hW, hframe⟩ := X.leave (v := some (.int 1)) (hlocks := hlocks) (fun h => by rw [hr] at h; cases h)
  have hmeth' : T.vm.method? m = some meth := X.method'
  refine ⟨T.setFrames fs, ?_, .returned (some (.int 1)), hrun, hended, rfl, ⟨_, rfl⟩, hW, hframe⟩
  jvm_step X.here [X.here.top, hx, hb, hdg, hmeth', hr, ret, narrow_b1]
  (try refine ⟨rfl, ?_⟩); (try refine ⟨rfl, ?_⟩)
  first | (intro acts; rw [hret _ acts rfl rfl rfl]) | rw [hret _ _ rfl rfl rfl]
  exact Steps.refl _
/-- what holds at the law's entry: the machine, the code, the tables' words (any of lw_tbl by 'hts w (by decide +kernel)'), the script of L ints xs at the cell b, what the Statement gives of the start (any of its parts by flat_of_before) -/
def lw_At (p : Program) (s : State) (m : MethodId) (meth : Method) (c : Code) (b L : Nat) (xs : Nat → Int32) : Prop :=
  p.tables.exec = Jvm.exec ∧ c.code = code ∧ meth.sig.returnType = ret ∧ c.maxLocals = 4 ∧ s.vm.findClass R_law = some m.cls ∧ (∀ w ∈ lw_tbl, w.before #[Value.ref b] s = true) ∧ va_X b L xs s s.heap ∧ b < s.heap.size ∧ meth.locks = false ∧ (Jvm.Cond.and given_1 narrow_1).before #[Value.ref b] s = true
/-! the start of the law in the small machine's words -/
theorem mv_ao0 : lw_tbl[297]? = some (Cond.arrayOver (.object "StraitHouse$Convention")) := by decide +kernel
theorem mv_ao1 : lw_tbl[422]? = some (Cond.arrayOver (.object "StraitHouse$Ship")) := by decide +kernel
def mv_nsP : List Nat := [239, 398, 470, 489, 547, 610, 629, 661]
theorem mv_ns_ok : (mv_nst.zip mv_nsP).all (fun q => decide (lw_tbl[q.2]? = some (Cond.methodLinkNest RX11 q.1.1 q.1.2 RX11))) = true := by decide +kernel
def mv_srP : List Nat := [149, 206, 826]
theorem mv_sr_ok : (mv_srf.zip mv_srP).all (fun q => decide (lw_tbl[q.2]? = some (Cond.stringRef RX10 q.1.1 q.1.2.1))) = true := by decide +kernel
def mv_tm (i : Nat) : Term := .string "StraitHouse$Tokens" ((mv_srf.map fun q => q.1).getD i 0)
def mv_tln (i : Nat) : Nat := (mv_txt.map List.length).getD i 0
set_option maxRecDepth 100000 in
theorem mv_tf1 : ∀ i, i < 3 → Cond.exactly (mv_tm i) "java/lang/String" ∈ flatC (Jvm.Cond.and given_1 narrow_1) := by decide +kernel
set_option maxRecDepth 100000 in
theorem mv_tf2 : ∀ i, i < 3 → Cond.eq (.field (mv_tm i) "java/lang/String" "coder" "B") (.int 0) ∈ flatC (Jvm.Cond.and given_1 narrow_1) := by decide +kernel
set_option maxRecDepth 100000 in
theorem mv_tf3 : ∀ i, i < 3 → Cond.arrayOf (.field (mv_tm i) "java/lang/String" "value" "[B") .byte ∈ flatC (Jvm.Cond.and given_1 narrow_1) := by decide +kernel
set_option maxRecDepth 100000 in
theorem mv_tf4 : ∀ i, i < 3 → Cond.eq (.length (.field (mv_tm i) "java/lang/String" "value" "[B")) (.int (Int32.ofNat (mv_tln i))) ∈ flatC (Jvm.Cond.and given_1 narrow_1) := by decide +kernel
set_option maxRecDepth 100000 in
theorem mv_tg0_0 : (List.range 15).all (fun j => decide ((flatC (Jvm.Cond.and given_1 narrow_1))[13 + j]? = some (Cond.eq (.elem (.field (mv_tm 0) "java/lang/String" "value" "[B") (.int (Int32.ofNat (0 + j)))) (.int ((mv_txt.getD 0 []).getD (0 + j) 0))))) = true := by decide +kernel
set_option maxRecDepth 100000 in
theorem mv_tg0_1 : (List.range 15).all (fun j => decide ((flatC (Jvm.Cond.and given_1 narrow_1))[28 + j]? = some (Cond.eq (.elem (.field (mv_tm 0) "java/lang/String" "value" "[B") (.int (Int32.ofNat (15 + j)))) (.int ((mv_txt.getD 0 []).getD (15 + j) 0))))) = true := by decide +kernel
set_option maxRecDepth 100000 in
theorem mv_tg0_2 : (List.range 15).all (fun j => decide ((flatC (Jvm.Cond.and given_1 narrow_1))[43 + j]? = some (Cond.eq (.elem (.field (mv_tm 0) "java/lang/String" "value" "[B") (.int (Int32.ofNat (30 + j)))) (.int ((mv_txt.getD 0 []).getD (30 + j) 0))))) = true := by decide +kernel
set_option maxRecDepth 100000 in
theorem mv_tg0_3 : (List.range 15).all (fun j => decide ((flatC (Jvm.Cond.and given_1 narrow_1))[58 + j]? = some (Cond.eq (.elem (.field (mv_tm 0) "java/lang/String" "value" "[B") (.int (Int32.ofNat (45 + j)))) (.int ((mv_txt.getD 0 []).getD (45 + j) 0))))) = true := by decide +kernel
set_option maxRecDepth 100000 in
theorem mv_tg0_4 : (List.range 11).all (fun j => decide ((flatC (Jvm.Cond.and given_1 narrow_1))[73 + j]? = some (Cond.eq (.elem (.field (mv_tm 0) "java/lang/String" "value" "[B") (.int (Int32.ofNat (60 + j)))) (.int ((mv_txt.getD 0 []).getD (60 + j) 0))))) = true := by decide +kernel
set_option maxRecDepth 100000 in
theorem mv_tg1_0 : (List.range 15).all (fun j => decide ((flatC (Jvm.Cond.and given_1 narrow_1))[88 + j]? = some (Cond.eq (.elem (.field (mv_tm 1) "java/lang/String" "value" "[B") (.int (Int32.ofNat (0 + j)))) (.int ((mv_txt.getD 1 []).getD (0 + j) 0))))) = true := by decide +kernel
set_option maxRecDepth 100000 in
theorem mv_tg1_1 : (List.range 15).all (fun j => decide ((flatC (Jvm.Cond.and given_1 narrow_1))[103 + j]? = some (Cond.eq (.elem (.field (mv_tm 1) "java/lang/String" "value" "[B") (.int (Int32.ofNat (15 + j)))) (.int ((mv_txt.getD 1 []).getD (15 + j) 0))))) = true := by decide +kernel
set_option maxRecDepth 100000 in
theorem mv_tg1_2 : (List.range 15).all (fun j => decide ((flatC (Jvm.Cond.and given_1 narrow_1))[118 + j]? = some (Cond.eq (.elem (.field (mv_tm 1) "java/lang/String" "value" "[B") (.int (Int32.ofNat (30 + j)))) (.int ((mv_txt.getD 1 []).getD (30 + j) 0))))) = true := by decide +kernel
set_option maxRecDepth 100000 in
theorem mv_tg1_3 : (List.range 15).all (fun j => decide ((flatC (Jvm.Cond.and given_1 narrow_1))[133 + j]? = some (Cond.eq (.elem (.field (mv_tm 1) "java/lang/String" "value" "[B") (.int (Int32.ofNat (45 + j)))) (.int ((mv_txt.getD 1 []).getD (45 + j) 0))))) = true := by decide +kernel
set_option maxRecDepth 100000 in
theorem mv_tg1_4 : (List.range 15).all (fun j => decide ((flatC (Jvm.Cond.and given_1 narrow_1))[148 + j]? = some (Cond.eq (.elem (.field (mv_tm 1) "java/lang/String" "value" "[B") (.int (Int32.ofNat (60 + j)))) (.int ((mv_txt.getD 1 []).getD (60 + j) 0))))) = true := by decide +kernel
set_option maxRecDepth 100000 in
theorem mv_tg1_5 : (List.range 11).all (fun j => decide ((flatC (Jvm.Cond.and given_1 narrow_1))[163 + j]? = some (Cond.eq (.elem (.field (mv_tm 1) "java/lang/String" "value" "[B") (.int (Int32.ofNat (75 + j)))) (.int ((mv_txt.getD 1 []).getD (75 + j) 0))))) = true := by decide +kernel
set_option maxRecDepth 100000 in
theorem mv_tg2_0 : (List.range 9).all (fun j => decide ((flatC (Jvm.Cond.and given_1 narrow_1))[179 + j]? = some (Cond.eq (.elem (.field (mv_tm 2) "java/lang/String" "value" "[B") (.int (Int32.ofNat (0 + j)))) (.int ((mv_txt.getD 2 []).getD (0 + j) 0))))) = true := by decide +kernel
theorem mv_tg_of {a p n k : Nat} (h : (List.range n).all (fun j => decide ((flatC (Jvm.Cond.and given_1 narrow_1))[p + j]? = some (Cond.eq (.elem (.field (mv_tm k) "java/lang/String" "value" "[B") (.int (Int32.ofNat (a + j)))) (.int ((mv_txt.getD k []).getD (a + j) 0))))) = true) (j : Nat) (h1 : a ≤ j) (h2 : j < a + n) : Cond.eq (.elem (.field (mv_tm k) "java/lang/String" "value" "[B") (.int (Int32.ofNat j))) (.int ((mv_txt.getD k []).getD j 0)) ∈ flatC (Jvm.Cond.and given_1 narrow_1) := by
  have h3 := of_decide_eq_true (List.all_eq_true.mp h (j - a) (List.mem_range.mpr (by omega)))
  rw [show a + (j - a) = j by omega] at h3
  exact List.mem_of_getElem? h3
theorem mv_tf5 : ∀ i, i < 3 → ∀ j, j < mv_tln i → Cond.eq (.elem (.field (mv_tm i) "java/lang/String" "value" "[B") (.int (Int32.ofNat j))) (.int ((mv_txt.getD i []).getD j 0)) ∈ flatC (Jvm.Cond.and given_1 narrow_1) := by
  intro i hi j hj
  match i, hi, hj with
  | 0, _, hj =>
    have hj : j < 71 := hj
    by_cases q0 : j < 15
    · exact mv_tg_of (a := 0) mv_tg0_0 j (by omega) (by omega)
    by_cases q15 : j < 30
    · exact mv_tg_of (a := 15) mv_tg0_1 j (by omega) (by omega)
    by_cases q30 : j < 45
    · exact mv_tg_of (a := 30) mv_tg0_2 j (by omega) (by omega)
    by_cases q45 : j < 60
    · exact mv_tg_of (a := 45) mv_tg0_3 j (by omega) (by omega)
    exact mv_tg_of (a := 60) mv_tg0_4 j (by omega) (by omega)
  | 1, _, hj =>
    have hj : j < 86 := hj
    by_cases q0 : j < 15
    · exact mv_tg_of (a := 0) mv_tg1_0 j (by omega) (by omega)
    by_cases q15 : j < 30
    · exact mv_tg_of (a := 15) mv_tg1_1 j (by omega) (by omega)
    by_cases q30 : j < 45
    · exact mv_tg_of (a := 30) mv_tg1_2 j (by omega) (by omega)
    by_cases q45 : j < 60
    · exact mv_tg_of (a := 45) mv_tg1_3 j (by omega) (by omega)
    by_cases q60 : j < 75
    · exact mv_tg_of (a := 60) mv_tg1_4 j (by omega) (by omega)
    exact mv_tg_of (a := 75) mv_tg1_5 j (by omega) (by omega)
  | 2, _, hj =>
    have hj : j < 9 := hj
    exact mv_tg_of (a := 0) mv_tg2_0 j (by omega) (by omega)
set_option maxRecDepth 100000 in
theorem mv_tf6 : ∀ i, i < 3 → ∀ j, j < 3 → i < j → Cond.not (Cond.eq (mv_tm i) (mv_tm j)) ∈ flatC (Jvm.Cond.and given_1 narrow_1) := by decide +kernel
theorem mv_tn : ∀ i, i < 3 → mv_tln i < 2 ^ 31 := by decide +kernel
theorem mv_start {s : State} {b L : Nat} {xs : Nat → Int32} (hts : ∀ w ∈ lw_tbl, w.before #[Value.ref b] s = true) (hX : va_X b L xs s s.heap) (hbl : b < s.heap.size) (hgv : (Jvm.Cond.and given_1 narrow_1).before #[Value.ref b] s = true) : ∃ (D : va_G) (cA : Nat → ClassId) (oa : Nat → Nat), oa 0 = b ∧ mv_Fr D cA s.heap.size oa L xs s := by
  have hD : ∀ k : Nat, ∃ q : ClassId × (Nat → Nat), ∀ r : vw_C, vwCl[k]? = some r → u_Kn s r.1 r.2.1 r.2.2 q.1 q.2 := by
    intro k
    cases hk : vwCl[k]? with
    | none => exact ⟨(default, fun _ => 0), fun r h => by cases h⟩
    | some r =>
      obtain ⟨C, T, N⟩ := r
      obtain ⟨cC, iS, h⟩ := u_known (ws := lw_tbl) hts (fun w hw => mv_tbl_in _ (mv_CKt k _ _ _ hk w hw)) (hts _ (mv_tbl_in _ (mv_cw_of hk).1))
      exact ⟨(cC, iS), fun r' h' => by cases h'; exact h⟩
  obtain ⟨f, hf⟩ := Classical.axiomOfChoice hD
  have harr : ∀ ty, Cond.arrayClass ty ∈ lw_tbl → (∀ C, ty ≠ .object C) → ∃ cB, ArrOfT s cB ty ∧ va_RA s cB ty := by
    intro ty hm hne
    obtain ⟨cB, kA, comp, h1, h2, h3⟩ := Cond.arrayClass_spec (hts _ hm)
    refine ⟨cB, fun n z => ⟨fun k h => (by cases h), kA, h2, comp, h3⟩, ?_⟩
    cases ty with
    | object C => exact absurd rfl (hne C)
    | _ => exact h1
  have hover : ∀ C, Cond.arrayOver (.object C) ∈ lw_tbl → ∃ cB, ArrOfT s cB (.object C) ∧ va_RA s cB (.object C) := by
    intro C hm
    obtain ⟨comp, cB, kB, h1, h2, h3, h4, h5⟩ := Cond.arrayOver_spec (hts _ hm)
    exact ⟨cB, fun n z => ⟨fun k h => (by cases h), kB, h3, comp, h4⟩, kB, comp, h3, h4, h1, h5⟩
  have hA : ∀ t : Nat, ∃ cB : ClassId, t < 6 → ArrOfT s cB (mv_ty t) ∧ va_RA s cB (mv_ty t) := by
    intro t
    match t with
    | 0 => obtain ⟨cB, h⟩ := harr .int (List.mem_of_getElem? mv_ac0) (fun _ h => by cases h); exact ⟨cB, fun _ => h⟩
    | 1 => obtain ⟨cB, h⟩ := harr .long (List.mem_of_getElem? mv_ac1) (fun _ h => by cases h); exact ⟨cB, fun _ => h⟩
    | 2 => obtain ⟨cB, h⟩ := harr .byte (List.mem_of_getElem? mv_ac2) (fun _ h => by cases h); exact ⟨cB, fun _ => h⟩
    | 3 => obtain ⟨cB, h⟩ := harr .boolean (List.mem_of_getElem? mv_ac3) (fun _ h => by cases h); exact ⟨cB, fun _ => h⟩
    | 4 => obtain ⟨cB, h⟩ := hover _ (List.mem_of_getElem? mv_ao0); exact ⟨cB, fun _ => h⟩
    | 5 => obtain ⟨cB, h⟩ := hover _ (List.mem_of_getElem? mv_ao1); exact ⟨cB, fun _ => h⟩
    | t + 6 => exact ⟨default, fun h => by omega⟩
  obtain ⟨g, hg⟩ := Classical.axiomOfChoice hA
  have hfl := flat_of_before _ hgv
  obtain ⟨adK, adV, hS, hE⟩ := vk_Sof (N := 3) (tm := mv_tm) (len := mv_txt.map List.length) (byt := mv_txt) (A := fun q => s.heap.size ≤ q) (args := #[Value.ref b]) (s := s) mv_tn (fun i hi => hfl _ (mv_tf1 i hi)) (fun i hi => hfl _ (mv_tf2 i hi)) (fun i hi => hfl _ (mv_tf3 i hi)) (fun i hi => hfl _ (mv_tf4 i hi)) (fun i hi j hj => hfl _ (mv_tf5 i hi j hj))
    (fun i j hi hj hij => by
      rcases Nat.lt_or_gt_of_ne hij with h | h
      · exact Or.inl (hfl _ (mv_tf6 i hi j hj h))
      · exact Or.inr (hfl _ (mv_tf6 j hj i hi h)))
    (fun a ha => Nat.not_le.mpr ha)
  refine ⟨(fun k => (f k).1, fun k => (f k).2), g, fun i => if i = 0 then b else adK (i - 1), rfl, ⟨fun k q hq => hf k q hq, fun k q hq => ?_⟩, ⟨hX, hbl, Nat.le_refl _⟩, va_AO.of (hts _ (List.mem_of_getElem? mv_ao0)), va_AO.of (hts _ (List.mem_of_getElem? mv_ao1)), fun q hq => ?_, ⟨adV, ?_⟩, fun q hq => ?_, ?_, ?_⟩
  · have hlt : k < 6 := (List.getElem?_eq_some_iff.mp hq).1
    rw [mv_tys_at hlt] at hq
    cases hq
    exact hg k hlt
  · obtain ⟨i, hi⟩ := List.getElem?_of_mem hq
    have hlt : i < 8 := (List.getElem?_eq_some_iff.mp hi).1
    have hz : (mv_nst.zip mv_nsP)[i]? = some (q, mv_nsP[i]'hlt) := by rw [List.getElem?_zip_eq_some]; exact ⟨hi, List.getElem?_eq_getElem hlt⟩
    have h1 := of_decide_eq_true (List.all_eq_true.mp mv_ns_ok _ (List.mem_of_getElem? hz))
    exact va_Nw.of rfl (hts _ (List.mem_of_getElem? h1))
  · simpa using hS
  · obtain ⟨i, hi⟩ := List.getElem?_of_mem hq
    have hlt : i < 3 := (List.getElem?_eq_some_iff.mp hi).1
    have hz : (mv_srf.zip mv_srP)[i]? = some (q, mv_srP[i]'hlt) := by rw [List.getElem?_zip_eq_some]; exact ⟨hi, List.getElem?_eq_getElem hlt⟩
    have h1 := of_decide_eq_true (List.all_eq_true.mp mv_sr_ok _ (List.mem_of_getElem? hz))
    have he := hE i hlt
    have e1 : (mv_srf.map fun q => q.1).getD i 0 = q.1 := by rw [List.getD_eq_getElem?_getD, List.getElem?_map, hi]; rfl
    have e2 : q.2.2 = i + 1 := by
      have h2 : (mv_srf.map fun q => q.2.2)[i]? = some q.2.2 := by rw [List.getElem?_map, hi]; rfl
      rw [show (mv_srf.map fun q => q.2.2) = [1, 2, 3] from rfl] at h2
      match i, hlt, h2 with
      | 0, _, h2 => exact (Option.some.inj h2).symm
      | 1, _, h2 => exact (Option.some.inj h2).symm
      | 2, _, h2 => exact (Option.some.inj h2).symm
    unfold mv_tm at he
    rw [e1] at he
    rw [e2]
    exact vk_R.of (hts _ (List.mem_of_getElem? h1)) he
  · exact va_Zof (hts (.laysStatic "java/lang/String" "COMPACT_STRINGS" "Z") (by decide +kernel)) (hts (.initialized "java/lang/String") (by decide +kernel)) (va_eqt (hfl (.eq (.static "java/lang/String" "COMPACT_STRINGS" "Z") (.int 1)) (by decide +kernel))) (fun a ha => Nat.not_le.mpr ha)
  · exact va_Zqof (hts (.laysStatic "jdk/internal/util/Preconditions" "SIOOBE_FORMATTER" "Ljava/util/function/BiFunction;") (by decide +kernel)) (hts (.initialized "jdk/internal/util/Preconditions") (by decide +kernel)) (hfl (.isRef (.static "jdk/internal/util/Preconditions" "SIOOBE_FORMATTER" "Ljava/util/function/BiFunction;")) (by decide +kernel)) (fun a ha => Nat.not_le.mpr ha)
/-- the law's first heap -/
def mv_h0 (L : Nat) (xs : Nat → Int32) : mv_H := [.inl (0, L, .inl xs), .inr (99, []), .inr (99, []), .inr (99, [])]
/-- WHAT IS LEFT of the claim: of the small machine alone -/
def mv_Pure (B : Nat) : Prop := ∀ (L : Nat) (xs : Nat → Int32), L ≤ B → ∃ (N d : Nat) (hE : mv_H), d ≤ 700 ∧ mv_ex N d 256 [.ref 0] (mv_h0 L xs) = some (some (.int 1), hE) ∧ hE.length ≤ 600004 ∧ mv_sl hE ≤ 7302250 + L
set_option maxHeartbeats 4000000 in
theorem whole_start_open {p : Program} {e : Env} {s : State} {m : MethodId} {below : List Frame} {meth : Method} {c : Code} (l : Launch) {b L B : Nat} {xs : Nat → Int32} (hN : ∀ (base : Nat) (oa : Nat → Nat), mv_NatH l base oa) (hPu : mv_Pure B) (hL : L ≤ B) (C0 : lw_At p s m meth c b L xs) : W p l e room_1 s m #[Value.ref b] below meth c s.heap [] 0 0 (lw_Z below #[Value.ref b] s) (entryFrame m ([Value.ref b] : List Value).toArray 4) := by
  obtain ⟨hx, hb, hr, hml, hown, hts, hX, hbl, hlocks, hgv⟩ := C0
  obtain ⟨D, cA, oa, rfl, hF⟩ := mv_start hts hX hbl hgv
  obtain ⟨N, d, hE, hd, hrun, hlen, hsl⟩ := hPu L xs hL
  have hmv : ∀ w ∈ mv_tbl, w.before #[Value.ref (oa 0)] s = true := fun w hw => hts w (mv_tbl_in w hw)
  cases d with
  | zero => cases hrun
  | succ d =>
    have hrun2 : mv_run (mv_ex N d) mv_c256 (some .boolean) N 0 (mv_ent [.ref 0] 4) [] (mv_h0 L xs) = some (some (.int 1), hE) := hrun
    have hge := mv_run_ge (fun j as h r h1 q => (mv_met (l := l) (D := D) (cA := cA) (base := s.heap.size) (oa := oa) (L := L) (xs := xs) (hN _ _) N d j as h r h1 q).1) _ _ _ _ _ hrun2
    have hl := lv_entry ([.ref (oa 0)]) (n := 4) (Nat.le_of_ble_eq_true rfl)
    rw [lg_entry_eq]
    generalize (lg_sl ([.ref (oa 0)]) ++ List.replicate (4 - (lg_sl ([.ref (oa 0)])).length) Slot.unset).toArray = ls at hl ⊢
    have hlr : mv_lr (mv_ad s.heap.size oa) (mv_ent [.ref 0] 4) ls := ⟨hl.1, hl.2.1, fun i v hv => by
      have := mv_ent_get (mv_ad s.heap.size oa) [.ref 0] 4 0 i v hv
      rw [Nat.zero_add] at this
      exact hl.2.2 _ this⟩
    have hI : mv_I D cA s.heap.size oa (mv_h0 L xs) s s.heap [] 0 := ⟨Nat.le_refl 4, rfl, rfl, Nat.le_refl _, fun k q hq => by simp [mv_ws, mv_h0] at hq, va_S.rf⟩
    have hs0 : mv_sl (mv_h0 L xs) = L := by simp [mv_sl, mv_h0, mv_sz]
    have hl0 : (mv_h0 L xs).length = 4 := rfl
    have h4 := hge.1
    have hsE := hge.2.1
    refine mv_sim (r := some (.int 1)) (hE := hE) (cE := hE.length - 4) (sE := mv_sl hE - L) (ci := 13) (init := false) (d := d) (code := mv_c256) (rt := some .boolean) (nl := 4) (hN _ _) (mv_met (hN _ _) N d) hx hb hml hown hmv hF (fun h => by cases h) (by show d + 9 ≤ 2048; omega) (by show 100 * (d + 9) ≤ 84000; omega) mv_law_d mv_law_e (by show _ ≤ 600000; omega) (by show _ ≤ 7302250; omega) ?_ N 0 (mv_ent [.ref 0] 4) [] (mv_h0 L xs) hrun2 ls s.heap [] 0 0 hlr rfl hI rfl (by rw [hl0] at h4 ⊢; omega) (by rw [hs0] at hsE ⊢; omega)
    intro pc ins len st ls H locs hdg hlen2 hrt hI1 h01
    unfold mv_ret at hrt
    split at hrt
    · have hl1 : len = 1 := hlen2 rfl
      subst hl1
      split at hrt
      · split at hrt
        · cases hrt
          refine va_forget (fun q hq => hI1.2.2.2.2.2.2.2 q hq) ?_
          refine W.widen (k := 600000) (n := 7302250) (by omega) (by omega) ?_
          exact lw_ret hx hb hr hlocks hdg
        · cases hrt
      · cases hrt
    · split at hrt <;> cases hrt
    · split at hrt <;> cases hrt
    · cases hrt
