/-- StraitHouse$Convention.clear()V -/
def f1 (N : Nat) (a : Nat) : mM Unit := (mb (pI a 1 0) fun _ => mb (pI a 5 0) fun _ => mb (pI a 6 0) fun _ => mb (pI a 10 0) fun _ => mb (pI a 11 9999) fun _ => mb (pI a 12 9999) fun _ => mb (pI a 13 99) fun _ => mb (pI a 14 0) fun _ => mb (pI a 15 0) fun _ => mb (pI a 16 0) fun _ => mb (pI a 17 0) fun _ => mret ())
set_option maxHeartbeats 2000000 in
theorem f1_ok {L N : Nat} {xs : Nat → Int32} {v : Unit} {S SE : ms_S} {a : Nat} (ha : o_cv a) (h : f1 N a S = some (v, SE)) : mw_Does 1 1 [.ref a] (ms_mk L xs S) none (ms_mk L xs SE) := by
  refine mw_enter mv_at1 rfl (Nat.le_of_ble_eq_true rfl) ?_
  show mw _ _ _ 0 [some (.ref a)] [] _ _ _
  unfold f1 at h
  refine mw_psh (v := .ref a) rfl rfl rfl ?_
  refine mw_psh (v := .int 0) rfl rfl rfl ?_
  obtain ⟨_, S1, h1, h⟩ := mb_of h
  refine mw_pI (k := 1) rfl (o_cv_l ha).1 (o_cv_l ha).2 rfl rfl rfl rfl h1 ?_
  refine mw_psh (v := .ref a) rfl rfl rfl ?_
  refine mw_psh (v := .int 0) rfl rfl rfl ?_
  obtain ⟨_, S2, h1, h⟩ := mb_of h
  refine mw_pI (k := 5) rfl (o_cv_l ha).1 (o_cv_l ha).2 rfl rfl rfl rfl h1 ?_
  refine mw_psh (v := .ref a) rfl rfl rfl ?_
  refine mw_psh (v := .int 0) rfl rfl rfl ?_
  obtain ⟨_, S3, h1, h⟩ := mb_of h
  refine mw_pI (k := 6) rfl (o_cv_l ha).1 (o_cv_l ha).2 rfl rfl rfl rfl h1 ?_
  refine mw_psh (v := .ref a) rfl rfl rfl ?_
  refine mw_psh (v := .int 0) rfl rfl rfl ?_
  obtain ⟨_, S4, h1, h⟩ := mb_of h
  refine mw_pI (k := 10) rfl (o_cv_l ha).1 (o_cv_l ha).2 rfl rfl rfl rfl h1 ?_
  refine mw_psh (v := .ref a) rfl rfl rfl ?_
  refine mw_psh (v := .int 9999) rfl rfl rfl ?_
  obtain ⟨_, S5, h1, h⟩ := mb_of h
  refine mw_pI (k := 11) rfl (o_cv_l ha).1 (o_cv_l ha).2 rfl rfl rfl rfl h1 ?_
  refine mw_psh (v := .ref a) rfl rfl rfl ?_
  refine mw_psh (v := .int 9999) rfl rfl rfl ?_
  obtain ⟨_, S6, h1, h⟩ := mb_of h
  refine mw_pI (k := 12) rfl (o_cv_l ha).1 (o_cv_l ha).2 rfl rfl rfl rfl h1 ?_
  refine mw_psh (v := .ref a) rfl rfl rfl ?_
  refine mw_psh (v := .int 99) rfl rfl rfl ?_
  obtain ⟨_, S7, h1, h⟩ := mb_of h
  refine mw_pI (k := 13) rfl (o_cv_l ha).1 (o_cv_l ha).2 rfl rfl rfl rfl h1 ?_
  refine mw_psh (v := .ref a) rfl rfl rfl ?_
  refine mw_psh (v := .int 0) rfl rfl rfl ?_
  obtain ⟨_, S8, h1, h⟩ := mb_of h
  refine mw_pI (k := 14) rfl (o_cv_l ha).1 (o_cv_l ha).2 rfl rfl rfl rfl h1 ?_
  refine mw_psh (v := .ref a) rfl rfl rfl ?_
  refine mw_psh (v := .int 0) rfl rfl rfl ?_
  obtain ⟨_, S9, h1, h⟩ := mb_of h
  refine mw_pI (k := 15) rfl (o_cv_l ha).1 (o_cv_l ha).2 rfl rfl rfl rfl h1 ?_
  refine mw_psh (v := .ref a) rfl rfl rfl ?_
  refine mw_psh (v := .int 0) rfl rfl rfl ?_
  obtain ⟨_, S10, h1, h⟩ := mb_of h
  refine mw_pI (k := 16) rfl (o_cv_l ha).1 (o_cv_l ha).2 rfl rfl rfl rfl h1 ?_
  refine mw_psh (v := .ref a) rfl rfl rfl ?_
  refine mw_psh (v := .int 0) rfl rfl rfl ?_
  obtain ⟨_, S11, h1, h⟩ := mb_of h
  refine mw_pI (k := 17) rfl (o_cv_l ha).1 (o_cv_l ha).2 rfl rfl rfl rfl h1 ?_
  rw [(mret_of h).2]
  exact mw_retV rfl
/-- StraitHouse$Convention.emit(II)V -/
def f2 (N : Nat) (a : Nat) (p0 : Int32) (p1 : Int32) : mM Unit := (mlet (fun (x1 : Int32) (x2 : Int32) => (mret ())) fun J36 => mb (gI a 1) fun v1 => if v1 ≥ 512 then J36 p0 p1 else (mb (gI a 1) fun v3 => mb (sA (a + 1) 512 v3 (p0 + (p1 * 256))) fun _ => mb (gI a 1) fun v6 => mb (pI a 1 (v6 + 1)) fun _ => J36 p0 p1))
set_option maxHeartbeats 2000000 in
theorem f2_ok {L N : Nat} {xs : Nat → Int32} {v : Unit} {S SE : ms_S} {a : Nat} {p0 : Int32} {p1 : Int32} (ha : o_cv a) (h : f2 N a p0 p1 S = some (v, SE)) : mw_Does 1 2 [.ref a, .int p0, .int p1] (ms_mk L xs S) none (ms_mk L xs SE) := by
  refine mw_enter mv_at2 rfl (Nat.le_of_ble_eq_true rfl) ?_
  show mw _ _ _ 0 [some (.ref a), some (.int p0), some (.int p1)] [] _ _ _
  unfold f2 at h
  obtain ⟨J36, eJ36, h⟩ := mlet_of h
  have hJ36 : ∀ (x1 : Int32) (x2 : Int32) , ∀ S, J36 x1 x2 S = some (v, SE) → mw 0 mv_c2 none 36 [some (.ref a), some (.int x1), some (.int x2)] [] (ms_mk L xs S) none (ms_mk L xs SE) := by
    intro x1 x2 S h
    rw [eJ36] at h
    rw [(mret_of h).2]
    exact mw_retV rfl
  refine mw_psh (v := .ref a) rfl rfl rfl ?_
  obtain ⟨v1, S2, h1, h⟩ := mb_of h
  refine mw_gI (k := 1) rfl (o_cv_l ha).1 (o_cv_l ha).2 rfl rfl rfl rfl h1 ?_
  refine mw_psh (v := .int 512) rfl rfl rfl ?_
  refine mw_if h rfl rfl rfl (fun _ h => ?_) (fun _ h => ?_)
  · exact mw_weak (hJ36 _ _ _ h) ⟨rfl, ⟨rfl, ⟨rfl, trivial⟩⟩⟩
  · refine mw_psh (v := .ref a) rfl rfl rfl ?_
    refine mw_gC (v := (a + 1)) (k := 0) rfl (o_cv_l ha).1 (o_cv_l ha).2 rfl rfl rfl rfl ?_
    refine mw_psh (v := .ref a) rfl rfl rfl ?_
    obtain ⟨v3, S4, h1, h⟩ := mb_of h
    refine mw_gI (k := 1) rfl (o_cv_l ha).1 (o_cv_l ha).2 rfl rfl rfl rfl h1 ?_
    refine mw_psh (v := .int p0) rfl rfl rfl ?_
    refine mw_psh (v := .int p1) rfl rfl rfl ?_
    refine mw_psh (v := .int 256) rfl rfl rfl ?_
    refine mw_stk (st1 := [.int (p1 * 256), .int p0, .int v3, .ref (a + 1)]) rfl rfl rfl ?_
    refine mw_stk (st1 := [.int (p0 + (p1 * 256)), .int v3, .ref (a + 1)]) rfl rfl rfl ?_
    obtain ⟨_, S5, h1, h⟩ := mb_of h
    refine mw_sA rfl (Nat.le_trans (o_cv_l ha).1 (Nat.le_add_right _ _)) (o_cv_a ha).1 rfl h1 ?_
    refine mw_psh (v := .ref a) rfl rfl rfl ?_
    refine mw_stk (st1 := [.ref a, .ref a]) rfl rfl rfl ?_
    obtain ⟨v6, S7, h1, h⟩ := mb_of h
    refine mw_gI (k := 1) rfl (o_cv_l ha).1 (o_cv_l ha).2 rfl rfl rfl rfl h1 ?_
    refine mw_psh (v := .int 1) rfl rfl rfl ?_
    refine mw_stk (st1 := [.int (v6 + 1), .ref a]) rfl rfl rfl ?_
    obtain ⟨_, S8, h1, h⟩ := mb_of h
    refine mw_pI (k := 1) rfl (o_cv_l ha).1 (o_cv_l ha).2 rfl rfl rfl rfl h1 ?_
    exact mw_weak (hJ36 _ _ _ h) ⟨rfl, ⟨rfl, ⟨rfl, trivial⟩⟩⟩
/-- StraitHouse$ConventionReader.isFirst(I)Z -/
def f10 (N : Nat) (p0 : Int32) : mM Int32 := (mlet (fun (x1 : Int32) (x2 : Int32) (y0 : Int32) => (mb (gI 38 5) fun v1 => mb (pI 38 5 (v1 ||| x2)) fun _ => mretZ y0)) fun J21 => mb (gI 38 5) fun v4 => if (v4 &&& (1 <<< ((p0 - 100) &&& 31))) ≠ 0 then (J21 p0 (1 <<< ((p0 - 100) &&& 31)) 0) else (J21 p0 (1 <<< ((p0 - 100) &&& 31)) 1))
set_option maxHeartbeats 2000000 in
theorem f10_ok {L N : Nat} {xs : Nat → Int32} {v : Int32} {S SE : ms_S} {p0 : Int32} (h : f10 N p0 S = some (v, SE)) : mw_Does 1 10 [.ref 38, .int p0] (ms_mk L xs S) (some (.int v)) (ms_mk L xs SE) := by
  refine mw_enter mv_at10 rfl (Nat.le_of_ble_eq_true rfl) ?_
  show mw _ _ _ 0 [some (.ref 38), some (.int p0), none, none] [] _ _ _
  unfold f10 at h
  obtain ⟨J21, eJ21, h⟩ := mlet_of h
  have hJ21 : ∀ (x1 : Int32) (x2 : Int32) (y0 : Int32) , ∀ S, J21 x1 x2 y0 S = some (v, SE) → mw 0 mv_c10 (some .boolean) 21 [some (.ref 38), some (.int x1), some (.int x2), none] [.int y0] (ms_mk L xs S) (some (.int v)) (ms_mk L xs SE) := by
    intro x1 x2 y0 S h
    rw [eJ21] at h
    refine mw_sto (lo1 := [some (.ref 38), some (.int x1), some (.int x2), some (.int y0)]) rfl rfl rfl ?_
    refine mw_psh (v := .ref 38) rfl rfl rfl ?_
    refine mw_stk (st1 := [.ref 38, .ref 38]) rfl rfl rfl ?_
    obtain ⟨v1, S2, h1, h⟩ := mb_of h
    refine mw_gI (k := 5) rfl (by decide) rfl rfl rfl rfl rfl h1 ?_
    refine mw_psh (v := .int x2) rfl rfl rfl ?_
    refine mw_stk (st1 := [.int (v1 ||| x2), .ref 38]) rfl rfl rfl ?_
    obtain ⟨_, S3, h1, h⟩ := mb_of h
    refine mw_pI (k := 5) rfl (by decide) rfl rfl rfl rfl rfl h1 ?_
    refine mw_psh (v := .int y0) rfl rfl rfl ?_
    exact mw_retZ rfl h
  refine mw_psh (v := .int 1) rfl rfl rfl ?_
  refine mw_psh (v := .int p0) rfl rfl rfl ?_
  refine mw_psh (v := .int 100) rfl rfl rfl ?_
  refine mw_stk (st1 := [.int (p0 - 100), .int 1]) rfl rfl rfl ?_
  refine mw_stk (st1 := [.int (1 <<< ((p0 - 100) &&& 31))]) rfl rfl rfl ?_
  refine mw_sto (lo1 := [some (.ref 38), some (.int p0), some (.int (1 <<< ((p0 - 100) &&& 31))), none]) rfl rfl rfl ?_
  refine mw_psh (v := .ref 38) rfl rfl rfl ?_
  obtain ⟨v4, S5, h1, h⟩ := mb_of h
  refine mw_gI (k := 5) rfl (by decide) rfl rfl rfl rfl rfl h1 ?_
  refine mw_psh (v := .int (1 <<< ((p0 - 100) &&& 31))) rfl rfl rfl ?_
  refine mw_stk (st1 := [.int (v4 &&& (1 <<< ((p0 - 100) &&& 31)))]) rfl rfl rfl ?_
  refine mw_if h rfl rfl rfl (fun _ h => ?_) (fun _ h => ?_)
  · refine mw_psh (v := .int 0) rfl rfl rfl ?_
    exact mw_weak (hJ21 _ _ _ _ h) ⟨rfl, ⟨rfl, ⟨rfl, trivial⟩⟩⟩
  · refine mw_psh (v := .int 1) rfl rfl rfl ?_
    refine mw_jmp (pc1 := 21) (st1 := [.int 1]) rfl rfl ?_
    exact mw_weak (hJ21 _ _ _ _ h) ⟨rfl, ⟨rfl, ⟨rfl, trivial⟩⟩⟩
/-- StraitHouse$ConventionReader.beginsUnit(I)Z -/
def f15 (N : Nat) (p0 : Int32) : mM Int32 := (mlet (fun (x0 : Int32) (y0 : Int32) => (mretZ y0)) fun J28 => mlet (fun (x0 : Int32) => (J28 x0 1)) fun J23 => if p0 = 3 then J23 p0 else (if p0 = 40 then J23 p0 else (mlet (fun (x0 : Int32) => (J28 x0 0)) fun J27 => if p0 < 100 then J27 p0 else (if p0 > 112 then J27 p0 else J23 p0))))
set_option maxHeartbeats 2000000 in
theorem f15_ok {L N : Nat} {xs : Nat → Int32} {v : Int32} {S SE : ms_S} {p0 : Int32} (h : f15 N p0 S = some (v, SE)) : mw_Does 1 15 [.int p0] (ms_mk L xs S) (some (.int v)) (ms_mk L xs SE) := by
  refine mw_enter mv_at15 rfl (Nat.le_of_ble_eq_true rfl) ?_
  show mw _ _ _ 0 [some (.int p0)] [] _ _ _
  unfold f15 at h
  obtain ⟨J28, eJ28, h⟩ := mlet_of h
  have hJ28 : ∀ (x0 : Int32) (y0 : Int32) , ∀ S, J28 x0 y0 S = some (v, SE) → mw 0 mv_c15 (some .boolean) 28 [some (.int x0)] [.int y0] (ms_mk L xs S) (some (.int v)) (ms_mk L xs SE) := by
    intro x0 y0 S h
    rw [eJ28] at h
    exact mw_retZ rfl h
  obtain ⟨J23, eJ23, h⟩ := mlet_of h
  have hJ23 : ∀ (x0 : Int32) , ∀ S, J23 x0 S = some (v, SE) → mw 0 mv_c15 (some .boolean) 23 [some (.int x0)] [] (ms_mk L xs S) (some (.int v)) (ms_mk L xs SE) := by
    intro x0 S h
    rw [eJ23] at h
    refine mw_psh (v := .int 1) rfl rfl rfl ?_
    refine mw_jmp (pc1 := 28) (st1 := [.int 1]) rfl rfl ?_
    exact mw_weak (hJ28 _ _ _ h) ⟨rfl, trivial⟩
  refine mw_psh (v := .int p0) rfl rfl rfl ?_
  refine mw_psh (v := .int 3) rfl rfl rfl ?_
  refine mw_if h rfl rfl rfl (fun _ h => ?_) (fun _ h => ?_)
  · exact mw_weak (hJ23 _ _ h) ⟨rfl, trivial⟩
  · refine mw_psh (v := .int p0) rfl rfl rfl ?_
    refine mw_psh (v := .int 40) rfl rfl rfl ?_
    refine mw_if h rfl rfl rfl (fun _ h => ?_) (fun _ h => ?_)
    · exact mw_weak (hJ23 _ _ h) ⟨rfl, trivial⟩
    · obtain ⟨J27, eJ27, h⟩ := mlet_of h
      have hJ27 : ∀ (x0 : Int32) , ∀ S, J27 x0 S = some (v, SE) → mw 0 mv_c15 (some .boolean) 27 [some (.int x0)] [] (ms_mk L xs S) (some (.int v)) (ms_mk L xs SE) := by
        intro x0 S h
        rw [eJ27] at h
        refine mw_psh (v := .int 0) rfl rfl rfl ?_
        exact mw_weak (hJ28 _ _ _ h) ⟨rfl, trivial⟩
      refine mw_psh (v := .int p0) rfl rfl rfl ?_
      refine mw_psh (v := .int 100) rfl rfl rfl ?_
      refine mw_if h rfl rfl rfl (fun _ h => ?_) (fun _ h => ?_)
      · exact mw_weak (hJ27 _ _ h) ⟨rfl, trivial⟩
      · refine mw_psh (v := .int p0) rfl rfl rfl ?_
        refine mw_psh (v := .int 112) rfl rfl rfl ?_
        refine mw_if h rfl rfl rfl (fun _ h => ?_) (fun _ h => ?_)
        · exact mw_weak (hJ27 _ _ h) ⟨rfl, trivial⟩
        · exact mw_weak (hJ23 _ _ h) ⟨rfl, trivial⟩
/-- StraitHouse$Diary.clear()V -/
def f18 (N : Nat) (a : Nat) : mM Unit := (mb (pI a 6 0) fun _ => mret ())
set_option maxHeartbeats 2000000 in
theorem f18_ok {L N : Nat} {xs : Nat → Int32} {v : Unit} {S SE : ms_S} {a : Nat} (ha : o_di a) (h : f18 N a S = some (v, SE)) : mw_Does 1 18 [.ref a] (ms_mk L xs S) none (ms_mk L xs SE) := by
  refine mw_enter mv_at18 rfl (Nat.le_of_ble_eq_true rfl) ?_
  show mw _ _ _ 0 [some (.ref a)] [] _ _ _
  unfold f18 at h
  refine mw_psh (v := .ref a) rfl rfl rfl ?_
  refine mw_psh (v := .int 0) rfl rfl rfl ?_
  obtain ⟨_, S1, h1, h⟩ := mb_of h
  refine mw_pI (k := 6) rfl (o_di_l ha).1 (o_di_l ha).2 rfl rfl rfl rfl h1 ?_
  rw [(mret_of h).2]
  exact mw_retV rfl
/-- StraitHouse$Diary.has(I)Z -/
def f19 (N : Nat) (a : Nat) (p0 : Int32) : mM Int32 := (mlet (fun (x1 : Int32) (y0 : Int32) => (mretZ y0)) fun J17 => mlet (fun (x1 : Int32) => (J17 x1 0)) fun J16 => if p0 < 0 then J16 p0 else (mb (gI a 6) fun v1 => if p0 ≥ v1 then J16 p0 else (J17 p0 1)))
set_option maxHeartbeats 2000000 in
theorem f19_ok {L N : Nat} {xs : Nat → Int32} {v : Int32} {S SE : ms_S} {a : Nat} {p0 : Int32} (ha : o_di a) (h : f19 N a p0 S = some (v, SE)) : mw_Does 1 19 [.ref a, .int p0] (ms_mk L xs S) (some (.int v)) (ms_mk L xs SE) := by
  refine mw_enter mv_at19 rfl (Nat.le_of_ble_eq_true rfl) ?_
  show mw _ _ _ 0 [some (.ref a), some (.int p0)] [] _ _ _
  unfold f19 at h
  obtain ⟨J17, eJ17, h⟩ := mlet_of h
  have hJ17 : ∀ (x1 : Int32) (y0 : Int32) , ∀ S, J17 x1 y0 S = some (v, SE) → mw 0 mv_c19 (some .boolean) 17 [some (.ref a), some (.int x1)] [.int y0] (ms_mk L xs S) (some (.int v)) (ms_mk L xs SE) := by
    intro x1 y0 S h
    rw [eJ17] at h
    exact mw_retZ rfl h
  obtain ⟨J16, eJ16, h⟩ := mlet_of h
  have hJ16 : ∀ (x1 : Int32) , ∀ S, J16 x1 S = some (v, SE) → mw 0 mv_c19 (some .boolean) 16 [some (.ref a), some (.int x1)] [] (ms_mk L xs S) (some (.int v)) (ms_mk L xs SE) := by
    intro x1 S h
    rw [eJ16] at h
    refine mw_psh (v := .int 0) rfl rfl rfl ?_
    exact mw_weak (hJ17 _ _ _ h) ⟨rfl, ⟨rfl, trivial⟩⟩
  refine mw_psh (v := .int p0) rfl rfl rfl ?_
  refine mw_if h rfl rfl rfl (fun _ h => ?_) (fun _ h => ?_)
  · exact mw_weak (hJ16 _ _ h) ⟨rfl, ⟨rfl, trivial⟩⟩
  · refine mw_psh (v := .int p0) rfl rfl rfl ?_
    refine mw_psh (v := .ref a) rfl rfl rfl ?_
    obtain ⟨v1, S2, h1, h⟩ := mb_of h
    refine mw_gI (k := 6) rfl (o_di_l ha).1 (o_di_l ha).2 rfl rfl rfl rfl h1 ?_
    refine mw_if h rfl rfl rfl (fun _ h => ?_) (fun _ h => ?_)
    · exact mw_weak (hJ16 _ _ h) ⟨rfl, ⟨rfl, trivial⟩⟩
    · refine mw_psh (v := .int 1) rfl rfl rfl ?_
      refine mw_jmp (pc1 := 17) (st1 := [.int 1]) rfl rfl ?_
      exact mw_weak (hJ17 _ _ _ h) ⟨rfl, ⟨rfl, trivial⟩⟩
/-- StraitHouse$Diary.write(IIZII)I -/
def f20 (N : Nat) (a : Nat) (p0 : Int32) (p1 : Int32) (p2 : Int32) (p3 : Int32) (p4 : Int32) : mM Int32 := (mb (gI a 6) fun v1 => if v1 < (Int32.ofNat (dn a)) then (mb (gI a 6) fun v3 => mb (sA (a + 1) (dn a) v3 p0) fun _ => mb (gI a 6) fun v6 => mb (sA (a + 2) (dn a) v6 p1) fun _ => mb (gI a 6) fun v9 => mb (sB (a + 3) (dn a) v9 p2) fun _ => mb (gI a 6) fun v12 => mb (sA (a + 4) (dn a) v12 p3) fun _ => mb (gI a 6) fun v15 => mb (sA (a + 5) (dn a) v15 p4) fun _ => mb (gI a 6) fun v18 => mb (sA (a + 6) (dn a) v18 (-1)) fun _ => mb (gI a 6) fun v21 => mb (pI a 6 (v21 + 1)) fun _ => mb (gI a 6) fun v24 => mret (v24 - 1)) else (mret (-1)))
set_option maxHeartbeats 2000000 in
theorem f20_ok {L N : Nat} {xs : Nat → Int32} {v : Int32} {S SE : ms_S} {a : Nat} {p0 : Int32} {p1 : Int32} {p2 : Int32} {p3 : Int32} {p4 : Int32} (ha : o_di a) (h : f20 N a p0 p1 p2 p3 p4 S = some (v, SE)) : mw_Does 1 20 [.ref a, .int p0, .int p1, .int p2, .int p3, .int p4] (ms_mk L xs S) (some (.int v)) (ms_mk L xs SE) := by
  refine mw_enter mv_at20 rfl (Nat.le_of_ble_eq_true rfl) ?_
  show mw _ _ _ 0 [some (.ref a), some (.int p0), some (.int p1), some (.int p2), some (.int p3), some (.int p4)] [] _ _ _
  unfold f20 at h
  refine mw_psh (v := .ref a) rfl rfl rfl ?_
  obtain ⟨v1, S2, h1, h⟩ := mb_of h
  refine mw_gI (k := 6) rfl (o_di_l ha).1 (o_di_l ha).2 rfl rfl rfl rfl h1 ?_
  refine mw_psh (v := .ref a) rfl rfl rfl ?_
  refine mw_gC (v := (a + 1)) (k := 0) rfl (o_di_l ha).1 (o_di_l ha).2 rfl rfl rfl rfl ?_
  refine mw_len rfl (Nat.le_trans (o_di_l ha).1 (Nat.le_add_right _ _)) (o_di_a ha).1 rfl ?_
  refine mw_if h rfl rfl rfl (fun _ h => ?_) (fun _ h => ?_)
  · refine mw_psh (v := .ref a) rfl rfl rfl ?_
    refine mw_gC (v := (a + 1)) (k := 0) rfl (o_di_l ha).1 (o_di_l ha).2 rfl rfl rfl rfl ?_
    refine mw_psh (v := .ref a) rfl rfl rfl ?_
    obtain ⟨v3, S4, h1, h⟩ := mb_of h
    refine mw_gI (k := 6) rfl (o_di_l ha).1 (o_di_l ha).2 rfl rfl rfl rfl h1 ?_
    refine mw_psh (v := .int p0) rfl rfl rfl ?_
    obtain ⟨_, S5, h1, h⟩ := mb_of h
    refine mw_sA rfl (Nat.le_trans (o_di_l ha).1 (Nat.le_add_right _ _)) (o_di_a ha).1 rfl h1 ?_
    refine mw_psh (v := .ref a) rfl rfl rfl ?_
    refine mw_gC (v := (a + 2)) (k := 1) rfl (o_di_l ha).1 (o_di_l ha).2 rfl rfl rfl rfl ?_
    refine mw_psh (v := .ref a) rfl rfl rfl ?_
    obtain ⟨v6, S7, h1, h⟩ := mb_of h
    refine mw_gI (k := 6) rfl (o_di_l ha).1 (o_di_l ha).2 rfl rfl rfl rfl h1 ?_
    refine mw_psh (v := .int p1) rfl rfl rfl ?_
    obtain ⟨_, S8, h1, h⟩ := mb_of h
    refine mw_sA rfl (Nat.le_trans (o_di_l ha).1 (Nat.le_add_right _ _)) (o_di_a ha).2.1 rfl h1 ?_
    refine mw_psh (v := .ref a) rfl rfl rfl ?_
    refine mw_gC (v := (a + 3)) (k := 2) rfl (o_di_l ha).1 (o_di_l ha).2 rfl rfl rfl rfl ?_
    refine mw_psh (v := .ref a) rfl rfl rfl ?_
    obtain ⟨v9, S10, h1, h⟩ := mb_of h
    refine mw_gI (k := 6) rfl (o_di_l ha).1 (o_di_l ha).2 rfl rfl rfl rfl h1 ?_
    refine mw_psh (v := .int p2) rfl rfl rfl ?_
    obtain ⟨_, S11, h1, h⟩ := mb_of h
    refine mw_sB rfl (Nat.le_trans (o_di_l ha).1 (Nat.le_add_right _ _)) (o_di_a ha).2.2.1 rfl h1 ?_
    refine mw_psh (v := .ref a) rfl rfl rfl ?_
    refine mw_gC (v := (a + 4)) (k := 3) rfl (o_di_l ha).1 (o_di_l ha).2 rfl rfl rfl rfl ?_
    refine mw_psh (v := .ref a) rfl rfl rfl ?_
    obtain ⟨v12, S13, h1, h⟩ := mb_of h
    refine mw_gI (k := 6) rfl (o_di_l ha).1 (o_di_l ha).2 rfl rfl rfl rfl h1 ?_
    refine mw_psh (v := .int p3) rfl rfl rfl ?_
    obtain ⟨_, S14, h1, h⟩ := mb_of h
    refine mw_sA rfl (Nat.le_trans (o_di_l ha).1 (Nat.le_add_right _ _)) (o_di_a ha).2.2.2.1 rfl h1 ?_
    refine mw_psh (v := .ref a) rfl rfl rfl ?_
    refine mw_gC (v := (a + 5)) (k := 4) rfl (o_di_l ha).1 (o_di_l ha).2 rfl rfl rfl rfl ?_
    refine mw_psh (v := .ref a) rfl rfl rfl ?_
    obtain ⟨v15, S16, h1, h⟩ := mb_of h
    refine mw_gI (k := 6) rfl (o_di_l ha).1 (o_di_l ha).2 rfl rfl rfl rfl h1 ?_
    refine mw_psh (v := .int p4) rfl rfl rfl ?_
    obtain ⟨_, S17, h1, h⟩ := mb_of h
    refine mw_sA rfl (Nat.le_trans (o_di_l ha).1 (Nat.le_add_right _ _)) (o_di_a ha).2.2.2.2.1 rfl h1 ?_
    refine mw_psh (v := .ref a) rfl rfl rfl ?_
    refine mw_gC (v := (a + 6)) (k := 5) rfl (o_di_l ha).1 (o_di_l ha).2 rfl rfl rfl rfl ?_
    refine mw_psh (v := .ref a) rfl rfl rfl ?_
    obtain ⟨v18, S19, h1, h⟩ := mb_of h
    refine mw_gI (k := 6) rfl (o_di_l ha).1 (o_di_l ha).2 rfl rfl rfl rfl h1 ?_
    refine mw_psh (v := .int (-1)) rfl rfl rfl ?_
    obtain ⟨_, S20, h1, h⟩ := mb_of h
    refine mw_sA rfl (Nat.le_trans (o_di_l ha).1 (Nat.le_add_right _ _)) (o_di_a ha).2.2.2.2.2 rfl h1 ?_
    refine mw_psh (v := .ref a) rfl rfl rfl ?_
    refine mw_stk (st1 := [.ref a, .ref a]) rfl rfl rfl ?_
    obtain ⟨v21, S22, h1, h⟩ := mb_of h
    refine mw_gI (k := 6) rfl (o_di_l ha).1 (o_di_l ha).2 rfl rfl rfl rfl h1 ?_
    refine mw_psh (v := .int 1) rfl rfl rfl ?_
    refine mw_stk (st1 := [.int (v21 + 1), .ref a]) rfl rfl rfl ?_
    obtain ⟨_, S23, h1, h⟩ := mb_of h
    refine mw_pI (k := 6) rfl (o_di_l ha).1 (o_di_l ha).2 rfl rfl rfl rfl h1 ?_
    refine mw_psh (v := .ref a) rfl rfl rfl ?_
    obtain ⟨v24, S25, h1, h⟩ := mb_of h
    refine mw_gI (k := 6) rfl (o_di_l ha).1 (o_di_l ha).2 rfl rfl rfl rfl h1 ?_
    refine mw_psh (v := .int 1) rfl rfl rfl ?_
    refine mw_stk (st1 := [.int (v24 - 1)]) rfl rfl rfl ?_
    rw [(mret_of h).1, (mret_of h).2]
    exact mw_retI rfl
  · refine mw_psh (v := .int (-1)) rfl rfl rfl ?_
    rw [(mret_of h).1, (mret_of h).2]
    exact mw_retI rfl
/-- StraitHouse$Diary.strike(II)Z -/
def f21 (N : Nat) (a : Nat) (p0 : Int32) (p1 : Int32) : mM Int32 := (mlet (fun (x1 : Int32) (x2 : Int32) => (mretZ 0)) fun J18 => mb (f19 N a p0) fun v1 => if v1 = 0 then J18 p0 p1 else (mb (lA (a + 6) (dn a) p0) fun v3 => if v3 = (-1) then (mb (sA (a + 6) (dn a) p0 p1) fun _ => mretZ 1) else J18 p0 p1))
set_option maxHeartbeats 2000000 in
theorem f21_ok {L N : Nat} {xs : Nat → Int32} {v : Int32} {S SE : ms_S} {a : Nat} {p0 : Int32} {p1 : Int32} (ha : o_di a) (h : f21 N a p0 p1 S = some (v, SE)) : mw_Does 2 21 [.ref a, .int p0, .int p1] (ms_mk L xs S) (some (.int v)) (ms_mk L xs SE) := by
  refine mw_enter mv_at21 rfl (Nat.le_of_ble_eq_true rfl) ?_
  show mw _ _ _ 0 [some (.ref a), some (.int p0), some (.int p1)] [] _ _ _
  unfold f21 at h
  obtain ⟨J18, eJ18, h⟩ := mlet_of h
  have hJ18 : ∀ (x1 : Int32) (x2 : Int32) , ∀ S, J18 x1 x2 S = some (v, SE) → mw 1 mv_c21 (some .boolean) 18 [some (.ref a), some (.int x1), some (.int x2)] [] (ms_mk L xs S) (some (.int v)) (ms_mk L xs SE) := by
    intro x1 x2 S h
    rw [eJ18] at h
    refine mw_psh (v := .int 0) rfl rfl rfl ?_
    exact mw_retZ rfl h
  refine mw_psh (v := .ref a) rfl rfl rfl ?_
  refine mw_psh (v := .int p0) rfl rfl rfl ?_
  obtain ⟨v1, S2, h1, h⟩ := mb_of h
  refine mw_call (j := 19) (r1 := (some (.int v1))) rfl rfl (by decide) (ms_argV (as := [.int p0]) (rest := []) mv_at19 (o_di_l ha).1 (o_di_l ha).2 rfl rfl (Nat.le_of_ble_eq_true rfl)) ((f19_ok ha h1).up (by decide)) rfl ?_
  refine mw_if h rfl rfl rfl (fun _ h => ?_) (fun _ h => ?_)
  · exact mw_weak (hJ18 _ _ _ h) ⟨rfl, ⟨rfl, ⟨rfl, trivial⟩⟩⟩
  · refine mw_psh (v := .ref a) rfl rfl rfl ?_
    refine mw_gC (v := (a + 6)) (k := 5) rfl (o_di_l ha).1 (o_di_l ha).2 rfl rfl rfl rfl ?_
    refine mw_psh (v := .int p0) rfl rfl rfl ?_
    obtain ⟨v3, S4, h1, h⟩ := mb_of h
    refine mw_lA rfl (Nat.le_trans (o_di_l ha).1 (Nat.le_add_right _ _)) (o_di_a ha).2.2.2.2.2 rfl h1 ?_
    refine mw_psh (v := .int (-1)) rfl rfl rfl ?_
    refine mw_if h rfl rfl rfl (fun _ h => ?_) (fun _ h => ?_)
    · refine mw_psh (v := .ref a) rfl rfl rfl ?_
      refine mw_gC (v := (a + 6)) (k := 5) rfl (o_di_l ha).1 (o_di_l ha).2 rfl rfl rfl rfl ?_
      refine mw_psh (v := .int p0) rfl rfl rfl ?_
      refine mw_psh (v := .int p1) rfl rfl rfl ?_
      obtain ⟨_, S5, h1, h⟩ := mb_of h
      refine mw_sA rfl (Nat.le_trans (o_di_l ha).1 (Nat.le_add_right _ _)) (o_di_a ha).2.2.2.2.2 rfl h1 ?_
      refine mw_psh (v := .int 1) rfl rfl rfl ?_
      exact mw_retZ rfl h
    · exact mw_weak (hJ18 _ _ _ h) ⟨rfl, ⟨rfl, ⟨rfl, trivial⟩⟩⟩
/-- StraitHouse$Diary.counts(II)Z -/
def f22 (N : Nat) (a : Nat) (p0 : Int32) (p1 : Int32) : mM Int32 := (mlet (fun (x1 : Int32) (x2 : Int32) (y0 : Int32) => (mretZ y0)) fun J35 => mlet (fun (x1 : Int32) (x2 : Int32) => (J35 x1 x2 0)) fun J34 => mb (lA (a + 5) (dn a) p0) fun v1 => if v1 > p1 then J34 p0 p1 else (mlet (fun (x1 : Int32) (x2 : Int32) => (J35 x1 x2 1)) fun J30 => mb (lA (a + 6) (dn a) p0) fun v3 => if v3 = (-1) then J30 p0 p1 else (mb (lA (a + 6) (dn a) p0) fun v5 => if v5 ≤ p1 then J34 p0 p1 else J30 p0 p1)))
set_option maxHeartbeats 2000000 in
theorem f22_ok {L N : Nat} {xs : Nat → Int32} {v : Int32} {S SE : ms_S} {a : Nat} {p0 : Int32} {p1 : Int32} (ha : o_di a) (h : f22 N a p0 p1 S = some (v, SE)) : mw_Does 1 22 [.ref a, .int p0, .int p1] (ms_mk L xs S) (some (.int v)) (ms_mk L xs SE) := by
  refine mw_enter mv_at22 rfl (Nat.le_of_ble_eq_true rfl) ?_
  show mw _ _ _ 0 [some (.ref a), some (.int p0), some (.int p1)] [] _ _ _
  unfold f22 at h
  obtain ⟨J35, eJ35, h⟩ := mlet_of h
  have hJ35 : ∀ (x1 : Int32) (x2 : Int32) (y0 : Int32) , ∀ S, J35 x1 x2 y0 S = some (v, SE) → mw 0 mv_c22 (some .boolean) 35 [some (.ref a), some (.int x1), some (.int x2)] [.int y0] (ms_mk L xs S) (some (.int v)) (ms_mk L xs SE) := by
    intro x1 x2 y0 S h
    rw [eJ35] at h
    exact mw_retZ rfl h
  obtain ⟨J34, eJ34, h⟩ := mlet_of h
  have hJ34 : ∀ (x1 : Int32) (x2 : Int32) , ∀ S, J34 x1 x2 S = some (v, SE) → mw 0 mv_c22 (some .boolean) 34 [some (.ref a), some (.int x1), some (.int x2)] [] (ms_mk L xs S) (some (.int v)) (ms_mk L xs SE) := by
    intro x1 x2 S h
    rw [eJ34] at h
    refine mw_psh (v := .int 0) rfl rfl rfl ?_
    exact mw_weak (hJ35 _ _ _ _ h) ⟨rfl, ⟨rfl, ⟨rfl, trivial⟩⟩⟩
  refine mw_psh (v := .ref a) rfl rfl rfl ?_
  refine mw_gC (v := (a + 5)) (k := 4) rfl (o_di_l ha).1 (o_di_l ha).2 rfl rfl rfl rfl ?_
  refine mw_psh (v := .int p0) rfl rfl rfl ?_
  obtain ⟨v1, S2, h1, h⟩ := mb_of h
  refine mw_lA rfl (Nat.le_trans (o_di_l ha).1 (Nat.le_add_right _ _)) (o_di_a ha).2.2.2.2.1 rfl h1 ?_
  refine mw_psh (v := .int p1) rfl rfl rfl ?_
  refine mw_if h rfl rfl rfl (fun _ h => ?_) (fun _ h => ?_)
  · exact mw_weak (hJ34 _ _ _ h) ⟨rfl, ⟨rfl, ⟨rfl, trivial⟩⟩⟩
  · obtain ⟨J30, eJ30, h⟩ := mlet_of h
    have hJ30 : ∀ (x1 : Int32) (x2 : Int32) , ∀ S, J30 x1 x2 S = some (v, SE) → mw 0 mv_c22 (some .boolean) 30 [some (.ref a), some (.int x1), some (.int x2)] [] (ms_mk L xs S) (some (.int v)) (ms_mk L xs SE) := by
      intro x1 x2 S h
      rw [eJ30] at h
      refine mw_psh (v := .int 1) rfl rfl rfl ?_
      refine mw_jmp (pc1 := 35) (st1 := [.int 1]) rfl rfl ?_
      exact mw_weak (hJ35 _ _ _ _ h) ⟨rfl, ⟨rfl, ⟨rfl, trivial⟩⟩⟩
    refine mw_psh (v := .ref a) rfl rfl rfl ?_
    refine mw_gC (v := (a + 6)) (k := 5) rfl (o_di_l ha).1 (o_di_l ha).2 rfl rfl rfl rfl ?_
    refine mw_psh (v := .int p0) rfl rfl rfl ?_
    obtain ⟨v3, S4, h1, h⟩ := mb_of h
    refine mw_lA rfl (Nat.le_trans (o_di_l ha).1 (Nat.le_add_right _ _)) (o_di_a ha).2.2.2.2.2 rfl h1 ?_
    refine mw_psh (v := .int (-1)) rfl rfl rfl ?_
    refine mw_if h rfl rfl rfl (fun _ h => ?_) (fun _ h => ?_)
    · exact mw_weak (hJ30 _ _ _ h) ⟨rfl, ⟨rfl, ⟨rfl, trivial⟩⟩⟩
    · refine mw_psh (v := .ref a) rfl rfl rfl ?_
      refine mw_gC (v := (a + 6)) (k := 5) rfl (o_di_l ha).1 (o_di_l ha).2 rfl rfl rfl rfl ?_
      refine mw_psh (v := .int p0) rfl rfl rfl ?_
      obtain ⟨v5, S6, h1, h⟩ := mb_of h
      refine mw_lA rfl (Nat.le_trans (o_di_l ha).1 (Nat.le_add_right _ _)) (o_di_a ha).2.2.2.2.2 rfl h1 ?_
      refine mw_psh (v := .int p1) rfl rfl rfl ?_
      refine mw_if h rfl rfl rfl (fun _ h => ?_) (fun _ h => ?_)
      · exact mw_weak (hJ34 _ _ _ h) ⟨rfl, ⟨rfl, ⟨rfl, trivial⟩⟩⟩
      · exact mw_weak (hJ30 _ _ _ h) ⟨rfl, ⟨rfl, ⟨rfl, trivial⟩⟩⟩
def f23_L4 (N : Nat) (a : Nat) (k36 : Int32 → Int32 → Int32 → mM Int32) : Nat → Int32 → Int32 → Int32 → mM Int32
  | 0, _, _, _ => mfail
  | n + 1, x1, x2, x3 => (mb (gI a 6) fun v1 => if x3 ≥ v1 then k36 x1 x2 x3 else (mlet (fun (x1 : Int32) (x2 : Int32) (x3 : Int32) (y0 : Int32) (y1 : Int32) => (f23_L4 N a k36 n x1 (y0 + y1) (x3 + 1))) fun J28 => mb (lA (a + 1) (dn a) x3) fun v3 => if v3 ≠ x1 then (J28 x1 x2 x3 x2 0) else (J28 x1 x2 x3 x2 1)))
/-- StraitHouse$Diary.countOn(I)I -/
def f23 (N : Nat) (a : Nat) (p0 : Int32) : mM Int32 := (f23_L4 N a (fun (x1 : Int32) (x2 : Int32) (x3 : Int32) => (mret x2)) N p0 0 0)
set_option maxHeartbeats 2000000 in
theorem f23_L4_ok {L N : Nat} {xs : Nat → Int32} {v : Int32} {SE : ms_S} {a : Nat} {k36 : Int32 → Int32 → Int32 → mM Int32} (ha : o_di a) (hk36 : ∀ (x1 : Int32) (x2 : Int32) (x3 : Int32) , ∀ S, k36 x1 x2 x3 S = some (v, SE) → mw 0 mv_c23 (some .int) 36 [some (.ref a), some (.int x1), some (.int x2), some (.int x3)] [] (ms_mk L xs S) (some (.int v)) (ms_mk L xs SE)) : ∀ (n : Nat) (x1 : Int32) (x2 : Int32) (x3 : Int32), ∀ S, f23_L4 N a k36 n x1 x2 x3 S = some (v, SE) → mw 0 mv_c23 (some .int) 4 [some (.ref a), some (.int x1), some (.int x2), some (.int x3)] [] (ms_mk L xs S) (some (.int v)) (ms_mk L xs SE) := by
  intro n
  induction n with
  | zero => intro x1 x2 x3 S h; cases h
  | succ n ih =>
    intro x1 x2 x3 S h
    rw [f23_L4] at h
    refine mw_psh (v := .int x3) rfl rfl rfl ?_
    refine mw_psh (v := .ref a) rfl rfl rfl ?_
    obtain ⟨v1, S2, h1, h⟩ := mb_of h
    refine mw_gI (k := 6) rfl (o_di_l ha).1 (o_di_l ha).2 rfl rfl rfl rfl h1 ?_
    refine mw_if h rfl rfl rfl (fun _ h => ?_) (fun _ h => ?_)
    · exact mw_weak (hk36 _ _ _ _ h) ⟨rfl, ⟨rfl, ⟨rfl, ⟨rfl, trivial⟩⟩⟩⟩
    · obtain ⟨J28, eJ28, h⟩ := mlet_of h
      have hJ28 : ∀ (x1 : Int32) (x2 : Int32) (x3 : Int32) (y0 : Int32) (y1 : Int32) , ∀ S, J28 x1 x2 x3 y0 y1 S = some (v, SE) → mw 0 mv_c23 (some .int) 28 [some (.ref a), some (.int x1), some (.int x2), some (.int x3)] [.int y1, .int y0] (ms_mk L xs S) (some (.int v)) (ms_mk L xs SE) := by
        intro x1 x2 x3 y0 y1 S h
        rw [eJ28] at h
        refine mw_stk (st1 := [.int (y0 + y1)]) rfl rfl rfl ?_
        refine mw_sto (lo1 := [some (.ref a), some (.int x1), some (.int (y0 + y1)), some (.int x3)]) rfl rfl rfl ?_
        refine mw_sto (lo1 := [some (.ref a), some (.int x1), some (.int (y0 + y1)), some (.int (x3 + 1))]) rfl rfl rfl ?_
        refine mw_jmp (pc1 := 4) (st1 := []) rfl rfl ?_
        exact mw_weak (ih _ _ _ _ h) ⟨rfl, ⟨rfl, ⟨rfl, ⟨rfl, trivial⟩⟩⟩⟩
      refine mw_psh (v := .int x2) rfl rfl rfl ?_
      refine mw_psh (v := .ref a) rfl rfl rfl ?_
      refine mw_gC (v := (a + 1)) (k := 0) rfl (o_di_l ha).1 (o_di_l ha).2 rfl rfl rfl rfl ?_
      refine mw_psh (v := .int x3) rfl rfl rfl ?_
      obtain ⟨v3, S4, h1, h⟩ := mb_of h
      refine mw_lA rfl (Nat.le_trans (o_di_l ha).1 (Nat.le_add_right _ _)) (o_di_a ha).1 rfl h1 ?_
      refine mw_psh (v := .int x1) rfl rfl rfl ?_
      refine mw_if h rfl rfl rfl (fun _ h => ?_) (fun _ h => ?_)
      · refine mw_psh (v := .int 0) rfl rfl rfl ?_
        exact mw_weak (hJ28 _ _ _ _ _ _ h) ⟨rfl, ⟨rfl, ⟨rfl, ⟨rfl, trivial⟩⟩⟩⟩
      · refine mw_psh (v := .int 1) rfl rfl rfl ?_
        refine mw_jmp (pc1 := 28) (st1 := [.int 1, .int x2]) rfl rfl ?_
        exact mw_weak (hJ28 _ _ _ _ _ _ h) ⟨rfl, ⟨rfl, ⟨rfl, ⟨rfl, trivial⟩⟩⟩⟩
set_option maxHeartbeats 2000000 in
theorem f23_ok {L N : Nat} {xs : Nat → Int32} {v : Int32} {S SE : ms_S} {a : Nat} {p0 : Int32} (ha : o_di a) (h : f23 N a p0 S = some (v, SE)) : mw_Does 1 23 [.ref a, .int p0] (ms_mk L xs S) (some (.int v)) (ms_mk L xs SE) := by
  refine mw_enter mv_at23 rfl (Nat.le_of_ble_eq_true rfl) ?_
  show mw _ _ _ 0 [some (.ref a), some (.int p0), none, none] [] _ _ _
  unfold f23 at h
  refine mw_psh (v := .int 0) rfl rfl rfl ?_
  refine mw_sto (lo1 := [some (.ref a), some (.int p0), some (.int 0), none]) rfl rfl rfl ?_
  refine mw_psh (v := .int 0) rfl rfl rfl ?_
  refine mw_sto (lo1 := [some (.ref a), some (.int p0), some (.int 0), some (.int 0)]) rfl rfl rfl ?_
  refine mw_weak (f23_L4_ok ha ?_ N _ _ _ _ h) ⟨rfl, ⟨rfl, ⟨rfl, ⟨rfl, trivial⟩⟩⟩⟩
  · intro x1 x2 x3 S h
    refine mw_psh (v := .int x2) rfl rfl rfl ?_
    rw [(mret_of h).1, (mret_of h).2]
    exact mw_retI rfl
/-- StraitHouse$Evaluator.give(II)V -/
def f25 (N : Nat) (p0 : Int32) (p1 : Int32) : mM Unit := (mlet (fun (x1 : Int32) (x2 : Int32) => (mret ())) fun J22 => if p0 < 100 then J22 p0 p1 else (if p0 ≥ 111 then J22 p0 p1 else (mb (sA 56 11 (p0 - 100) p1) fun _ => J22 p0 p1)))
set_option maxHeartbeats 2000000 in
theorem f25_ok {L N : Nat} {xs : Nat → Int32} {v : Unit} {S SE : ms_S} {p0 : Int32} {p1 : Int32} (h : f25 N p0 p1 S = some (v, SE)) : mw_Does 1 25 [.ref 54, .int p0, .int p1] (ms_mk L xs S) none (ms_mk L xs SE) := by
  refine mw_enter mv_at25 rfl (Nat.le_of_ble_eq_true rfl) ?_
  show mw _ _ _ 0 [some (.ref 54), some (.int p0), some (.int p1)] [] _ _ _
  unfold f25 at h
  obtain ⟨J22, eJ22, h⟩ := mlet_of h
  have hJ22 : ∀ (x1 : Int32) (x2 : Int32) , ∀ S, J22 x1 x2 S = some (v, SE) → mw 0 mv_c25 none 22 [some (.ref 54), some (.int x1), some (.int x2)] [] (ms_mk L xs S) none (ms_mk L xs SE) := by
    intro x1 x2 S h
    rw [eJ22] at h
    rw [(mret_of h).2]
    exact mw_retV rfl
  refine mw_psh (v := .int p0) rfl rfl rfl ?_
  refine mw_psh (v := .int 100) rfl rfl rfl ?_
  refine mw_if h rfl rfl rfl (fun _ h => ?_) (fun _ h => ?_)
  · exact mw_weak (hJ22 _ _ _ h) ⟨rfl, ⟨rfl, ⟨rfl, trivial⟩⟩⟩
  · refine mw_psh (v := .int p0) rfl rfl rfl ?_
    refine mw_psh (v := .int 111) rfl rfl rfl ?_
    refine mw_if h rfl rfl rfl (fun _ h => ?_) (fun _ h => ?_)
    · exact mw_weak (hJ22 _ _ _ h) ⟨rfl, ⟨rfl, ⟨rfl, trivial⟩⟩⟩
    · refine mw_psh (v := .ref 54) rfl rfl rfl ?_
      refine mw_gC (v := 56) (k := 1) rfl (by decide) rfl rfl rfl rfl rfl ?_
      refine mw_psh (v := .int p0) rfl rfl rfl ?_
      refine mw_psh (v := .int 100) rfl rfl rfl ?_
      refine mw_stk (st1 := [.int (p0 - 100), .ref 56]) rfl rfl rfl ?_
      refine mw_psh (v := .int p1) rfl rfl rfl ?_
      obtain ⟨_, S1, h1, h⟩ := mb_of h
      refine mw_sA rfl (by decide) rfl rfl h1 ?_
      exact mw_weak (hJ22 _ _ _ h) ⟨rfl, ⟨rfl, ⟨rfl, trivial⟩⟩⟩
/-- StraitHouse$Evaluator.giveLand(IZ)V -/
def f26 (N : Nat) (p0 : Int32) (p1 : Int32) : mM Unit := (mlet (fun (x1 : Int32) (x2 : Int32) (y1 : Int32) (y2 : Int32) => (mb (f25 N y1 y2) fun _ => mret ())) fun J17 => mb (pI 54 2 p0) fun _ => if p1 = 0 then (J17 p0 p1 107 0) else (J17 p0 p1 107 1))
set_option maxHeartbeats 2000000 in
theorem f26_ok {L N : Nat} {xs : Nat → Int32} {v : Unit} {S SE : ms_S} {p0 : Int32} {p1 : Int32} (h : f26 N p0 p1 S = some (v, SE)) : mw_Does 2 26 [.ref 54, .int p0, .int p1] (ms_mk L xs S) none (ms_mk L xs SE) := by
  refine mw_enter mv_at26 rfl (Nat.le_of_ble_eq_true rfl) ?_
  show mw _ _ _ 0 [some (.ref 54), some (.int p0), some (.int p1)] [] _ _ _
  unfold f26 at h
  obtain ⟨J17, eJ17, h⟩ := mlet_of h
  have hJ17 : ∀ (x1 : Int32) (x2 : Int32) (y1 : Int32) (y2 : Int32) , ∀ S, J17 x1 x2 y1 y2 S = some (v, SE) → mw 1 mv_c26 none 17 [some (.ref 54), some (.int x1), some (.int x2)] [.int y2, .int y1, .ref 54] (ms_mk L xs S) none (ms_mk L xs SE) := by
    intro x1 x2 y1 y2 S h
    rw [eJ17] at h
    obtain ⟨_, S1, h1, h⟩ := mb_of h
    refine mw_call (j := 25) (r1 := none) rfl rfl (by decide) (ms_argV (as := [.int y1, .int y2]) (rest := []) mv_at25 (by decide) rfl rfl rfl (Nat.le_of_ble_eq_true rfl)) ((f25_ok h1).up (by decide)) rfl ?_
    rw [(mret_of h).2]
    exact mw_retV rfl
  refine mw_psh (v := .ref 54) rfl rfl rfl ?_
  refine mw_psh (v := .int p0) rfl rfl rfl ?_
  obtain ⟨_, S2, h1, h⟩ := mb_of h
  refine mw_pI (k := 2) rfl (by decide) rfl rfl rfl rfl rfl h1 ?_
  refine mw_psh (v := .ref 54) rfl rfl rfl ?_
  refine mw_psh (v := .int 107) rfl rfl rfl ?_
  refine mw_psh (v := .int p1) rfl rfl rfl ?_
  refine mw_if h rfl rfl rfl (fun _ h => ?_) (fun _ h => ?_)
  · refine mw_psh (v := .int 0) rfl rfl rfl ?_
    exact mw_weak (hJ17 _ _ _ _ _ h) ⟨rfl, ⟨rfl, ⟨rfl, trivial⟩⟩⟩
  · refine mw_psh (v := .int 1) rfl rfl rfl ?_
    refine mw_jmp (pc1 := 17) (st1 := [.int 1, .int 107, .ref 54]) rfl rfl ?_
    exact mw_weak (hJ17 _ _ _ _ _ h) ⟨rfl, ⟨rfl, ⟨rfl, trivial⟩⟩⟩
/-- StraitHouse$Evaluator.giveShip(LStraitHouse$Ship;)V -/
def f27 (N : Nat) (a0 : Nat) : mM Unit := (mlet (fun (y1 : Int32) (y2 : Int32) => (mb (f25 N y1 y2) fun _ => mret ())) fun J87 => mb (gI a0 0) fun v2 => mb (gI a0 8) fun v4 => mb (f26 N v2 v4) fun _ => mb (gI a0 1) fun v7 => mb (f25 N 100 v7) fun _ => mb (gI a0 2) fun v10 => mb (f25 N 101 v10) fun _ => mb (gI a0 3) fun v13 => mb (f25 N 102 v13) fun _ => mb (gI a0 4) fun v16 => mb (f25 N 103 v16) fun _ => mb (gI a0 5) fun v19 => mb (f25 N 104 v19) fun _ => mb (gI a0 6) fun v22 => mb (f25 N 105 v22) fun _ => mb (gI a0 7) fun v25 => if v25 = 0 then (J87 106 0) else (J87 106 1))
set_option maxHeartbeats 2000000 in
theorem f27_ok {L N : Nat} {xs : Nat → Int32} {v : Unit} {S SE : ms_S} {a0 : Nat} (ha0 : o_sh a0) (h : f27 N a0 S = some (v, SE)) : mw_Does 3 27 [.ref 54, .ref a0] (ms_mk L xs S) none (ms_mk L xs SE) := by
  refine mw_enter mv_at27 rfl (Nat.le_of_ble_eq_true rfl) ?_
  show mw _ _ _ 0 [some (.ref 54), some (.ref a0)] [] _ _ _
  unfold f27 at h
  obtain ⟨J87, eJ87, h⟩ := mlet_of h
  have hJ87 : ∀ (y1 : Int32) (y2 : Int32) , ∀ S, J87 y1 y2 S = some (v, SE) → mw 2 mv_c27 none 87 [some (.ref 54), some (.ref a0)] [.int y2, .int y1, .ref 54] (ms_mk L xs S) none (ms_mk L xs SE) := by
    intro y1 y2 S h
    rw [eJ87] at h
    obtain ⟨_, S1, h1, h⟩ := mb_of h
    refine mw_call (j := 25) (r1 := none) rfl rfl (by decide) (ms_argV (as := [.int y1, .int y2]) (rest := []) mv_at25 (by decide) rfl rfl rfl (Nat.le_of_ble_eq_true rfl)) ((f25_ok h1).up (by decide)) rfl ?_
    rw [(mret_of h).2]
    exact mw_retV rfl
  refine mw_psh (v := .ref 54) rfl rfl rfl ?_
  refine mw_psh (v := .ref a0) rfl rfl rfl ?_
  obtain ⟨v2, S3, h1, h⟩ := mb_of h
  refine mw_gI (k := 0) rfl (o_sh_l ha0).1 (o_sh_l ha0).2 rfl rfl rfl rfl h1 ?_
  refine mw_psh (v := .ref a0) rfl rfl rfl ?_
  obtain ⟨v4, S5, h1, h⟩ := mb_of h
  refine mw_gZ (k := 8) rfl (o_sh_l ha0).1 (o_sh_l ha0).2 rfl rfl rfl rfl h1 ?_
  obtain ⟨_, S6, h1, h⟩ := mb_of h
  refine mw_call (j := 26) (r1 := none) rfl rfl (by decide) (ms_argV (as := [.int v2, .int v4]) (rest := []) mv_at26 (by decide) rfl rfl rfl (Nat.le_of_ble_eq_true rfl)) ((f26_ok h1).up (by decide)) rfl ?_
  refine mw_psh (v := .ref 54) rfl rfl rfl ?_
  refine mw_psh (v := .int 100) rfl rfl rfl ?_
  refine mw_psh (v := .ref a0) rfl rfl rfl ?_
  obtain ⟨v7, S8, h1, h⟩ := mb_of h
  refine mw_gI (k := 1) rfl (o_sh_l ha0).1 (o_sh_l ha0).2 rfl rfl rfl rfl h1 ?_
  obtain ⟨_, S9, h1, h⟩ := mb_of h
  refine mw_call (j := 25) (r1 := none) rfl rfl (by decide) (ms_argV (as := [.int 100, .int v7]) (rest := []) mv_at25 (by decide) rfl rfl rfl (Nat.le_of_ble_eq_true rfl)) ((f25_ok h1).up (by decide)) rfl ?_
  refine mw_psh (v := .ref 54) rfl rfl rfl ?_
  refine mw_psh (v := .int 101) rfl rfl rfl ?_
  refine mw_psh (v := .ref a0) rfl rfl rfl ?_
  obtain ⟨v10, S11, h1, h⟩ := mb_of h
  refine mw_gI (k := 2) rfl (o_sh_l ha0).1 (o_sh_l ha0).2 rfl rfl rfl rfl h1 ?_
  obtain ⟨_, S12, h1, h⟩ := mb_of h
  refine mw_call (j := 25) (r1 := none) rfl rfl (by decide) (ms_argV (as := [.int 101, .int v10]) (rest := []) mv_at25 (by decide) rfl rfl rfl (Nat.le_of_ble_eq_true rfl)) ((f25_ok h1).up (by decide)) rfl ?_
  refine mw_psh (v := .ref 54) rfl rfl rfl ?_
  refine mw_psh (v := .int 102) rfl rfl rfl ?_
  refine mw_psh (v := .ref a0) rfl rfl rfl ?_
  obtain ⟨v13, S14, h1, h⟩ := mb_of h
  refine mw_gI (k := 3) rfl (o_sh_l ha0).1 (o_sh_l ha0).2 rfl rfl rfl rfl h1 ?_
  obtain ⟨_, S15, h1, h⟩ := mb_of h
  refine mw_call (j := 25) (r1 := none) rfl rfl (by decide) (ms_argV (as := [.int 102, .int v13]) (rest := []) mv_at25 (by decide) rfl rfl rfl (Nat.le_of_ble_eq_true rfl)) ((f25_ok h1).up (by decide)) rfl ?_
  refine mw_psh (v := .ref 54) rfl rfl rfl ?_
  refine mw_psh (v := .int 103) rfl rfl rfl ?_
  refine mw_psh (v := .ref a0) rfl rfl rfl ?_
  obtain ⟨v16, S17, h1, h⟩ := mb_of h
  refine mw_gI (k := 4) rfl (o_sh_l ha0).1 (o_sh_l ha0).2 rfl rfl rfl rfl h1 ?_
  obtain ⟨_, S18, h1, h⟩ := mb_of h
  refine mw_call (j := 25) (r1 := none) rfl rfl (by decide) (ms_argV (as := [.int 103, .int v16]) (rest := []) mv_at25 (by decide) rfl rfl rfl (Nat.le_of_ble_eq_true rfl)) ((f25_ok h1).up (by decide)) rfl ?_
  refine mw_psh (v := .ref 54) rfl rfl rfl ?_
  refine mw_psh (v := .int 104) rfl rfl rfl ?_
  refine mw_psh (v := .ref a0) rfl rfl rfl ?_
  obtain ⟨v19, S20, h1, h⟩ := mb_of h
  refine mw_gI (k := 5) rfl (o_sh_l ha0).1 (o_sh_l ha0).2 rfl rfl rfl rfl h1 ?_
  obtain ⟨_, S21, h1, h⟩ := mb_of h
  refine mw_call (j := 25) (r1 := none) rfl rfl (by decide) (ms_argV (as := [.int 104, .int v19]) (rest := []) mv_at25 (by decide) rfl rfl rfl (Nat.le_of_ble_eq_true rfl)) ((f25_ok h1).up (by decide)) rfl ?_
  refine mw_psh (v := .ref 54) rfl rfl rfl ?_
  refine mw_psh (v := .int 105) rfl rfl rfl ?_
  refine mw_psh (v := .ref a0) rfl rfl rfl ?_
  obtain ⟨v22, S23, h1, h⟩ := mb_of h
  refine mw_gI (k := 6) rfl (o_sh_l ha0).1 (o_sh_l ha0).2 rfl rfl rfl rfl h1 ?_
  obtain ⟨_, S24, h1, h⟩ := mb_of h
  refine mw_call (j := 25) (r1 := none) rfl rfl (by decide) (ms_argV (as := [.int 105, .int v22]) (rest := []) mv_at25 (by decide) rfl rfl rfl (Nat.le_of_ble_eq_true rfl)) ((f25_ok h1).up (by decide)) rfl ?_
  refine mw_psh (v := .ref 54) rfl rfl rfl ?_
  refine mw_psh (v := .int 106) rfl rfl rfl ?_
  refine mw_psh (v := .ref a0) rfl rfl rfl ?_
  obtain ⟨v25, S26, h1, h⟩ := mb_of h
  refine mw_gZ (k := 7) rfl (o_sh_l ha0).1 (o_sh_l ha0).2 rfl rfl rfl rfl h1 ?_
  refine mw_if h rfl rfl rfl (fun _ h => ?_) (fun _ h => ?_)
  · refine mw_psh (v := .int 0) rfl rfl rfl ?_
    exact mw_weak (hJ87 _ _ _ h) ⟨rfl, ⟨rfl, trivial⟩⟩
  · refine mw_psh (v := .int 1) rfl rfl rfl ?_
    refine mw_jmp (pc1 := 87) (st1 := [.int 1, .int 106, .ref 54]) rfl rfl ?_
    exact mw_weak (hJ87 _ _ _ h) ⟨rfl, ⟨rfl, trivial⟩⟩
/-- StraitHouse$Evaluator.givePassage(ZII)V -/
def f28 (N : Nat) (p0 : Int32) (p1 : Int32) (p2 : Int32) : mM Unit := (mlet (fun (x1 : Int32) (x2 : Int32) (x3 : Int32) (y1 : Int32) (y2 : Int32) => (mb (f25 N y1 y2) fun _ => mb (f25 N 109 x2) fun _ => mb (f25 N 110 x3) fun _ => mret ())) fun J12 => if p0 = 0 then (J12 p0 p1 p2 108 0) else (J12 p0 p1 p2 108 1))
set_option maxHeartbeats 2000000 in
theorem f28_ok {L N : Nat} {xs : Nat → Int32} {v : Unit} {S SE : ms_S} {p0 : Int32} {p1 : Int32} {p2 : Int32} (h : f28 N p0 p1 p2 S = some (v, SE)) : mw_Does 2 28 [.ref 54, .int p0, .int p1, .int p2] (ms_mk L xs S) none (ms_mk L xs SE) := by
  refine mw_enter mv_at28 rfl (Nat.le_of_ble_eq_true rfl) ?_
  show mw _ _ _ 0 [some (.ref 54), some (.int p0), some (.int p1), some (.int p2)] [] _ _ _
  unfold f28 at h
  obtain ⟨J12, eJ12, h⟩ := mlet_of h
  have hJ12 : ∀ (x1 : Int32) (x2 : Int32) (x3 : Int32) (y1 : Int32) (y2 : Int32) , ∀ S, J12 x1 x2 x3 y1 y2 S = some (v, SE) → mw 1 mv_c28 none 12 [some (.ref 54), some (.int x1), some (.int x2), some (.int x3)] [.int y2, .int y1, .ref 54] (ms_mk L xs S) none (ms_mk L xs SE) := by
    intro x1 x2 x3 y1 y2 S h
    rw [eJ12] at h
    obtain ⟨_, S1, h1, h⟩ := mb_of h
    refine mw_call (j := 25) (r1 := none) rfl rfl (by decide) (ms_argV (as := [.int y1, .int y2]) (rest := []) mv_at25 (by decide) rfl rfl rfl (Nat.le_of_ble_eq_true rfl)) ((f25_ok h1).up (by decide)) rfl ?_
    refine mw_psh (v := .ref 54) rfl rfl rfl ?_
    refine mw_psh (v := .int 109) rfl rfl rfl ?_
    refine mw_psh (v := .int x2) rfl rfl rfl ?_
    obtain ⟨_, S2, h1, h⟩ := mb_of h
    refine mw_call (j := 25) (r1 := none) rfl rfl (by decide) (ms_argV (as := [.int 109, .int x2]) (rest := []) mv_at25 (by decide) rfl rfl rfl (Nat.le_of_ble_eq_true rfl)) ((f25_ok h1).up (by decide)) rfl ?_
    refine mw_psh (v := .ref 54) rfl rfl rfl ?_
    refine mw_psh (v := .int 110) rfl rfl rfl ?_
    refine mw_psh (v := .int x3) rfl rfl rfl ?_
    obtain ⟨_, S3, h1, h⟩ := mb_of h
    refine mw_call (j := 25) (r1 := none) rfl rfl (by decide) (ms_argV (as := [.int 110, .int x3]) (rest := []) mv_at25 (by decide) rfl rfl rfl (Nat.le_of_ble_eq_true rfl)) ((f25_ok h1).up (by decide)) rfl ?_
    rw [(mret_of h).2]
    exact mw_retV rfl
  refine mw_psh (v := .ref 54) rfl rfl rfl ?_
  refine mw_psh (v := .int 108) rfl rfl rfl ?_
  refine mw_psh (v := .int p0) rfl rfl rfl ?_
  refine mw_if h rfl rfl rfl (fun _ h => ?_) (fun _ h => ?_)
  · refine mw_psh (v := .int 0) rfl rfl rfl ?_
    exact mw_weak (hJ12 _ _ _ _ _ _ h) ⟨rfl, ⟨rfl, ⟨rfl, ⟨rfl, trivial⟩⟩⟩⟩
  · refine mw_psh (v := .int 1) rfl rfl rfl ?_
    refine mw_jmp (pc1 := 12) (st1 := [.int 1, .int 108, .ref 54]) rfl rfl ?_
    exact mw_weak (hJ12 _ _ _ _ _ _ h) ⟨rfl, ⟨rfl, ⟨rfl, ⟨rfl, trivial⟩⟩⟩⟩
