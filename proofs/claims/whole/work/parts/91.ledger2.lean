/-! judgeAll; the reference's loop -/
theorem stR_rev {g : Nat → Int32} {f : Nat → Int32} : ∀ (r : List Nat) (n : Nat), stR f n (r.map g) → ∀ j, j < n → f j = g (r.reverse.getD j 0) := by
  intro r
  induction r with
  | nil => intro n h j hj; have h : n = 0 := h; omega
  | cons x r ih =>
    intro n h j hj
    obtain ⟨h1, h2, h3⟩ := h
    have hl : r.length = n - 1 := by have := stR_len _ _ h3; simpa using this
    rw [List.reverse_cons, List.getD_eq_getElem?_getD]
    by_cases hjn : j = n - 1
    · subst hjn
      rw [List.getElem?_append_right (by simp [hl]), h2]
      simp [hl]
    · rw [List.getElem?_append_left (by simp; omega), ← List.getD_eq_getElem?_getD]
      exact ih (n - 1) h3 j (by omega)
theorem nodup_rev {l : List Nat} (h : l.Nodup) : l.reverse.Nodup := by
  have h : List.Pairwise (fun a b => a ≠ b) l := h
  show List.Pairwise (fun a b => a ≠ b) l.reverse
  rw [List.pairwise_reverse]
  exact h.imp (fun q => Ne.symm q)
theorem insR_nodup {gt : Nat → Nat → Bool} {f : Nat} : ∀ l : List Nat, l.Nodup → f ∉ l → (insR gt f l).Nodup := by
  intro l
  induction l with
  | nil => intro _ _; simp [insR]
  | cons x r ih =>
    intro hn hf
    have hn2 := List.nodup_cons.mp hn
    have hf2 : f ≠ x ∧ f ∉ r := by simpa using hf
    unfold insR
    split
    · refine List.nodup_cons.mpr ⟨fun h => ?_, ih hn2.2 hf2.2⟩
      rcases (insR_mem _ _).1 h with h | h
      · exact hf2.1 h.symm
      · exact hn2.1 h
    · exact List.nodup_cons.mpr ⟨hf, hn⟩
theorem ordC_nodup {A : Ab} {k : Int32} : ∀ n, (ordC A k n).Nodup := by
  intro n
  induction n with
  | zero => exact List.nodup_nil
  | succ n ih =>
    unfold ordC
    split
    · exact insR_nodup _ ih (fun h => by have := (ordC_lt n n h).1; omega)
    · exact ih
theorem ordM_nodup {A : Ab} {k : Int32} : ∀ n, (ordM A k n).Nodup := by
  intro n
  induction n with
  | zero => exact List.nodup_nil
  | succ n ih =>
    unfold ordM
    split
    · exact insR_nodup _ ih (fun h => by have := (ordM_lt n n h).1; omega)
    · exact ih
def ledC (A : Ab) (s : Nat) (k : Int32) : Lst := ((ordC A k (aN A 4)).reverse.foldl (stepC A s) (0, q0)).2
section LE2
variable {N : Nat} {A : Ab} {st pc s : Nat}
/-- what judgeAll leaves behind -/
def LedC (S : ms_S) (A : Ab) (s : Nat) (k : Int32) : Prop := cLd S (ledC A s k) ∧ ms_I S 57 9 = Int32.ofNat (ordC A k (aN A 4)).length ∧ stR (ms_A S 58) (ordC A k (aN A 4)).length ((ordC A k (aN A 4)).map fun y => Int32.ofNat (keyF A y))
theorem q37 {S : ms_S} {k : Int32} (hN : 1300 ≤ N) (h : cBase S A) (hw : WF0 A) (hv : WFv A) (hs : s < 4) (oc : o_cv pc) (hcv : cCvAt S A pc s) (ost : o_st st) (hst : cStrAt S A st) (hk : ms_I S 57 6 = k) : ∃ S1, f37 N st pc S = some ((), S1) ∧ LedC S1 A s k ∧ refL S1 st pc ∧ (∀ j, j ≠ 9 → ms_I S1 57 j = ms_I S 57 j) ∧ ∀ b, ¬ (54 ≤ b ∧ b ≤ 63) → Eqc S S1 b := by
  have hn3 : aN A 3 ≤ 20 := hw.1.2.2.2.1
  have hn4 : aN A 4 ≤ 200 := hw.1.2.2.2.2.1
  have X0 : ∃ X, X = ms_setR (ms_setR (ms_setR (ms_setR (ms_setR S 57 0 (some 40)) 57 1 (some 39)) 57 2 (some st)) 57 3 (some pc)) 57 4 (some 54) := ⟨_, rfl⟩
  obtain ⟨X, hX⟩ := X0
  have oX : ∀ b, b ≠ 57 → Eqc S X b := fun b hb => by rw [hX]; exact ((((Eqc_R hb).tr (Eqc_R hb)).tr (Eqc_R hb)).tr (Eqc_R hb)).tr (Eqc_R hb)
  have rX : refL X st pc := by rw [hX]; unfold refL; refine ⟨?_, ?_, ?_, ?_, ?_⟩ <;> simp [mG]
  have iX : ms_I X 57 = ms_I S 57 := by rw [hX]; simp only [mGo]
  obtain ⟨S1, e1, r1, r2, r3, r4, r5⟩ := q38 (N := N) (A := A) (k := k) (S := X) (by omega) hw (cDi_fr h.2.2.2.2.1 (fun b h1 h2 => oX b (by omega))) rX.1 (by rw [iX]; exact hk)
  obtain ⟨S2, e2, f2, k2⟩ := q40 (N := N) (S := S1) (by omega)
  obtain ⟨S3, e3, f3, k3⟩ := q41 (N := N) (S := S2) (by omega)
  have o3 : ∀ b, ¬ (57 ≤ b ∧ b ≤ 63) → Eqc S S3 b := fun b hb => (((oX b (by omega)).tr (r5 b (by omega) (by omega))).tr (k2 b (by omega))).tr (k3 b (by omega))
  have hb3 : cBase S3 A := cBase_fr h hn3 (fun j _ => by rw [(o3 4 (by omega)).1]) (by rw [(o3 4 (by omega)).2.2.1]) ⟨by rw [(o3 6 (by omega)).1], by rw [(o3 6 (by omega)).1]⟩ (fun b _ _ _ _ _ _ _ hb => o3 b (by omega))
  have R3 : ms_R S3 57 = ms_R X 57 := by rw [(k3 57 (by omega)).2.2.1, (k2 57 (by omega)).2.2.1, r4]
  have I3 : ms_I S3 57 = ms_I S1 57 := by rw [(k3 57 (by omega)).1, (k2 57 (by omega)).1]
  have A3 : ms_A S3 58 = ms_A S1 58 := by rw [(k3 58 (by omega)).2.2.2.1, (k2 58 (by omega)).2.2.2.1]
  have hlen : (ordC A k (aN A 4)).length ≤ 200 := by have := ordC_len (A := A) (k := k) (aN A 4); omega
  have hrefl3 : refL S3 st pc := by unfold refL; rw [R3]; exact rX
  obtain ⟨S4, p4, e4, q4, o4⟩ := judgeL (N := N) (A := A) (st := st) (pc := pc) (s := s) (S0 := S3) (K := fun (x6 : Int32) (x7 : Int32) => (mret ())) (len := (ordC A k (aN A 4)).length) hN hb3 hw hv hs oc (cCvAt_fr hcv (fun b h1 h2 => o3 b (by rcases oc with rfl | rfl | rfl | rfl | rfl <;> omega))) ost (cStrAt_fr hst (fun b h1 h2 => o3 b (by rcases ost with rfl | rfl <;> omega))) hrefl3 (by rw [I3]; exact r1) hlen (ordC A k (aN A 4)).reverse 0 N 0 q0 S3 (by simp) (by simp; omega) (fun j hj => by
    rw [A3, Nat.zero_add]
    exact stR_rev (g := fun y => Int32.ofNat (keyF A y)) _ _ r2 j (by simpa using hj)) (fun y hy => (ordC_lt _ y (by simpa using hy)).1) (nodup_rev (ordC_nodup _)) ⟨fun i hi => f3 i hi, fun j hj => by
      have := f2 j hj
      rw [(k3 59 (by omega)).2.2.2.1, (k3 60 (by omega)).2.2.2.1, (k3 61 (by omega)).2.2.2.1]
      exact this⟩ (fun y _ => ⟨rfl, rfl⟩) (fun _ _ => rfl) (fun _ _ _ => Eqc.rf)
  refine ⟨S4, ?_, ⟨q4, ?_, ?_⟩, ?_, fun j hj => ?_, fun b hb => (o3 b (by omega)).tr (o4 b (by omega) (by omega))⟩
  · unfold f37
    have epR : ∀ {β : Type} {k r : Nat} {f : Unit → mM β} {X : ms_S}, mb (pR 57 k r) f X = f () (ms_setR X 57 k (some r)) := fun {_ _ _ _ _} => rfl
    rw [epR, epR, epR, epR, epR, ← hX]
    have m38 : ∀ {β : Type} {f' : Unit → mM β}, mb (f38 N) f' X = f' () S1 := by intro β f'; simp only [mb, e1]
    have m40 : ∀ {β : Type} {f' : Unit → mM β}, mb (f40 N) f' S1 = f' () S2 := by intro β f'; simp only [mb, e2]
    have m41 : ∀ {β : Type} {f' : Unit → mM β}, mb (f41 N) f' S2 = f' () S3 := by intro β f'; simp only [mb, e3]
    rw [m38, m40, m41]
    exact e4
  · rw [(o4 57 (by omega) (by omega)).1, I3]; exact r1
  · rw [(o4 58 (by omega) (by omega)).2.2.2.1, A3]; exact r2
  · unfold refL; rw [(o4 57 (by omega) (by omega)).2.2.1]; exact hrefl3
  · rw [(o4 57 (by omega) (by omega)).1, I3, r3 j hj, iX]
/-! the reference -/
def runL (A : Ab) (s : Nat) (k : Int32) (L : List Nat) (q : Lst) : Lst := L.foldl (fun q f => stepF A s (caseF A (aX A 20 f) k) q f) q
def mLd (S : ms_S) (A : Ab) (q : Lst) : Prop := (∀ i, i < aN A 3 → ms_A S 179 i = q.1 i ∧ (q.1 i ≠ 0 → ms_A S 178 i = q.2.1 i)) ∧ ∀ j, j < aN A 4 → ms_A S 174 j = q.2.2.1 j ∧ ms_A S 175 j = q.2.2.2.1 j ∧ (q.2.2.1 j = 0 → ms_A S 176 j = q.2.2.2.2 j)
/-- what the reference's run may change -/
def offG (S S1 : ms_S) : Prop := (∀ k, tellM k ∨ k = 79 → ms_I S1 131 k = ms_I S 131 k) ∧ ∀ b, b ≠ 131 → b ≠ 154 → b ≠ 166 → ¬ (174 ≤ b ∧ b ≤ 176) → ¬ (178 ≤ b ∧ b ≤ 179) → Eqc S S1 b
theorem offG.tr {S S1 S2 : ms_S} (h : offG S S1) (k : offG S1 S2) : offG S S2 := ⟨fun j hj => (k.1 j hj).trans (h.1 j hj), fun b h1 h2 h3 h4 h5 => (h.2 b h1 h2 h3 h4 h5).tr (k.2 b h1 h2 h3 h4 h5)⟩
theorem offG_base {S S1 : ms_S} (h : mBase S A) (ho : offG S S1) : mBase S1 A := mBase_fr h (fun k hk => ho.1 k (Or.inl hk)) (fun b h1 h2 => ho.2 b (by omega) (by unfold scrM at h2; omega) (by unfold scrM at h2; omega) (by unfold scrM at h2; omega) (by unfold scrM at h2; omega))
end LE2
