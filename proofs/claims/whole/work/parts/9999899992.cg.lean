/-! what the caches hang on -/
def CG (A A1 : Ab) : Prop := (∀ k, k ≠ 0 → k ≠ 5 → aN A1 k = aN A k) ∧ (∀ r, r ≠ 0 → ¬ (30 ≤ r ∧ r < 36) → r ≠ 40 → aX A1 r = aX A r) ∧ aX A1 40 1 = aX A 40 1 ∧ aE A1 = aE A
section CGS
variable {A A1 : Ab} {s : Nat}
theorem CG_of (h : core A1 = core A) : CG A A1 := by
  have h1 : (core A1).1 = (core A).1 := by rw [h]
  have h2 : (core A1).2.1 = (core A).2.1 := by rw [h]
  have h3 : (core A1).2.2.2 = (core A).2.2.2 := by rw [h]
  refine ⟨fun k h0 h5 => ?_, fun r h0 h3 h40 => ?_, ?_, h3⟩
  · have := congrFun h1 k
    have this : (if k = 0 ∨ k = 5 then 0 else aN A1 k) = (if k = 0 ∨ k = 5 then 0 else aN A k) := this
    rw [if_neg (by omega), if_neg (by omega)] at this
    exact this
  · funext i
    have := congrFun (congrFun h2 r) i
    have this : (if r = 0 ∨ (30 ≤ r ∧ r < 36) ∨ (r = 40 ∧ i ≠ 1) then 0 else aX A1 r i) = (if r = 0 ∨ (30 ≤ r ∧ r < 36) ∨ (r = 40 ∧ i ≠ 1) then 0 else aX A r i) := this
    rw [if_neg (by omega), if_neg (by omega)] at this
    exact this
  · have := congrFun (congrFun h2 40) 1
    exact this
theorem gX {r : Nat} (h : CG A A1) (h0 : r ≠ 0 ∧ ¬ (30 ≤ r ∧ r < 36) ∧ r ≠ 40) : aX A1 r = aX A r := h.2.1 r h0.1 h0.2.1 h0.2.2
theorem gN {k : Nat} (h : CG A A1) (h0 : k ≠ 0 ∧ k ≠ 5) : aN A1 k = aN A k := h.1 k h0.1 h0.2
theorem isPs_g (h : CG A A1) : isPs A1 = isPs A := by funext i; unfold isPs; rw [gX h (r := 21) (by omega)]
theorem keyF_g (h : CG A A1) : keyF A1 = keyF A := by funext i; unfold keyF; rw [gX h (r := 20) (by omega), isPs_g h]
theorem gtC_g (h : CG A A1) : gtC A1 = gtC A := by funext x y; unfold gtC; rw [keyF_g h]
theorem cntA_g (h : CG A A1) : cntA A1 20 = cntA A 20 := by funext i k; unfold cntA; rw [gX h (r := 20 + 4) (by omega), gX h (r := 20 + 5) (by omega)]
theorem ordC_g (h : CG A A1) {k : Int32} : ∀ n, ordC A1 k n = ordC A k n := by
  intro n
  induction n with
  | zero => rfl
  | succ n ih => unfold ordC; rw [ih, cntA_g h, gtC_g h]
theorem shO_g (h : CG A A1) : shO A1 = shO A := by funext f; unfold shO; rw [gX h (r := 21) (by omega)]
theorem shipG_g (h : CG A A1) {i j : Nat} (hj : j < 8) : shipG A1 i j = shipG A i j := by unfold shipG; rw [gX h (r := 5) (by omega), gX h (r := 10) (by omega), gX h (r := 11 + j) (by omega)]
theorem kdF_g (h : CG A A1) (hv : WFv A) (hs : s < 4) : kdF A1 s = kdF A s := by
  funext f
  unfold kdF
  rw [h.2.2.2, gX h (r := 10) (by omega), gN h (k := 10 + s) (by omega), shO_g h]
  exact kindG hv hs (fun j hj => shipG_g h hj)
theorem passG_g (h : CG A A1) : passG A1 = passG A := by
  funext f j
  unfold passG
  rw [gX h (r := 21) (by omega), gX h (r := 22) (by omega), gX h (r := 23) (by omega), gX h (r := 20) (by omega)]
  by_cases hj : j < 8
  · rw [if_pos hj, if_pos hj]; exact shipG_g h hj
  · rw [if_neg hj, if_neg hj]
theorem dueF_g (h : CG A A1) (hv : WFv A) (hs : s < 4) : dueF A1 s = dueF A s := by funext f; unfold dueF; rw [passG_g h, gX h (r := 10) (by omega), shO_g h, kdF_g h hv hs, h.2.2.2]
theorem gst_g (h : CG A A1) : gst A1 = gst A := by funext i; unfold gst; rw [gX h (r := 17) (by omega), gX h (r := 5) (by omega), gX h (r := 10) (by omega)]
theorem tonsF_g (h : CG A A1) {I : Nat → Int32} {land : Int32} : ∀ n, tonsF A1 I land n = tonsF A I land n := by
  intro n
  induction n with
  | zero => rfl
  | succ n ih => unfold tonsF; rw [ih, gst_g h, gX h (r := 10) (by omega), gX h (r := 11) (by omega)]
theorem hitsF_g (h : CG A A1) : hitsF A1 = hitsF A := by funext s n c; unfold hitsF; rw [gX h (r := 13) (by omega), gX h (r := 12) (by omega), gX h (r := 1) (by omega), gX h (r := 2) (by omega), gX h (r := 3) (by omega)]
theorem hitsL_g (h : CG A A1) {s : Nat} {n : Int32} : ∀ m i, hitsL A1 s n m i = hitsL A s n m i := by
  intro m
  induction m with
  | zero => intro i; rfl
  | succ m ih => intro i; unfold hitsL; rw [ih, hitsF_g h, gN h (k := 1) (by omega)]
theorem whyF_g (h : CG A A1) (hv : WFv A) (hs : s < 4) : whyF A1 s = whyF A s := by funext f cs; unfold whyF; rw [h.2.2.2, gX h (r := 60 + s) (by omega), passG_g h, gX h (r := 10) (by omega), shO_g h, kdF_g h hv hs, gN h (k := 20 + s) (by omega)]
theorem rsnF_g (h : CG A A1) (hv : WFv A) (hs : s < 4) : rsnF A1 s = rsnF A s := by
  funext f I cs
  unfold rsnF
  simp only [shO_g h, gX h (r := 22) (by omega), gX h (r := 23) (by omega), gX h (r := 50 + s) (by omega), gX h (r := 11) (by omega), gX h (r := 10) (by omega), gX h (r := 20) (by omega), gN h (k := 1) (by omega), gN h (k := 3) (by omega), hitsL_g h, whyF_g h hv hs, gst_g h, tonsF_g h]
theorem stepF_g (h : CG A A1) (hv : WFv A) (hs : s < 4) : stepF A1 s = stepF A s := by
  funext cs q f
  unfold stepF
  simp only [rsnF_g h hv hs, shO_g h, gX h (r := 22) (by omega), gX h (r := 20) (by omega), dueF_g h hv hs]
theorem stepC_g (h : CG A A1) (hv : WFv A) (hs : s < 4) : stepC A1 s = stepC A s := by funext pq f; unfold stepC; rw [isPs_g h, stepF_g h hv hs, gX h (r := 23) (by omega)]
theorem ledC_g (h : CG A A1) (hv : WFv A) (hs : s < 4) : ledC A1 s = ledC A s := by funext k; unfold ledC; rw [gN h (k := 4) (by omega), ordC_g h, stepC_g h hv hs]
theorem rsnA_g (h : CG A A1) (hv : WFv A) (hs : s < 4) : rsnA A1 s = rsnA A s := by funext k f; unfold rsnA; rw [ledC_g h hv hs]
theorem dayP_g (h : CG A A1) (hv : WFv A) (hs : s < 4) : dayP A1 s = dayP A s := by funext k d i; unfold dayP; rw [rsnA_g h hv hs, gX h (r := 20) (by omega)]
theorem dayL_g (h : CG A A1) (hv : WFv A) (hs : s < 4) {k d : Int32} : ∀ n, dayL A1 s k d n = dayL A s k d n := by
  intro n
  induction n with
  | zero => rfl
  | succ n ih => unfold dayL; rw [ih, dayP_g h hv hs]
theorem dayN8_g (h : CG A A1) (hv : WFv A) (hs : s < 4) : dayN8 A1 s = dayN8 A s := by funext k d; unfold dayN8; rw [gN h (k := 4) (by omega), dayL_g h hv hs]
theorem gF_g (h : CG A A1) : gF A1 = gF A := by unfold gF; rw [gX h (r := 4) (by omega), gN h (k := 1) (by omega)]
theorem gT_g (h : CG A A1) : gT A1 = gT A := by unfold gT; rw [gX h (r := 4) (by omega), gN h (k := 1) (by omega)]
theorem mN_g (h : CG A A1) : mN A1 = mN A := by funext sh no c; unfold mN; rw [gX h (r := 12) (by omega), gX h (r := 3) (by omega)]
theorem bTh_g (h : CG A A1) : bTh A1 = bTh A := by funext c; unfold bTh; rw [gF_g h, gT_g h]
theorem bRd_g (h : CG A A1) : bRd A1 = bRd A := by funext no c; unfold bRd; rw [gF_g h, gT_g h]
theorem thA_g (h : CG A A1) : thA A1 = thA A := by funext f; unfold thA; rw [gF_g h, mN_g h, shO_g h, gX h (r := 22) (by omega), bTh_g h, gN h (k := 1) (by omega)]
theorem rdA_g (h : CG A A1) : rdA A1 = rdA A := by funext f; unfold rdA; rw [gF_g h, mN_g h, shO_g h, gX h (r := 22) (by omega), bRd_g h, gN h (k := 1) (by omega)]
theorem PPd_g (h : CG A A1) (hv : WFv A) (hs : s < 4) : PPd A1 s = PPd A s := by funext k d; unfold PPd; rw [dayN8_g h hv hs, rdA_g h, thA_g h, gX h (r := 22) (by omega), h.2.2.1]
theorem bst_g (h : CG A A1) (hv : WFv A) (hs : s < 4) : bst A1 s = bst A s := by funext k d; unfold bst; rw [gF_g h, PPd_g h hv hs]
theorem landP_g (h : CG A A1) : landP A1 = landP A := by unfold landP; rw [gN h (k := 2) (by omega)]
theorem shP_g (h : CG A A1) : shP A1 = shP A := by unfold shP; rw [gN h (k := 2) (by omega), gX h (r := 5) (by omega)]
theorem Gp_g (h : CG A A1) : Gp A1 = Gp A := by funext t g d w j; unfold Gp; rw [shP_g h]
theorem kdP_g (h : CG A A1) : kdP A1 = kdP A := by funext s t g d w; unfold kdP; rw [h.2.2.2, Gp_g h, landP_g h, gN h (k := 10 + s) (by omega)]
theorem fW_g (h : CG A A1) : fW A1 = fW A := by funext a b t g d w; unfold fW; rw [kdP_g h]
theorem fV_g (h : CG A A1) : fV A1 = fV A := by funext a b v; unfold fV; rw [fW_g h]
theorem partM_g (h : CG A A1) : partM A1 = partM A := by funext a b; unfold partM; rw [fV_g h]
theorem ResP_g (h : CG A A1) {S : ms_S} {a b : Nat} {r : Option T4} (q : ResP S A a b r) : ResP S A1 a b r := by
  unfold ResP at *
  rw [kdP_g h]
  exact q
theorem CLk_g (h : CG A A1) (hv : WFv A) {S : ms_S} {k : Int32} (q : CLk S A s k) : CLk S A1 s k := by
  have hs := q.1
  unfold CLk at *
  rw [ledC_g h hv hs, gN h (k := 4) (by omega), ordC_g h, keyF_g h]
  exact q
theorem CPk_g (h : CG A A1) (hv : WFv A) {S : ms_S} {d k : Int32} (q : CPk S A s d k) : CPk S A1 s d k := by
  have hs := q.1
  unfold CPk at *
  simp only [dayN8_g h hv hs, bst_g h hv hs, gX h (r := 22) (by omega), rdA_g h, thA_g h]
  exact q
end CGS
