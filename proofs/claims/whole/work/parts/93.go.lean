/-! goThrough, whole -/
section GOT
variable {N : Nat} {A : Ab} {s : Nat}
def upTo (A : Ab) (up : Int32) (y : Nat) : Bool := decide (aX A 20 y ≤ up)
theorem goL {k up : Int32} {K : Int32 → Int32 → Int32 → Int32 → mM Unit} {len : Nat} (hN : 1300 ≤ N) (hw : WF0 A) (hv : WFv A) (hs : s < 4) (hlen : len ≤ 200) : ∀ (L : List Nat) (i n : Nat) (q : Lst) (S : ms_S), i + L.length = len → L.length < n → mBase S A → ms_I S 131 79 = Int32.ofNat len → (∀ j, j < L.length → ms_A S 177 (i + j) = Int32.ofNat (L.getD j 0)) → (∀ y ∈ L, y < aN A 4 ∧ isPs A y = true) → L.Nodup → mLd S A q → (∀ y ∈ L, q.2.2.2.1 y = -1) → ∃ S1 x, f225_L34 N K n (Int32.ofNat s) up k (Int32.ofNat i) S = K (Int32.ofNat s) up k x S1 ∧ mLd S1 A (runL A s k (L.takeWhile (upTo A up)) q) ∧ offG S S1 := by
  have hn4 : aN A 4 ≤ 200 := hw.1.2.2.2.2.1
  intro L
  induction L with
  | nil =>
    intro i n q S hi hn h h79 hL hy hnd hq hfr
    obtain ⟨n, rfl⟩ : ∃ q, n = q + 1 := ⟨n - 1, by omega⟩
    have e : i = len := by simpa using hi
    subst e
    refine ⟨S, Int32.ofNat i, ?_, hq, ⟨fun _ _ => rfl, fun _ _ _ _ _ _ => Eqc.rf⟩⟩
    rw [f225_L34]
    simp only [mE, h79]
    rw [if_pos ((ofN_le (by omega) (by omega)).2 (Nat.le_refl _))]
  | cons f L ih =>
    intro i n q S hi hn h h79 hL hy hnd hq hfr
    obtain ⟨n, rfl⟩ : ∃ q, n = q + 1 := ⟨n - 1, by omega⟩
    have hi : i + (L.length + 1) = len := by simpa using hi
    have hn : L.length + 1 < n + 1 := by simpa using hn
    obtain ⟨hfl, hps⟩ := hy f (by simp)
    have hnd2 := List.nodup_cons.mp hnd
    have a177 : ms_A S 177 i = Int32.ofNat f := hL 0 (by simp)
    by_cases hup : aX A 20 f ≤ up
    · obtain ⟨S1, e1, q1, o1⟩ := goOne (N := N) (A := A) (s := s) (S := S) (k := k) (up := up) (K := K) (n := n) (i := i) (len := len) (f := f) (q := q) hN h hw hv hs hfl hps (by omega) hlen h79 a177 hup hq (hfr f (by simp))
      obtain ⟨S2, x, e2, q2, o2⟩ := ih (i + 1) n (stepF A s (caseF A (aX A 20 f) k) q f) S1 (by omega) (by omega) (offG_base h o1) (by rw [o1.1 79 (Or.inr rfl)]; exact h79) (fun j hj => by
        rw [(o1.2 177 (by decide) (by decide) (by decide) (by decide) (by decide)).2.2.2.1]
        have := hL (j + 1) (by simp; omega)
        rw [show i + 1 + j = i + (j + 1) by omega]; exact this) (fun y hy' => hy y (by simp [hy'])) hnd2.2 q1 (fun y hy' => by
        have hne : y ≠ f := fun e => hnd2.1 (e ▸ hy')
        rw [(stepF_ne hne).2.1]
        exact hfr y (by simp [hy']))
      refine ⟨S2, x, e1.trans e2, ?_, o1.tr o2⟩
      have hu : upTo A up f = true := decide_eq_true hup
      rw [List.takeWhile_cons_of_pos hu]
      exact q2
    · refine ⟨S, Int32.ofNat i, ?_, ?_, ⟨fun _ _ => rfl, fun _ _ _ _ _ _ => Eqc.rf⟩⟩
      · have hge : ¬ Int32.ofNat i ≥ Int32.ofNat len := fun q => by have := (ofN_le (i := len) (j := i) (by omega) (by omega)).1 q; omega
        have i1 : inR (Int32.ofNat i) 200 := ofN_inR (by omega) (by omega)
        have j1 : inR (Int32.ofNat f) 200 := ofN_inR (by omega) (by omega)
        have g1 := (h.2.2.2.2.1.2 f hfl).1
        rw [f225_L34]
        simp only [mE, h79, if_neg hge, i1, ofN_cl (i := i) (by omega), a177, j1, ofN_cl (i := f) (by omega), g1]
        rw [if_pos (Int32.not_le.mp hup)]
      · have hu : ¬ upTo A up f = true := fun q => hup (of_decide_eq_true q)
        rw [List.takeWhile_cons_of_neg hu]
        exact hq
theorem southM {k up : Int32} {K : Int32 → Int32 → Int32 → Int32 → mM Unit} {x1 : Int32} (hn3 : aN A 3 ≤ 20) : ∀ m i n (S : ms_S), m + i = aN A 3 → m < n → ms_I S 131 50 = Int32.ofNat (aN A 3) → (∀ j, j < i → ms_A S 179 j = 0) → ∃ S1, f225_L8 N K n x1 up k (Int32.ofNat i) S = K x1 up k (Int32.ofNat (aN A 3)) S1 ∧ (∀ j, j < aN A 3 → ms_A S1 179 j = 0) ∧ ∀ b, b ≠ 179 → Eqc S S1 b := by
  intro m
  induction m with
  | zero =>
    intro i n S hi hn h50 h
    obtain ⟨n, rfl⟩ : ∃ q, n = q + 1 := ⟨n - 1, by omega⟩
    have e : i = aN A 3 := by omega
    subst e
    refine ⟨S, ?_, h, fun _ _ => Eqc.rf⟩
    rw [f225_L8]
    simp only [mE, h50]
    rw [if_pos ((ofN_le (by omega) (by omega)).2 (Nat.le_refl _))]
  | succ m ih =>
    intro i n S hi hn h50 h
    obtain ⟨n, rfl⟩ : ∃ q, n = q + 1 := ⟨n - 1, by omega⟩
    have hge : ¬ Int32.ofNat i ≥ Int32.ofNat (aN A 3) := fun q => by have := (ofN_le (i := aN A 3) (j := i) (by omega) (by omega)).1 q; omega
    have i1 : inR (Int32.ofNat i) 20 := ofN_inR (by omega) (by omega)
    obtain ⟨S1, e1, r1, k1⟩ := ih (i + 1) n (ms_setA S 179 i 0) (by omega) (by omega) (by simp only [mGo]; exact h50) (fun j hj => by
      by_cases hji : j = i
      · simp [mG, hji]
      · simp only [mG, hji, and_false, if_false]; exact h j (by omega))
    refine ⟨S1, ?_, r1, fun b hb => (Eqc_A hb).tr (k1 b hb)⟩
    rw [f225_L8]
    simp only [mE, h50, if_neg hge, i1, ofN_cl (i := i) (by omega), vpb (Or.inl rfl), ofN_s]
    exact e1
def lenM (A : Ab) (k : Int32) : Nat := (ordM A k (aN A 4)).length
def ledM (A : Ab) (s : Nat) (k up : Int32) : Lst := runL A s k ((ordM A k (aN A 4)).reverse.takeWhile (upTo A up)) q0
theorem q225 {S : ms_S} {k up : Int32} (hN : 1300 ≤ N) (h : mBase S A) (hw : WF0 A) (hv : WFv A) (hs : s < 4) : ∃ S1, f225 N (Int32.ofNat s) up k S = some ((), S1) ∧ mBase S1 A ∧ mLd S1 A (ledM A s k up) ∧ ms_I S1 131 79 = Int32.ofNat (lenM A k) ∧ stR (ms_A S1 177) (lenM A k) ((ordM A k (aN A 4)).map Int32.ofNat) ∧ keepM S S1 := by
  have hn3 : aN A 3 ≤ 20 := hw.1.2.2.2.1
  have hn4 : aN A 4 ≤ 200 := hw.1.2.2.2.2.1
  obtain ⟨S1, e1, r1, r2, r3, o1⟩ := q220 (N := N) (A := A) (k := k) (S := S) (by omega) hw h.2.2.2.2.1
  have hb1 : mBase S1 A := mBase_fr h (fun j hj => o1.1 j (by unfold tellM at hj; omega)) (fun b h1 h2 => o1.2 b (by omega) (by unfold scrM at h2; omega))
  have hlen : (ordM A k (aN A 4)).length ≤ 200 := by have := ordM_len (A := A) (k := k) (aN A 4); omega
  obtain ⟨S2, e2, f2, k2⟩ := southM (N := N) (A := A) (k := k) (up := up) (x1 := Int32.ofNat s) (K := fun (x1 : Int32) (x2 : Int32) (x3 : Int32) (x4 : Int32) => ((mlet (fun (x1 : Int32) (x2 : Int32) (x3 : Int32) (x4 : Int32) => (mret ())) fun J243 => f225_L34 N J243 N x1 x2 x3 0))) hn3 (aN A 3) 0 N S1 (by omega) (by omega) hb1.2.2.2.1.1 (fun j hj => absurd hj (by omega))
  have hb2 : mBase S2 A := mBase_fr hb1 (fun j hj => by rw [(k2 131 (by decide)).1]) (fun b h1 h2 => k2 b (by unfold scrM at h2; omega))
  obtain ⟨S3, x, e3, q3, o3⟩ := goL (N := N) (A := A) (s := s) (k := k) (up := up) (K := fun (x1 : Int32) (x2 : Int32) (x3 : Int32) (x4 : Int32) => (mret ())) (len := (ordM A k (aN A 4)).length) hN hw hv hs hlen (ordM A k (aN A 4)).reverse 0 N q0 S2 (by simp) (by simp; omega) hb2 (by rw [(k2 131 (by decide)).1]; exact r1) (fun j hj => by
    rw [(k2 177 (by decide)).2.2.2.1, Nat.zero_add]
    exact stR_rev (g := Int32.ofNat) _ _ r2 j (by simpa using hj)) (fun y hy => by have := ordM_lt _ y (by simpa using hy); exact ⟨this.1, this.2.2⟩) (nodup_rev (ordM_nodup _)) ⟨fun i hi => ⟨f2 i hi, fun q => absurd rfl q⟩, fun j hj => by
      have := r3 j hj
      rw [(k2 174 (by decide)).2.2.2.1, (k2 175 (by decide)).2.2.2.1, (k2 176 (by decide)).2.2.2.1]
      exact ⟨this.1, this.2.1, fun q => absurd q (by show ¬ ((-1 : Int32) = 0); decide)⟩⟩ (fun _ _ => rfl)
  refine ⟨S3, ?_, offG_base hb2 o3, q3, ?_, ?_, fun b hb => ((o1.2 b (by omega) (by omega)).tr (k2 b (by omega))).tr (o3.2 b (by omega) (by omega) (by omega) (by omega) (by omega))⟩
  · unfold f225
    have m220 : ∀ {β : Type} {f' : Unit → mM β}, mb (f220 N k) f' S = f' () S1 := by intro β f'; simp only [mb, e1]
    rw [m220]
    exact e2.trans e3
  · rw [o3.1 79 (Or.inr rfl), (k2 131 (by decide)).1]; exact r1
  · rw [(o3.2 177 (by decide) (by decide) (by decide) (by decide) (by decide)).2.2.2.1, (k2 177 (by decide)).2.2.2.1]; exact r2
end GOT
/-! the class's order and the reference's -/
def dsc (A : Ab) (l : List Nat) : Prop := List.Pairwise (fun x y => keyF A y ≤ keyF A x) l
theorem insR_dsc {A : Ab} {f : Nat} : ∀ l, dsc A l → dsc A (insR (gtC A) f l) := by
  intro l
  induction l with
  | nil => intro _; exact List.pairwise_singleton _ _
  | cons x r ih =>
    intro h
    have h2 := List.pairwise_cons.mp h
    unfold insR
    split
    · rename_i hg
      refine List.pairwise_cons.mpr ⟨fun y hy => ?_, ih h2.2⟩
      rcases (insR_mem _ _).1 hy with e | e
      · subst e; exact Nat.le_of_lt (of_decide_eq_true hg)
      · exact h2.1 y e
    · rename_i hg
      have hle : keyF A x ≤ keyF A f := Nat.not_lt.mp (fun q => hg (decide_eq_true q))
      refine List.pairwise_cons.mpr ⟨fun y hy => ?_, h⟩
      rcases List.mem_cons.mp hy with e | e
      · subst e; exact hle
      · exact Nat.le_trans (h2.1 y e) hle
theorem ordC_dsc {A : Ab} {k : Int32} : ∀ n, dsc A (ordC A k n) := by
  intro n
  induction n with
  | zero => exact List.Pairwise.nil
  | succ n ih => unfold ordC; split; exact insR_dsc _ ih; exact ih
theorem insR_front {gt : Nat → Nat → Bool} {f : Nat} : ∀ l : List Nat, (∀ y ∈ l, gt y f = false) → insR gt f l = f :: l := by
  intro l h
  cases l with
  | nil => rfl
  | cons x r => rw [insR, if_neg (by rw [h x (by simp)]; decide)]
theorem find_ins {gt : Nat → Nat → Bool} {p : Nat → Bool} {f : Nat} (hp : p f = false) : ∀ l : List Nat, (insR gt f l).find? p = l.find? p := by
  intro l
  induction l with
  | nil => simp [insR, hp]
  | cons x r ih =>
    unfold insR
    split
    · rw [List.find?_cons, List.find?_cons, ih]
    · rw [List.find?_cons, hp]
theorem find_ins2 {A : Ab} {p : Nat → Bool} {f : Nat} (hp : p f = true) : ∀ l : List Nat, dsc A l → (insR (gtC A) f l).find? p = (match l.find? p with | none => some f | some b => if gtC A b f = true then some b else some f) := by
  intro l
  induction l with
  | nil => intro _; simp [insR, hp]
  | cons x r ih =>
    intro h
    have h2 := List.pairwise_cons.mp h
    by_cases hg : gtC A x f = true
    · rw [insR, if_pos hg, List.find?_cons, List.find?_cons]
      cases hx : p x with
      | true => simp only [hg, if_true]
      | false => simp only; exact ih h2.2
    · rw [insR, if_neg hg, List.find?_cons, hp]
      cases hb : (x :: r).find? p with
      | none => rfl
      | some b =>
        have hm := List.mem_of_find?_eq_some hb
        have hle : keyF A x ≤ keyF A f := Nat.not_lt.mp (fun q => hg (decide_eq_true q))
        have : ¬ gtC A b f = true := fun q => by
          have hlt : keyF A f < keyF A b := of_decide_eq_true q
          rcases List.mem_cons.mp hm with e | e
          · subst e; omega
          · have := h2.1 b e; omega
        simp only [this, Bool.false_eq_true, if_false]
section ORD
variable {A : Ab} {k : Int32}
theorem dayN (hw : WF0 A) {i : Nat} (hi : i < aN A 4) : ∃ d : Nat, d < 1000 ∧ aX A 20 i = Int32.ofNat d ∧ keyF A i = (d * 2 + (if isPs A i = true then 1 else 0)) * 256 + i := by
  obtain ⟨w0, w1, _⟩ := hw.2.2.2.2.2.2.1 i hi
  obtain ⟨d, hd, e⟩ := i32_nat (n := 1000) w0 (by omega) (by rw [show Int32.ofNat 1000 = (1000 : Int32) from rfl]; exact w1)
  refine ⟨d, hd, e, ?_⟩
  unfold keyF
  rw [e, ofN_cl (by omega)]
theorem filter_ins (hw : WF0 A) {n : Nat} (hn : n < aN A 4) (hps : isPs A n = true) : ∀ l : List Nat, dsc A l → (∀ y ∈ l, y < n) → (insR (gtC A) n l).filter (isPs A) = insR (gtM A) n (l.filter (isPs A)) := by
  have hn4 : aN A 4 ≤ 200 := hw.1.2.2.2.2.1
  have same : ∀ x, x < n → isPs A x = true → gtM A x n = gtC A x n := by
    intro x hx hxp
    obtain ⟨d1, h1, e1, k1⟩ := dayN hw (show x < aN A 4 by omega)
    obtain ⟨d2, h2, e2, k2⟩ := dayN hw hn
    rw [if_pos hxp] at k1
    rw [if_pos hps] at k2
    unfold gtM gtC
    rw [e1, e2, k1, k2]
    have c : (Int32.ofNat d1 > Int32.ofNat d2) ↔ d2 < d1 := ofN_lt (by omega) (by omega)
    by_cases hd : d2 < d1
    · rw [decide_eq_true (c.2 hd)]; exact (decide_eq_true (by omega)).symm
    · rw [decide_eq_false (fun q => hd (c.1 q))]; exact (decide_eq_false (by omega)).symm
  intro l
  induction l with
  | nil => intro _ _; simp [insR, hps]
  | cons x r ih =>
    intro h hy
    have h2 := List.pairwise_cons.mp h
    by_cases hg : gtC A x n = true
    · rw [insR, if_pos hg]
      cases hx : isPs A x with
      | true =>
        rw [List.filter_cons_of_pos hx, List.filter_cons_of_pos hx, ih h2.2 (fun y hy' => hy y (by simp [hy'])), insR, if_pos (by rw [same x (hy x (by simp)) hx]; exact hg)]
      | false =>
        rw [List.filter_cons_of_neg (by rw [hx]; decide), List.filter_cons_of_neg (by rw [hx]; decide), ih h2.2 (fun y hy' => hy y (by simp [hy']))]
    · rw [insR, if_neg hg, List.filter_cons_of_pos hps, insR_front]
      intro y hym
      have hym2 := List.mem_filter.mp hym
      rw [same y (hy y hym2.1) hym2.2]
      have hle : keyF A x ≤ keyF A n := Nat.not_lt.mp (fun q => hg (decide_eq_true q))
      refine decide_eq_false (fun q => ?_)
      rcases List.mem_cons.mp hym2.1 with e | e
      · subst e; omega
      · have := h2.1 y e; omega
theorem filter_ins0 {n : Nat} {gt : Nat → Nat → Bool} (hps : isPs A n = false) : ∀ l : List Nat, (insR gt n l).filter (isPs A) = l.filter (isPs A) := by
  intro l
  induction l with
  | nil => simp [insR, hps]
  | cons x r ih =>
    unfold insR
    split
    · cases hx : isPs A x with
      | true => rw [List.filter_cons_of_pos hx, List.filter_cons_of_pos hx, ih]
      | false => rw [List.filter_cons_of_neg (by rw [hx]; decide), List.filter_cons_of_neg (by rw [hx]; decide), ih]
    · rw [List.filter_cons_of_neg (by rw [hps]; decide)]
theorem ord_filter (hw : WF0 A) : ∀ n, n ≤ aN A 4 → (ordC A k n).filter (isPs A) = ordM A k n := by
  intro n
  induction n with
  | zero => intro _; rfl
  | succ n ih =>
    intro hn
    unfold ordC ordM
    by_cases hc : cntA A 20 n k = true
    · rw [if_pos hc]
      cases hp : isPs A n with
      | true => rw [if_pos ⟨hc, rfl⟩, filter_ins hw (by omega) hp _ (ordC_dsc n) (fun y hy => (ordC_lt n y hy).1), ih (by omega)]
      | false => rw [if_neg (fun q => by cases q.2), filter_ins0 hp, ih (by omega)]
    · rw [if_neg hc, if_neg (fun q => hc q.1), ih (by omega)]
/-- a case on or before a day -/
def caseP (A : Ab) (d : Int32) (c : Nat) : Bool := decide (aX A 21 c = -1 ∧ aX A 20 c ≤ d)
theorem best_find (hw : WF0 A) {d : Int32} : ∀ n, n ≤ aN A 4 → bestF A d k n = (ordC A k n).find? (caseP A d) := by
  have hn4 : aN A 4 ≤ 200 := hw.1.2.2.2.2.1
  intro n
  induction n with
  | zero => intro _; rfl
  | succ n ih =>
    intro hn
    have ih := ih (by omega)
    unfold bestF ordC
    by_cases hc : cntA A 20 n k = true
    · rw [if_pos hc]
      cases hp : caseP A d n with
      | false =>
        rw [find_ins hp, ← ih, if_neg]
        intro q
        have h1 : caseP A d n = true := decide_eq_true ⟨q.1.1.1, q.1.2⟩
        rw [hp] at h1
        cases h1
      | true =>
        have hp2 := of_decide_eq_true hp
        rw [find_ins2 hp _ (ordC_dsc n), ← ih]
        cases hb : bestF A d k n with
        | none => rw [if_pos ⟨⟨⟨hp2.1, hc⟩, hp2.2⟩, rfl⟩]
        | some b =>
          obtain ⟨hbl, hbc⟩ := bestF_lt n b hb
          obtain ⟨d1, h1, e1, k1⟩ := dayN hw (show b < aN A 4 by omega)
          obtain ⟨d2, h2, e2, k2⟩ := dayN hw (show n < aN A 4 by omega)
          rw [if_neg (by unfold isPs; rw [decide_eq_true_eq]; exact fun q => q hbc)] at k1
          rw [if_neg (by unfold isPs; rw [decide_eq_true_eq]; exact fun q => q hp2.1)] at k2
          have cg : gtC A b n = true ↔ d2 < d1 := by
            unfold gtC
            rw [decide_eq_true_eq, k1, k2]
            omega
          have c : (aX A 20 b ≤ aX A 20 n) ↔ d1 ≤ d2 := by rw [e1, e2]; exact ofN_le (by omega) (by omega)
          by_cases hd : d1 ≤ d2
          · rw [if_pos ⟨⟨⟨hp2.1, hc⟩, hp2.2⟩, decide_eq_true (c.2 hd)⟩]
            simp only
            rw [if_neg (fun q => by have := cg.1 q; omega)]
          · rw [if_neg (fun q => hd (c.1 (of_decide_eq_true q.2)))]
            simp only
            rw [if_pos (cg.2 (by omega))]
    · rw [if_neg hc, if_neg (fun q => hc q.1.1.2), ih]
end ORD
