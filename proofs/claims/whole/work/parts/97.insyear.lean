/-! inside and year: both -/
def manyF (A : Ab) (I : Nat → Int32) : Nat → Int32
  | 0 => 0
  | n + 1 => if I n ≠ 0 ∧ gst A n = true then manyF A I n + 1 else manyF A I n
def lateF (A : Ab) (I W : Nat → Int32) (d st : Int32) : Nat → Int32
  | 0 => 0
  | n + 1 => if I n ≠ 0 ∧ gst A n = true then lateF A I W d st n + (if d - W n ≤ st then 0 else 1) else lateF A I W d st n
def ansIns (A : Ab) (x d w k : Int32) : Int32 := if (0 ≤ x ∧ x < 4) ∧ (0 ≤ d ∧ d < 1000) ∧ 0 ≤ w ∧ w ≤ 2 then
    (if w = 0 then tonsF A (ledM A x.toNatClampNeg k d).1 (-1) (aN A 3) else if w = 1 then manyF A (ledM A x.toNatClampNeg k d).1 (aN A 3) else lateF A (ledM A x.toNatClampNeg k d).1 (ledM A x.toNatClampNeg k d).2.1 d (aX A (50 + x.toNatClampNeg) 3) (aN A 3)) else -1
section IY
variable {N : Nat} {S : ms_S} {A : Ab}
theorem insL_C2 {s : Nat} {I W : Nat → Int32} {d w k : Int32} {K : Int32 → Int32 → Int32 → Int32 → Int32 → Int32 → Int32 → Int32 → mM Int32} (h : cBase S A) (hw : WF0 A) (hs : s < 4) (hp : CSt S (I, W)) : ∀ m i n, m + i = aN A 3 → m < n → f128_L52 N K n (Int32.ofNat s) d w k (tonsF A I (-1) i) (manyF A I i) (lateF A I W d (aX A (50 + s) 3) i) (Int32.ofNat i) S = K (Int32.ofNat s) d w k (tonsF A I (-1) (aN A 3)) (manyF A I (aN A 3)) (lateF A I W d (aX A (50 + s) 3) (aN A 3)) (Int32.ofNat (aN A 3)) S := by
  have hn3 : aN A 3 ≤ 20 := hw.1.2.2.2.1
  obtain ⟨_, _, _, ⟨s1, s2, s3⟩, _, _, ⟨p, p1, p2, p3, p4⟩, _⟩ := h
  intro m
  induction m with
  | zero =>
    intro i n hi hn
    obtain ⟨n, rfl⟩ : ∃ q, n = q + 1 := ⟨n - 1, by omega⟩
    have e : i = aN A 3 := by omega
    subst e
    rw [f128_L52]
    simp only [mE, s1]
    rw [if_pos ((ofN_le (by omega) (by omega)).2 (Nat.le_refl _))]
  | succ m ih =>
    intro i n hi hn
    obtain ⟨n, rfl⟩ : ∃ q, n = q + 1 := ⟨n - 1, by omega⟩
    have hil : i < aN A 3 := by omega
    have hge : ¬ Int32.ofNat i ≥ Int32.ofNat (aN A 3) := fun q => by have := (ofN_le (i := aN A 3) (j := i) (by omega) (by omega)).1 q; omega
    have i1 : inR (Int32.ofNat i) 20 := ofN_inR (by omega) (by omega)
    have i2 := ofN_cl (i := i) (by omega)
    have j1 : inR (Int32.ofNat s) 4 := ofN_inR (by omega) (by omega)
    have j2 := ofN_cl (i := s) (by omega)
    have a62 := (hp i (by omega)).1
    have a63 := (hp i (by omega)).2
    have hQ := s2 i (by omega)
    obtain ⟨g1, g2⟩ := s3 i hil
    have hc13 : ms_I S (p s) 13 = aX A (50 + s) 3 := (p4 s hs).2.2.2.2.1
    have nx := ih (i + 1) n (by omega) (by omega)
    have m70 : ∀ {β : Type} {f : Int32 → mM β}, mb (f70 N (111 + i)) f S = f (if gst A i = true then 1 else 0) S := by
      intro β f
      simp only [mb, q70]
      congr 1
      have : (ms_I S (111 + i) 7 ≠ 0 ∧ ms_I S (111 + i) 8 = 0) ↔ gst A i = true := by
        unfold gst
        rw [decide_eq_true_eq, g2, g1 7 (by omega)]
      by_cases hc : gst A i = true
      · rw [if_pos (this.2 hc), if_pos hc]
      · rw [if_neg (fun q => hc (this.1 q)), if_neg hc]
    rw [f128_L52]
    simp only [mE, s1, if_neg hge, i1, i2, a62]
    by_cases hI : I i = 0
    · rw [if_pos hI, ofN_s]
      have t : ∀ {P : Prop}, ¬ (I i ≠ 0 ∧ P) := fun q => q.1 hI
      simp only [tonsF, manyF, lateF, if_neg t] at nx
      exact nx
    · rw [if_neg hI, ElQo i1 (by rw [i2]; exact hQ) (isSh_o (by omega)), m70]
      by_cases hg : gst A i = true
      · rw [if_pos hg, if_neg (by decide), ElQo i1 (by rw [i2]; exact hQ) (isSh_o (by omega))]
        have hgi : ms_I S (111 + i) 1 = aX A 11 i := g1 1 (by omega)
        simp only [mE, hgi, i1, i2, a63]
        rw [ElQo j1 (by rw [j2]; exact (p4 s hs).1) (isCv_o (p2 s (by omega)))]
        simp only [mE, hc13]
        simp only [tonsF, manyF, lateF] at nx
        rw [if_pos ⟨hI, hg, Or.inl trivial⟩, if_pos ⟨hI, hg⟩, if_pos ⟨hI, hg⟩] at nx
        by_cases hl : d - W i ≤ aX A (50 + s) 3
        · rw [if_pos hl] at nx ⊢
          rw [ofN_s]; exact nx
        · rw [if_neg hl] at nx ⊢
          rw [ofN_s]; exact nx
      · rw [if_neg hg, if_pos rfl, ofN_s]
        simp only [tonsF, manyF, lateF] at nx
        rw [if_neg (fun q => hg q.2.1), if_neg (fun q => hg q.2), if_neg (fun q => hg q.2)] at nx
        exact nx
theorem C_inside {x d w k : Int32} (hN : 1300 ≤ N) (h : cBase S A) (hw : WF0 A) (hv : WFv A) (hL : CLok S A) : CQ (f128 N x d w k) S A (ansIns A x d w k) := by
  have hn3 : aN A 3 ≤ 20 := hw.1.2.2.2.1
  have e143 : ∀ {z : Int32} {β : Type} {f : Int32 → mM β}, mb (f143 N z) f S = f (if 0 ≤ z ∧ z < 4 then 1 else 0) S := by intro z β f; simp only [mb, q143]
  have e142 : ∀ {z : Int32} {β : Type} {f : Int32 → mM β}, mb (f142 N z) f S = f (if 0 ≤ z ∧ z < 1000 then 1 else 0) S := by intro z β f; simp only [mb, q142]
  unfold ansIns
  by_cases hx : 0 ≤ x ∧ x < 4
  · by_cases hd : 0 ≤ d ∧ d < 1000
    · by_cases hz : 0 ≤ w ∧ w ≤ 2
      · rw [if_pos ⟨hx, hd, hz⟩]
        obtain ⟨s, hs, rfl⟩ := i32_nat (n := 4) hx.1 (by omega) hx.2
        rw [ofN_cl (by omega)]
        obtain ⟨S1, e1, l1, c1, o1⟩ := q146 (N := N) (k := k) hN h hw hv hL hs
        have b1 : cBase S1 A := cBase_led h hn3 (fun b hb => o1 b (by omega))
        obtain ⟨S2, e2, p2, o2⟩ := q45 (N := N) (A := A) (s := s) (k := k) (S := S1) (d := d) (by omega) hw b1 l1
        have b2 : cBase S2 A := cBase_led b1 hn3 (fun b hb => o2 b (by omega))
        have l2 : CLk S2 A s k := CLk_fr l1 (fun j _ => by rw [(o2 57 (by omega)).1]) (by rw [(o2 57 (by omega)).2.2.1]) (fun b h1 h2 => (o2 b (by omega)).2.2.2.1)
        have m146 : ∀ {β : Type} {f : Unit → mM β}, mb (f146 N (Int32.ofNat s) k) f S = f () S1 := by intro β f; simp only [mb, e1]
        have m45 : ∀ {β : Type} {f : Unit → mM β}, mb (f45 N d) f S1 = f () S2 := by intro β f; simp only [mb, e2]
        refine ⟨S2, ?_, b2, fun _ => ⟨s, k, l2⟩, Or.inr (by rw [(o2 57 (by omega)).1]; exact c1), fun b hb => (o1 b hb).tr (o2 b (by omega))⟩
        unfold f128
        simp only [mE]
        rw [e143, if_pos hx, if_neg (by decide), e142, if_pos hd, if_neg (by decide), E141, if_pos hz, if_pos (by decide), m146, m45]
        have lp := insL_C2 (N := N) (S := S2) (A := A) (s := s) (d := d) (w := w) (k := k) (K := fun (x1 : Int32) (x2 : Int32) (x3 : Int32) (x4 : Int32) (x5 : Int32) (x6 : Int32) (x7 : Int32) (x8 : Int32) => if x3 ≠ 0 then (if x3 ≠ 1 then mret x7 else mret x6) else mret x5) b2 hw hs p2 (aN A 3) 0 N (by omega) (by omega)
        refine Eq.trans lp ?_
        by_cases w0 : w = 0
        · rw [if_neg (fun q => q w0), if_pos w0]; rfl
        · rw [if_pos w0, if_neg w0]
          by_cases w1 : w = 1
          · rw [if_neg (fun q => q w1), if_pos w1]; rfl
          · rw [if_pos w1, if_neg w1]; rfl
      · rw [if_neg (fun q => hz q.2.2)]
        refine CQ_same h hL ?_
        unfold f128
        simp only [mE]
        rw [e143, if_pos hx, if_neg (by decide), e142, if_pos hd, if_neg (by decide), E141, if_neg hz, if_neg (fun q => q rfl)]; rfl
    · rw [if_neg (fun q => hd q.2.1)]
      refine CQ_same h hL ?_
      unfold f128
      simp only [mE]
      rw [e143, if_pos hx, if_neg (by decide), e142, if_neg hd, if_pos rfl]; rfl
  · rw [if_neg (fun q => hx q.1)]
    refine CQ_same h hL ?_
    unfold f128
    simp only [mE]
    rw [e143, if_neg hx, if_pos rfl]; rfl
theorem insL_M2 {s : Nat} {q : Lst} {d w k : Int32} {K : Int32 → Int32 → Int32 → Int32 → Int32 → Int32 → Int32 → mM Int32} (h : mBase S A) (hw : WF0 A) (hs : s < 4) (hp : mLd S A q) : ∀ m i n, m + i = aN A 3 → m < n → f230_L42 N K n (Int32.ofNat s) d w k (manyF A q.1 i) (lateF A q.1 q.2.1 d (aX A (50 + s) 3) i) (Int32.ofNat i) S = K (Int32.ofNat s) d w k (manyF A q.1 (aN A 3)) (lateF A q.1 q.2.1 d (aX A (50 + s) 3) (aN A 3)) (Int32.ofNat (aN A 3)) S := by
  have hn3 : aN A 3 ≤ 20 := hw.1.2.2.2.1
  have s1 := h.2.2.2.1.1
  have c147 : ms_A S 147 (4 * s + 2) = aX A (50 + s) 3 := (h.2.2.2.2.2.2 s hs).2.1 2 (by omega)
  intro m
  induction m with
  | zero =>
    intro i n hi hn
    obtain ⟨n, rfl⟩ : ∃ q, n = q + 1 := ⟨n - 1, by omega⟩
    have e : i = aN A 3 := by omega
    subst e
    rw [f230_L42]
    simp only [mE, s1]
    rw [if_pos ((ofN_le (by omega) (by omega)).2 (Nat.le_refl _))]
  | succ m ih =>
    intro i n hi hn
    obtain ⟨n, rfl⟩ : ∃ q, n = q + 1 := ⟨n - 1, by omega⟩
    have hil : i < aN A 3 := by omega
    have hge : ¬ Int32.ofNat i ≥ Int32.ofNat (aN A 3) := fun q => by have := (ofN_le (i := aN A 3) (j := i) (by omega) (by omega)).1 q; omega
    have i1 : inR (Int32.ofNat i) 20 := ofN_inR (by omega) (by omega)
    have i2 := ofN_cl (i := i) (by omega)
    have e4 : 4 * Int32.ofNat s + 2 = Int32.ofNat (4 * s + 2) := by rw [show (4 : Int32) = Int32.ofNat 4 from rfl, show (2 : Int32) = Int32.ofNat 2 from rfl, ofN_mul, ofN_add]
    have j1 : inR (Int32.ofNat (4 * s + 2)) 20 := ofN_inR (by omega) (by omega)
    have j2 := ofN_cl (i := 4 * s + 2) (by omega)
    have a179 := (hp.1 i hil).1
    have nx := ih (i + 1) n (by omega) (by omega)
    have m221 : ∀ {β : Type} {f : Int32 → mM β}, mb (f221 N (Int32.ofNat i)) f S = f (if gst A i = true then 1 else 0) S := by intro β f; simp only [mb, q221 h hw hil]
    rw [f230_L42]
    simp only [mE, s1, if_neg hge, i1, i2, a179]
    by_cases hI : q.1 i = 0
    · rw [if_pos hI, ofN_s]
      simp only [manyF, lateF] at nx
      rw [if_neg (fun q => q.1 hI), if_neg (fun q => q.1 hI)] at nx
      exact nx
    · rw [if_neg hI, m221]
      by_cases hg : gst A i = true
      · have a178 := (hp.1 i hil).2 hI
        rw [if_pos hg, if_pos (by decide)]
        simp only [mE, i1, i2, a178, e4, j1, j2, c147]
        simp only [manyF, lateF] at nx
        rw [if_pos ⟨hI, hg⟩, if_pos ⟨hI, hg⟩] at nx
        by_cases hl : d - q.2.1 i ≤ aX A (50 + s) 3
        · rw [if_pos hl] at nx ⊢
          rw [ofN_s]; exact nx
        · rw [if_neg hl] at nx ⊢
          rw [ofN_s]; exact nx
      · rw [if_neg hg, if_neg (fun q => q rfl), ofN_s]
        simp only [manyF, lateF] at nx
        rw [if_neg (fun q => hg q.2), if_neg (fun q => hg q.2)] at nx
        exact nx
theorem M_inside {x d w k : Int32} (hN : 1300 ≤ N) (h : mBase S A) (hw : WF0 A) (hv : WFv A) : MP (f230 N x d w k) S (ansIns A x d w k) A := by
  have hn3 : aN A 3 ≤ 20 := hw.1.2.2.2.1
  have e176 : ∀ {z : Int32} {β : Type} {f : Int32 → mM β}, mb (f176 N z) f S = f (if 0 ≤ z ∧ z < 4 then 1 else 0) S := by intro z β f; simp only [mb, q176]
  have e211 : ∀ {z : Int32} {β : Type} {f : Int32 → mM β}, mb (f211 N z) f S = f (if 0 ≤ z ∧ z < 1000 then 1 else 0) S := by intro z β f; simp only [mb, q211]
  unfold ansIns
  by_cases hx : 0 ≤ x ∧ x < 4
  · by_cases hd : 0 ≤ d ∧ d < 1000
    · by_cases hz : 0 ≤ w ∧ w ≤ 2
      · rw [if_pos ⟨hx, hd, hz⟩]
        obtain ⟨s, hs, rfl⟩ := i32_nat (n := 4) hx.1 (by omega) hx.2
        rw [ofN_cl (by omega)]
        obtain ⟨S1, e1, b1, l1, _, _, k1⟩ := q225 (N := N) (A := A) (s := s) (S := S) (k := k) (up := d) hN h hw hv hs
        have m225 : ∀ {β : Type} {f : Unit → mM β}, mb (f225 N (Int32.ofNat s) d k) f S = f () S1 := by intro β f; simp only [mb, e1]
        refine ⟨S1, ?_, b1, k1⟩
        unfold f230
        simp only [mE]
        rw [e176, if_pos hx, if_neg (by decide), e211, if_pos hd, if_neg (by decide), E195, if_pos hz, if_pos (by decide), m225]
        have lp := insL_M2 (N := N) (S := S1) (A := A) (s := s) (d := d) (w := w) (k := k) (K := fun (x1 : Int32) (x2 : Int32) (x3 : Int32) (x4 : Int32) (x5 : Int32) (x6 : Int32) (x7 : Int32) => if x3 ≠ 0 then (if x3 ≠ 1 then mret x6 else mret x5) else (mb (f222 N (-1)) fun v18 => mret v18)) b1 hw hs l1 (aN A 3) 0 N (by omega) (by omega)
        refine Eq.trans lp ?_
        by_cases w0 : w = 0
        · rw [if_neg (fun q => q w0), if_pos w0]
          have m222 : ∀ {β : Type} {f : Int32 → mM β}, mb (f222 N (-1)) f S1 = f (tonsF A (ledM A s k d).1 (-1) (aN A 3)) S1 := by intro β f; simp only [mb, q222 (N := N) (S := S1) (A := A) (I := (ledM A s k d).1) (by omega) b1 hw (fun i hi => (l1.1 i hi).1) (Or.inl rfl)]
          rw [m222]; rfl
        · rw [if_pos w0, if_neg w0]
          by_cases w1 : w = 1
          · rw [if_neg (fun q => q w1), if_pos w1]; rfl
          · rw [if_pos w1, if_neg w1]; rfl
      · rw [if_neg (fun q => hz q.2.2)]
        refine MP_same h ?_
        unfold f230
        simp only [mE]
        rw [e176, if_pos hx, if_neg (by decide), e211, if_pos hd, if_neg (by decide), E195, if_neg hz, if_neg (fun q => q rfl)]; rfl
    · rw [if_neg (fun q => hd q.2.1)]
      refine MP_same h ?_
      unfold f230
      simp only [mE]
      rw [e176, if_pos hx, if_neg (by decide), e211, if_neg hd, if_pos rfl]; rfl
  · rw [if_neg (fun q => hx q.1)]
    refine MP_same h ?_
    unfold f230
    simp only [mE]
    rw [e176, if_neg hx, if_pos rfl]; rfl
/-! year -/
def yg (A : Ab) (s : Nat) (k y : Int32) (f : Nat) : Int64 := if rsnA A s k f = 0 ∧ aX A 20 f / 360 = y then Int32.toInt64 ((ledC A s k).2.2.2.2 f) else 0
def sumN (g : Nat → Int64) : Nat → Int64
  | 0 => 0
  | n + 1 => sumN g n + g n
def sumR (g : Nat → Int64) : List Nat → Int64
  | [] => 0
  | x :: l => sumR g l + g x
theorem sumR_app {g : Nat → Int64} : ∀ l r : List Nat, sumR g (l ++ r) = sumR g l + sumR g r := by
  intro l
  induction l with
  | nil => intro r; show sumR g r = 0 + sumR g r; grind
  | cons x l ih => intro r; show sumR g (l ++ r) + g x = sumR g l + g x + sumR g r; rw [ih]; grind
theorem sumR_rev {g : Nat → Int64} : ∀ l : List Nat, sumR g l.reverse = sumR g l := by
  intro l
  induction l with
  | nil => rfl
  | cons x l ih =>
    rw [List.reverse_cons, sumR_app, ih]
    show sumR g l + (0 + g x) = sumR g l + g x
    grind
theorem sumR_ins {g : Nat → Int64} {gt : Nat → Nat → Bool} {f : Nat} : ∀ l : List Nat, sumR g (insR gt f l) = sumR g l + g f := by
  intro l
  induction l with
  | nil => rfl
  | cons x l ih =>
    unfold insR
    split
    · show sumR g (insR gt f l) + g x = sumR g l + g x + g f
      rw [ih]; grind
    · rfl
theorem sum_ord {g : Nat → Int64} {k : Int32} (hg : ∀ y, ¬ (cntA A 20 y k = true ∧ isPs A y = true) → g y = 0) : ∀ n, sumR g (ordM A k n) = sumN g n := by
  intro n
  induction n with
  | zero => rfl
  | succ n ih =>
    unfold ordM sumN
    by_cases hc : cntA A 20 n k = true ∧ isPs A n = true
    · rw [if_pos hc, sumR_ins, ih]
    · rw [if_neg hc, ih, hg n hc]
      grind
def ansYear (A : Ab) (x y k : Int32) : Int64 := if (0 ≤ x ∧ x < 4) ∧ 0 ≤ y ∧ y ≤ 2 then sumN (yg A x.toNatClampNeg k y) (aN A 4) else -1
theorem yearL_C {s : Nat} {x y k : Int32} (h : cBase S A) (hw : WF0 A) (hk : CLk S A s k) : ∀ m i n, m + i = aN A 4 → m < n → f130_L32 N (fun _ _ _ x4 _ => mret x4) n x y k (sumN (yg A s k y) i) (Int32.ofNat i) S = some (sumN (yg A s k y) (aN A 4), S) := by
  have hn4 : aN A 4 ≤ 200 := hw.1.2.2.2.2.1
  obtain ⟨h6, hd⟩ := h.2.2.2.2.1
  intro m
  induction m with
  | zero =>
    intro i n hi hn
    obtain ⟨n, rfl⟩ : ∃ q, n = q + 1 := ⟨n - 1, by omega⟩
    have e : i = aN A 4 := by omega
    subst e
    rw [f130_L32]
    simp only [mE, h6]
    rw [if_pos ((ofN_le (by omega) (by omega)).2 (Nat.le_refl _))]
  | succ m ih =>
    intro i n hi hn
    obtain ⟨n, rfl⟩ : ∃ q, n = q + 1 := ⟨n - 1, by omega⟩
    have hil : i < aN A 4 := by omega
    have hge : ¬ Int32.ofNat i ≥ Int32.ofNat (aN A 4) := fun q => by have := (ofN_le (i := aN A 4) (j := i) (by omega) (by omega)).1 q; omega
    have i1 : inR (Int32.ofNat i) 200 := ofN_inR (by omega) (by omega)
    have i2 := ofN_cl (i := i) (by omega)
    have a59 : ms_A S 59 i = rsnA A s k i := (hk.2.2.2.2.1 i (by omega)).1
    have a61 := (hk.2.2.2.2.1 i (by omega)).2.2
    have a41 : ms_A S 41 i = aX A 20 i := (hd i hil).1
    have nx := ih (i + 1) n (by omega) (by omega)
    simp only [sumN] at nx
    have n360 : (360 : Int32) ≠ 0 := by decide
    have z : ∀ v : Int64, v + 0 = v := by intro v; grind
    rw [f130_L32]
    simp only [mE, h6, if_neg hge, i1, i2, a59]
    by_cases hr : rsnA A s k i = 0
    · rw [if_neg (fun q => q hr)]
      simp only [mE, i1, i2, a41]
      rw [Ediv2 n360]
      by_cases hy : aX A 20 i / 360 = y
      · rw [show yg A s k y i = Int32.toInt64 ((ledC A s k).2.2.2.2 i) from if_pos ⟨hr, hy⟩] at nx
        rw [if_neg (fun q => q hy)]
        simp only [mE, i1, i2, a61, ofN_s]
        exact nx
      · rw [show yg A s k y i = 0 from if_neg (fun q => hy q.2), z] at nx
        rw [if_pos hy, ofN_s]
        exact nx
    · rw [show yg A s k y i = 0 from if_neg (fun q => hr q.1), z] at nx
      rw [if_pos hr, ofN_s]
      exact nx
theorem C_year {x y k : Int32} (hN : 1300 ≤ N) (h : cBase S A) (hw : WF0 A) (hv : WFv A) (hL : CLok S A) : CQ (f130 N x y k) S A (ansYear A x y k) := by
  have hn3 : aN A 3 ≤ 20 := hw.1.2.2.2.1
  have hn4 : aN A 4 ≤ 200 := hw.1.2.2.2.2.1
  have e143 : ∀ {z : Int32} {β : Type} {f : Int32 → mM β}, mb (f143 N z) f S = f (if 0 ≤ z ∧ z < 4 then 1 else 0) S := by intro z β f; simp only [mb, q143]
  unfold ansYear
  by_cases hx : 0 ≤ x ∧ x < 4
  · by_cases hz : 0 ≤ y ∧ y ≤ 2
    · rw [if_pos ⟨hx, hz⟩]
      obtain ⟨s, hs, rfl⟩ := i32_nat (n := 4) hx.1 (by omega) hx.2
      rw [ofN_cl (by omega)]
      obtain ⟨S1, e1, l1, c1, o1⟩ := q146 (N := N) (k := k) hN h hw hv hL hs
      have b1 : cBase S1 A := cBase_led h hn3 (fun b hb => o1 b (by omega))
      have m146 : ∀ {β : Type} {f : Unit → mM β}, mb (f146 N (Int32.ofNat s) k) f S = f () S1 := by intro β f; simp only [mb, e1]
      refine ⟨S1, ?_, b1, fun _ => ⟨s, k, l1⟩, Or.inr c1, o1⟩
      unfold f130
      simp only [mE]
      rw [e143, if_pos hx, if_neg (by decide), E141, if_pos hz, if_pos (by decide), m146]
      exact yearL_C b1 hw l1 (aN A 4) 0 N (by omega) (by omega)
    · rw [if_neg (fun q => hz q.2)]
      refine CQ_same h hL ?_
      unfold f130
      simp only [mE]
      rw [e143, if_pos hx, if_neg (by decide), E141, if_neg hz, if_neg (fun q => q rfl)]; rfl
  · rw [if_neg (fun q => hx q.1)]
    refine CQ_same h hL ?_
    unfold f130
    simp only [mE]
    rw [e143, if_neg hx, if_pos rfl]; rfl
theorem yearL_M {s : Nat} {x y k : Int32} {len : Nat} (h : mBase S A) (hw : WF0 A) (hl : mLd S A (ledC A s k)) (h79 : ms_I S 131 79 = Int32.ofNat len) (hlen : len ≤ 200) : ∀ (L : List Nat) (i n : Nat) (v : Int64), i + L.length = len → L.length < n → (∀ j, j < L.length → ms_A S 177 (i + j) = Int32.ofNat (L.getD j 0)) → (∀ y ∈ L, y < aN A 4) → f231_L35 N (fun _ _ _ x4 _ => mret x4) n x y k v (Int32.ofNat i) S = some (v + sumR (yg A s k y) L, S) := by
  have hn4 : aN A 4 ≤ 200 := hw.1.2.2.2.2.1
  obtain ⟨_, hd⟩ := h.2.2.2.2.1
  have z : ∀ v : Int64, v + 0 = v := by intro v; grind
  intro L
  induction L with
  | nil =>
    intro i n v hi hn hL hy
    obtain ⟨n, rfl⟩ : ∃ q, n = q + 1 := ⟨n - 1, by omega⟩
    have e : i = len := by simpa using hi
    subst e
    rw [f231_L35]
    simp only [mE, h79]
    rw [if_pos ((ofN_le (by omega) (by omega)).2 (Nat.le_refl _))]
    show some (v, S) = some (v + 0, S)
    rw [z]
  | cons f L ih =>
    intro i n v hi hn hL hy
    obtain ⟨n, rfl⟩ : ∃ q, n = q + 1 := ⟨n - 1, by omega⟩
    have hi : i + (L.length + 1) = len := by simpa using hi
    have hn : L.length + 1 < n + 1 := by simpa using hn
    have hfl := hy f (by simp)
    have hge : ¬ Int32.ofNat i ≥ Int32.ofNat len := fun q => by have := (ofN_le (i := len) (j := i) (by omega) (by omega)).1 q; omega
    have i1 : inR (Int32.ofNat i) 200 := ofN_inR (by omega) (by omega)
    have i2 := ofN_cl (i := i) (by omega)
    have j1 : inR (Int32.ofNat f) 200 := ofN_inR (by omega) (by omega)
    have j2 := ofN_cl (i := f) (by omega)
    have a177 : ms_A S 177 i = Int32.ofNat f := hL 0 (by simp)
    have a174 : ms_A S 174 f = rsnA A s k f := (hl.2 f hfl).1
    have a168 : ms_A S 168 f = aX A 20 f := (hd f hfl).1
    have n360 : (360 : Int32) ≠ 0 := by decide
    have nx := fun v => ih (i + 1) n v (by omega) (by omega) (fun j hj => by
      have := hL (j + 1) (by simp; omega)
      rw [show i + 1 + j = i + (j + 1) by omega]; exact this) (fun y hy' => hy y (by simp [hy']))
    rw [f231_L35]
    simp only [mE, h79, if_neg hge, i1, i2, a177, j1, j2, a174]
    show _ = some (v + (sumR (yg A s k y) L + yg A s k y f), S)
    by_cases hr : rsnA A s k f = 0
    · have a176 := (hl.2 f hfl).2.2 hr
      rw [if_neg (fun q => q hr)]
      simp only [mE, i1, i2, a177, j1, j2, a168]
      rw [Ediv2 n360]
      by_cases hy2 : aX A 20 f / 360 = y
      · rw [show yg A s k y f = Int32.toInt64 ((ledC A s k).2.2.2.2 f) from if_pos ⟨hr, hy2⟩, if_neg (fun q => q hy2)]
        simp only [mE, i1, i2, a177, j1, j2, a176, ofN_s]
        rw [nx]
        congr 2
        grind
      · rw [show yg A s k y f = 0 from if_neg (fun q => hy2 q.2), z, if_pos hy2, ofN_s]
        exact nx v
    · rw [show yg A s k y f = 0 from if_neg (fun q => hr q.1), z, if_pos hr, ofN_s]
      exact nx v
theorem M_year {x y k : Int32} (hN : 1300 ≤ N) (h : mBase S A) (hw : WF0 A) (hv : WFv A) : MP (f231 N x y k) S (ansYear A x y k) A := by
  have hn4 : aN A 4 ≤ 200 := hw.1.2.2.2.2.1
  have e176 : ∀ {z : Int32} {β : Type} {f : Int32 → mM β}, mb (f176 N z) f S = f (if 0 ≤ z ∧ z < 4 then 1 else 0) S := by intro z β f; simp only [mb, q176]
  unfold ansYear
  by_cases hx : 0 ≤ x ∧ x < 4
  · by_cases hz : 0 ≤ y ∧ y ≤ 2
    · rw [if_pos ⟨hx, hz⟩]
      obtain ⟨s, hs, rfl⟩ := i32_nat (n := 4) hx.1 (by omega) hx.2
      rw [ofN_cl (by omega)]
      obtain ⟨S1, e1, b1, l1, h79, hst, k1⟩ := q225 (N := N) (A := A) (s := s) (S := S) (k := k) (up := 1000) hN h hw hv hs
      rw [ledM_all hw] at l1
      have hlen : lenM A k ≤ 200 := by have := ordM_len (A := A) (k := k) (aN A 4); unfold lenM; omega
      have m225 : ∀ {β : Type} {f : Unit → mM β}, mb (f225 N (Int32.ofNat s) 1000 k) f S = f () S1 := by intro β f; simp only [mb, e1]
      refine ⟨S1, ?_, b1, k1⟩
      unfold f231
      simp only [mE]
      rw [e176, if_pos hx, if_neg (by decide), E195, if_pos hz, if_pos (by decide), m225]
      have lp := yearL_M (N := N) (S := S1) (A := A) (s := s) (x := Int32.ofNat s) (y := y) (k := k) b1 hw l1 h79 hlen (ordM A k (aN A 4)).reverse 0 N 0 (by simp [lenM]) (by simp only [List.length_reverse]; unfold lenM at hlen; omega) (fun j hj => by
        rw [Nat.zero_add]
        exact stR_rev (g := Int32.ofNat) _ _ hst j (by simpa [lenM] using hj)) (fun y hy => (ordM_lt _ y (by simpa using hy)).1)
      refine Eq.trans lp ?_
      rw [sumR_rev, sum_ord (fun f hf => ?_)]
      · congr 2
        grind
      · unfold yg rsnA
        rw [if_neg]
        intro q
        have := (led_out hw (s := s) (y := f) (k := k) (fun r => hf r.2)).1
        rw [this] at q
        exact absurd q.1 (by decide)
    · rw [if_neg (fun q => hz q.2)]
      refine MP_same h ?_
      unfold f231
      simp only [mE]
      rw [e176, if_pos hx, if_neg (by decide), E195, if_neg hz, if_neg (fun q => q rfl)]; rfl
  · rw [if_neg (fun q => hx q.1)]
    refine MP_same h ?_
    unfold f231
    simp only [mE]
    rw [e176, if_neg hx, if_pos rfl]; rfl
end IY
