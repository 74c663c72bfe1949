/-! inside -/
def mvS (A : Ab) (p : (Nat → Int32) × (Nat → Int32)) (f : Nat) : (Nat → Int32) × (Nat → Int32) := (updI p.1 (shO A f) (aX A 22 f), updI p.2 (shO A f) (if aX A 22 f = 0 then p.2 (shO A f) else aX A 20 f))
theorem runL_app {A : Ab} {s : Nat} {k : Int32} {P Q : List Nat} {q : Lst} : runL A s k (P ++ Q) q = runL A s k Q (runL A s k P q) := by unfold runL; rw [List.foldl_append]
/-- moves are those of the let -/
theorem runL_mv {A : Ab} {s : Nat} {k : Int32} : ∀ (L : List Nat) (q : Lst), L.Nodup → ((runL A s k L q).1, (runL A s k L q).2.1) = (L.filter (fun f => decide ((runL A s k L q).2.2.1 f = 0))).foldl (mvS A) (q.1, q.2.1) := by
  intro L
  induction L with
  | nil => intro q _; rfl
  | cons f L ih =>
    intro q hnd
    have hnd2 := List.nodup_cons.mp hnd
    have e : runL A s k (f :: L) q = runL A s k L (stepF A s (caseF A (aX A 20 f) k) q f) := rfl
    have hR : (runL A s k L (stepF A s (caseF A (aX A 20 f) k) q f)).2.2.1 f = (stepF A s (caseF A (aX A 20 f) k) q f).2.2.1 f := (runL_out L _ hnd2.1).1
    rw [e, ih _ hnd2.2, List.filter_cons, hR]
    unfold stepF
    by_cases hr : (rsnF A s f q.1 (caseF A (aX A 20 f) k)).1 = 0
    · rw [if_pos hr]
      simp only [updI_at, decide_true, if_true, List.foldl_cons]
      rfl
    · rw [if_neg hr]
      simp only [updI_at, hr, decide_false, Bool.false_eq_true, if_false]
section INS
variable {N : Nat} {A : Ab} {s : Nat} {k : Int32}
def rsnA (A : Ab) (s : Nat) (k : Int32) (f : Nat) : Int32 := (ledC A s k).2.2.1 f
theorem takeWhile_filter {p : Nat → Bool} : ∀ L : List Nat, List.Pairwise (fun a b => p b = true → p a = true) L → L.takeWhile p = L.filter p := by
  intro L
  induction L with
  | nil => intro _; rfl
  | cons x L ih =>
    intro h
    obtain ⟨h1, h2⟩ := List.pairwise_cons.mp h
    cases hp : p x with
    | true => rw [List.takeWhile_cons_of_pos hp, List.filter_cons_of_pos hp, ih h2]
    | false =>
      have hn : ¬ p x = true := by rw [hp]; decide
      rw [List.takeWhile_cons_of_neg hn, List.filter_cons_of_neg hn]
      symm
      rw [List.filter_eq_nil_iff]
      intro y hy hq
      exact hn (h1 y hy hq)
theorem ordM_up (hw : WF0 A) {up : Int32} : (ordM A k (aN A 4)).reverse.takeWhile (upTo A up) = (ordM A k (aN A 4)).reverse.filter (upTo A up) := by
  refine takeWhile_filter _ ?_
  rw [List.pairwise_reverse]
  have h := ordC_dsc (A := A) (k := k) (aN A 4)
  rw [← ord_filter hw _ (Nat.le_refl _)]
  have hm : ∀ y, y ∈ ordC A k (aN A 4) → y < aN A 4 := fun y hy => (ordC_lt _ y hy).1
  have h2 : List.Pairwise (fun a b => upTo A up a = true → upTo A up b = true) ((ordC A k (aN A 4)).filter (isPs A)) := by
    have h3 : List.Pairwise (fun a b => keyF A b ≤ keyF A a) ((ordC A k (aN A 4)).filter (isPs A)) := h.filter _
    refine List.Pairwise.imp_of_mem ?_ h3
    intro a b ha hb hk hu
    have ha2 := List.mem_filter.mp ha
    have hb2 := List.mem_filter.mp hb
    obtain ⟨da, hda, ea, ka⟩ := dayN hw (hm a ha2.1)
    obtain ⟨db, hdb, eb, kb⟩ := dayN hw (hm b hb2.1)
    have hu := of_decide_eq_true hu
    have ha3 := hm a ha2.1
    have hb3 := hm b hb2.1
    have hn4 : aN A 4 ≤ 200 := hw.1.2.2.2.2.1
    rw [if_pos ha2.2] at ka
    rw [if_pos hb2.2] at kb
    have hle : db ≤ da := by omega
    refine decide_eq_true ?_
    rw [eb]
    rw [ea] at hu
    exact Int32.le_trans ((ofN_le (by omega) (by omega)).2 hle) hu
  exact h2
theorem rsn_pre (hw : WF0 A) {up : Int32} {y : Nat} (hy : aX A 20 y ≤ up) : (ledM A s k up).2.2.1 y = rsnA A s k y ∧ (ledM A s k up).2.2.2.2 y = (ledC A s k).2.2.2.2 y := by
  unfold rsnA
  have e : (ordM A k (aN A 4)).reverse = (ordM A k (aN A 4)).reverse.takeWhile (upTo A up) ++ (ordM A k (aN A 4)).reverse.dropWhile (upTo A up) := List.takeWhile_append_dropWhile.symm
  have hno : y ∉ (ordM A k (aN A 4)).reverse.dropWhile (upTo A up) := by
    intro hm
    have hnd : ((ordM A k (aN A 4)).reverse.takeWhile (upTo A up) ++ (ordM A k (aN A 4)).reverse.dropWhile (upTo A up)).Nodup := by rw [← e]; exact nodup_rev (ordM_nodup _)
    have hd := (List.nodup_append.mp hnd).2.2
    refine hd y ?_ y hm rfl
    rw [ordM_up hw]
    refine List.mem_filter.mpr ⟨?_, decide_eq_true hy⟩
    rw [e]
    exact List.mem_append.mpr (Or.inr hm)
  have := runL_out (A := A) (s := s) (k := k) _ (runL A s k ((ordM A k (aN A 4)).reverse.takeWhile (upTo A up)) q0) hno
  have hfull : ledC A s k = runL A s k ((ordM A k (aN A 4)).reverse.dropWhile (upTo A up)) (ledM A s k up) := by
    rw [led_eq hw]
    unfold ledM
    rw [← runL_app, ← e]
  rw [hfull]
  exact ⟨this.1.symm, this.2.2.symm⟩
def setP (A : Ab) (s : Nat) (k d : Int32) (f : Nat) : Bool := decide (rsnA A s k f = 0 ∧ aX A 20 f ≤ d)
theorem settle_eq (hw : WF0 A) {d : Int32} : ((ordC A k (aN A 4)).reverse.filter (setP A s k d)).foldl (mvS A) (fun _ => 0, fun _ => 0) = ((ledM A s k d).1, (ledM A s k d).2.1) := by
  have hm := runL_mv (A := A) (s := s) (k := k) ((ordM A k (aN A 4)).reverse.takeWhile (upTo A d)) q0 (by
    rw [ordM_up hw]; exact (nodup_rev (ordM_nodup _)).filter _)
  have e2 : ledM A s k d = runL A s k ((ordM A k (aN A 4)).reverse.takeWhile (upTo A d)) q0 := rfl
  rw [← e2] at hm
  rw [hm]
  show _ = (((ordM A k (aN A 4)).reverse.takeWhile (upTo A d)).filter _).foldl (mvS A) (fun _ => 0, fun _ => 0)
  congr 1
  rw [ordM_up hw, List.filter_filter, ← ord_filter hw _ (Nat.le_refl _), ← List.filter_reverse, List.filter_filter]
  refine List.filter_congr (fun y hy => ?_)
  have hy2 := ordC_lt (A := A) (k := k) _ y (by simpa using hy)
  by_cases hu : aX A 20 y ≤ d
  · have := (rsn_pre hw (s := s) (k := k) hu).1
    by_cases hr : rsnA A s k y = 0
    · have hps : isPs A y = true := by
        by_cases hp : isPs A y = true
        · exact hp
        · have := (led_out hw (s := s) (y := y) (k := k) (fun q => hp q.2.2)).1
          unfold rsnA at hr
          rw [this] at hr
          exact absurd hr (by decide)
      rw [show setP A s k d y = true from decide_eq_true ⟨hr, hu⟩, this, show upTo A d y = true from decide_eq_true hu, hps, hr]
      rfl
    · rw [show setP A s k d y = false from decide_eq_false (fun q => hr q.1), this, decide_eq_false hr]
      simp
  · rw [show setP A s k d y = false from decide_eq_false (fun q => hu q.2), show upTo A d y = false from decide_eq_false hu]
    simp
/-! the class settles -/
def CSt (S : ms_S) (p : (Nat → Int32) × (Nat → Int32)) : Prop := ∀ i, i < 20 → ms_A S 62 i = p.1 i ∧ ms_A S 63 i = p.2 i
theorem settleL {d : Int32} (hw : WF0 A) : ∀ (L : List Nat) (i n : Nat) (p : (Nat → Int32) × (Nat → Int32)) (S : ms_S), cBase S A → CLk S A s k → i + L.length = (ordC A k (aN A 4)).length → L.length < n → (∀ j, j < L.length → ms_A S 58 (i + j) = Int32.ofNat (keyF A (L.getD j 0))) → (∀ y ∈ L, y < aN A 4) → CSt S p → ∃ S1, f45_L6 N (fun _ _ => mret ()) n d (Int32.ofNat i) S = some ((), S1) ∧ CSt S1 ((L.filter (setP A s k d)).foldl (mvS A) p) ∧ ∀ b, ¬ (62 ≤ b ∧ b ≤ 63) → Eqc S S1 b := by
  have hn3 : aN A 3 ≤ 20 := hw.1.2.2.2.1
  have hn4 : aN A 4 ≤ 200 := hw.1.2.2.2.2.1
  have hlen : (ordC A k (aN A 4)).length ≤ 200 := by have := ordC_len (A := A) (k := k) (aN A 4); omega
  intro L
  induction L with
  | nil =>
    intro i n p S h hk hi hn hL hy hp
    obtain ⟨n, rfl⟩ : ∃ q, n = q + 1 := ⟨n - 1, by omega⟩
    refine ⟨S, ?_, hp, fun _ _ => Eqc.rf⟩
    have e : i = (ordC A k (aN A 4)).length := by simpa using hi
    rw [f45_L6]
    simp only [mE, hk.2.2.2.2.2.1, ← e]
    rw [if_pos ((ofN_le (by omega) (by omega)).2 (Nat.le_refl _))]
  | cons f L ih =>
    intro i n p S h hk hi hn hL hy hp
    obtain ⟨n, rfl⟩ : ∃ q, n = q + 1 := ⟨n - 1, by omega⟩
    have hi : i + (L.length + 1) = (ordC A k (aN A 4)).length := by simpa using hi
    have hn : L.length + 1 < n + 1 := by simpa using hn
    have hfl := hy f (by simp)
    have hge : ¬ Int32.ofNat i ≥ Int32.ofNat (ordC A k (aN A 4)).length := fun q => by have := (ofN_le (i := (ordC A k (aN A 4)).length) (j := i) (by omega) (by omega)).1 q; omega
    have i1 : inR (Int32.ofNat i) 200 := ofN_inR (by omega) (by omega)
    have i2 := ofN_cl (i := i) (by omega)
    have j1 : inR (Int32.ofNat f) 200 := ofN_inR (by omega) (by omega)
    have j2 := ofN_cl (i := f) (by omega)
    obtain ⟨wd0, wd1, _⟩ := hw.2.2.2.2.2.2.1 f hfl
    have hkey := keyF_lt wd0 wd1 (show f < 200 by omega)
    have a58 : ms_A S 58 i = Int32.ofNat (keyF A f) := by
      have := hL 0 (by simp)
      exact this
    have hrem : Int32.ofNat (keyF A f) - Int32.ofNat (keyF A f) / 256 * 256 = Int32.ofNat f := by
      have := ofN_rem (v := keyF A f) (k := 256) (by omega) (by omega)
      rw [show Int32.ofNat 256 = (256 : Int32) from rfl] at this
      rw [this]
      congr 1
      unfold keyF
      omega
    have hL2 : ∀ j, j < L.length → ms_A S 58 (i + 1 + j) = Int32.ofNat (keyF A (L.getD j 0)) := fun j hj => by
      have := hL (j + 1) (by simp; omega)
      rw [show i + 1 + j = i + (j + 1) by omega]; exact this
    have n256 : (256 : Int32) ≠ 0 := by decide
    have hd : cDi S A 40 4 20 := h.2.2.2.2.1
    have a41 : ms_A S 41 f = aX A 20 f := (hd.2 f hfl).1
    have a59 : ms_A S 59 f = rsnA A s k f := (hk.2.2.2.2.1 f (by omega)).1
    rw [f45_L6]
    simp only [mE, hk.2.2.2.2.2.1, if_neg hge, i1, i2, a58]
    rw [Erem n256, hrem]
    simp only [mE, j1, j2, a59]
    by_cases hr : rsnA A s k f = 0
    · rw [if_neg (fun q => q hr), EgRo hk.2.2.2.1 rfl]
      simp only [mE, j1, j2, a41]
      by_cases hu : aX A 20 f ≤ d
      · rw [if_neg (Int32.not_lt.mpr hu)]
        have hps : isPs A f = true := by
          by_cases hp : isPs A f = true
          · exact hp
          · have := (led_out hw (s := s) (y := f) (k := k) (fun q => hp q.2.2)).1
            unfold rsnA at hr
            rw [this] at hr
            exact absurd hr (by decide)
        have m44 : ∀ {β : Type} {f' : Unit → mM β}, mb (f44 N (Int32.ofNat f)) f' S = f' () (ms_setA (ms_setA S 62 (shO A f) (aX A 22 f)) 63 (shO A f) (if aX A 22 f = 0 then ms_A S 63 (shO A f) else aX A 20 f)) := by intro β f'; simp only [mb, q44 hd hw hfl hps hk.2.2.2.1]
        obtain ⟨hsl, _⟩ := shO_lt hw hfl hps
        rw [m44, ofN_s, List.filter_cons_of_pos (show setP A s k d f = true from decide_eq_true ⟨hr, hu⟩), List.foldl_cons]
        have o2 : ∀ b, ¬ (62 ≤ b ∧ b ≤ 63) → Eqc S (ms_setA (ms_setA S 62 (shO A f) (aX A 22 f)) 63 (shO A f) (if aX A 22 f = 0 then ms_A S 63 (shO A f) else aX A 20 f)) b := fun b hb => (Eqc_A (by omega)).tr (Eqc_A (by omega))
        obtain ⟨S1, e1, p1, o1⟩ := ih (i + 1) n (mvS A p f) _ (cBase_led h hn3 (fun b hb => o2 b (by omega))) (CLk_fr hk (fun j _ => by rw [(o2 57 (by omega)).1]) (by rw [(o2 57 (by omega)).2.2.1]) (fun b h1 h2 => (o2 b (by omega)).2.2.2.1)) (by omega) (by omega) (fun j hj => by rw [(o2 58 (by omega)).2.2.2.1]; exact hL2 j hj) (fun y hy' => hy y (by simp [hy'])) (by
          intro j hj
          unfold mvS updI
          simp only [mG, true_and, show ¬ ((62 : Nat) = 63) by decide, show ¬ ((63 : Nat) = 62) by decide, false_and, if_false]
          refine ⟨?_, ?_⟩
          · split
            · rfl
            · exact (hp j hj).1
          · split
            · rw [(hp (shO A f) (by omega)).2]
            · exact (hp j hj).2)
        exact ⟨S1, e1, p1, fun b hb => (o2 b hb).tr (o1 b hb)⟩
      · rw [if_pos (Int32.not_le.mp hu), ofN_s, List.filter_cons_of_neg (by rw [show setP A s k d f = false from decide_eq_false (fun q => hu q.2)]; decide)]
        exact ih (i + 1) n p S h hk (by omega) (by omega) hL2 (fun y hy' => hy y (by simp [hy'])) hp
    · rw [if_pos hr, ofN_s, List.filter_cons_of_neg (by rw [show setP A s k d f = false from decide_eq_false (fun q => hr q.1)]; decide)]
      exact ih (i + 1) n p S h hk (by omega) (by omega) hL2 (fun y hy' => hy y (by simp [hy'])) hp
theorem q45 {S : ms_S} {d : Int32} (hN : 300 ≤ N) (hw : WF0 A) (h : cBase S A) (hk : CLk S A s k) : ∃ S1, f45 N d S = some ((), S1) ∧ CSt S1 ((ledM A s k d).1, (ledM A s k d).2.1) ∧ ∀ b, ¬ (62 ≤ b ∧ b ≤ 63) → Eqc S S1 b := by
  have hn3 : aN A 3 ≤ 20 := hw.1.2.2.2.1
  have hlen : (ordC A k (aN A 4)).length ≤ 200 := by have := ordC_len (A := A) (k := k) (aN A 4); have : aN A 4 ≤ 200 := hw.1.2.2.2.2.1; omega
  obtain ⟨S1, e1, f1, k1⟩ := q41 (N := N) (S := S) (by omega)
  obtain ⟨S2, e2, p2, k2⟩ := settleL (N := N) (A := A) (s := s) (k := k) (d := d) hw (ordC A k (aN A 4)).reverse 0 N (fun _ => 0, fun _ => 0) S1 (cBase_led h hn3 (fun b hb => k1 b (by omega))) (CLk_fr hk (fun j _ => by rw [(k1 57 (by omega)).1]) (by rw [(k1 57 (by omega)).2.2.1]) (fun b h1 h2 => (k1 b (by omega)).2.2.2.1)) (by simp) (by simp; omega) (fun j hj => by
    rw [(k1 58 (by omega)).2.2.2.1, Nat.zero_add]
    exact stR_rev (g := fun y => Int32.ofNat (keyF A y)) _ _ hk.2.2.2.2.2.2 j (by simpa using hj)) (fun y hy => (ordC_lt _ y (by simpa using hy)).1) (fun i hi => f1 i hi)
  rw [settle_eq hw] at p2
  refine ⟨S2, ?_, p2, fun b hb => (k1 b hb).tr (k2 b hb)⟩
  unfold f45
  have m41 : ∀ {β : Type} {f' : Unit → mM β}, mb (f41 N) f' S = f' () S1 := by intro β f'; simp only [mb, e1]
  rw [m41]
  exact e2
end INS
