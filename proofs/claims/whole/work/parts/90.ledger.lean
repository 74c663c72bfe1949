/-! the ledger: passages judged one after the other; the class -/
/-- who is in the north, since when; reasons, whys, dues -/
abbrev Lst : Type := (Nat → Int32) × (Nat → Int32) × (Nat → Int32) × (Nat → Int32) × (Nat → Int32)
def q0 : Lst := (fun _ => 0, fun _ => 0, fun _ => -1, fun _ => -1, fun _ => -1)
def stepF (A : Ab) (s : Nat) (cs : Int32) (q : Lst) (f : Nat) : Lst :=
  if (rsnF A s f q.1 cs).1 = 0 then (updI q.1 (shO A f) (aX A 22 f), updI q.2.1 (shO A f) (if aX A 22 f = 0 then q.2.1 (shO A f) else aX A 20 f), updI q.2.2.1 f 0, updI q.2.2.2.1 f (rsnF A s f q.1 cs).2, updI q.2.2.2.2 f (dueF A s f))
  else (q.1, q.2.1, updI q.2.2.1 f (rsnF A s f q.1 cs).1, updI q.2.2.2.1 f (rsnF A s f q.1 cs).2, q.2.2.2.2)
/-- with cases in between -/
def stepC (A : Ab) (s : Nat) (pq : Int32 × Lst) (f : Nat) : Int32 × Lst := if isPs A f = true then (pq.1, stepF A s pq.1 pq.2 f) else (aX A 23 f, pq.2)
def cLd (S : ms_S) (q : Lst) : Prop := (∀ i, i < 20 → ms_A S 62 i = q.1 i ∧ ms_A S 63 i = q.2.1 i) ∧ ∀ j, j < 200 → ms_A S 59 j = q.2.2.1 j ∧ ms_A S 60 j = q.2.2.2.1 j ∧ ms_A S 61 j = q.2.2.2.2 j
def offJ (S S1 : ms_S) : Prop := ∀ b, ¬ (54 ≤ b ∧ b ≤ 56) → ¬ (59 ≤ b ∧ b ≤ 63) → Eqc S S1 b
theorem updI_at {f : Nat → Int32} {k : Nat} {v : Int32} : updI f k v k = v := if_pos rfl
theorem updI_ne {f : Nat → Int32} {k j : Nat} {v : Int32} (h : j ≠ k) : updI f k v j = f j := if_neg h
/-- what a step leaves of another fact -/
theorem stepF_ne {A : Ab} {s f y : Nat} {cs : Int32} {q : Lst} (h : y ≠ f) : (stepF A s cs q f).2.2.1 y = q.2.2.1 y ∧ (stepF A s cs q f).2.2.2.1 y = q.2.2.2.1 y ∧ (stepF A s cs q f).2.2.2.2 y = q.2.2.2.2 y := by
  unfold stepF
  split
  · exact ⟨updI_ne h, updI_ne h, updI_ne h⟩
  · exact ⟨updI_ne h, updI_ne h, rfl⟩
theorem stepF_I {A : Ab} {s f i : Nat} {cs : Int32} {q : Lst} (h : i ≠ shO A f) : (stepF A s cs q f).1 i = q.1 i := by
  unfold stepF
  split
  · exact updI_ne h
  · rfl
section LED
variable {N : Nat} {A : Ab} {st pc s : Nat}
theorem shO_lt (hw : WF0 A) {f : Nat} (hf : f < aN A 4) (hp : isPs A f = true) : shO A f < aN A 3 ∧ aX A 21 f = Int32.ofNat (shO A f) := by
  have hn3 : aN A 3 ≤ 20 := hw.1.2.2.2.1
  obtain ⟨_, _, _, _, _, wf⟩ := hw.2.2.2.2.2.2.1 f hf
  have hp := of_decide_eq_true hp
  have wf2 : 0 ≤ aX A 21 f ∧ aX A 21 f < Int32.ofNat (aN A 3) ∧ 0 ≤ aX A 23 f ∧ aX A 23 f ≤ 99 := by rcases wf with q | q; exact absurd q.1 hp; exact q
  obtain ⟨sh, hshl, esh⟩ := i32_nat wf2.1 (by omega) wf2.2.1
  have e : shO A f = sh := by unfold shO; rw [esh, ofN_cl (by omega)]
  rw [e]; exact ⟨hshl, esh⟩
theorem q44 {S : ms_S} {f : Nat} (hd : cDi S A 40 4 20) (hw : WF0 A) (hf : f < aN A 4) (hp : isPs A f = true) (hR : ms_R S 57 0 = some 40) : f44 N (Int32.ofNat f) S = some ((), ms_setA (ms_setA S 62 (shO A f) (aX A 22 f)) 63 (shO A f) (if aX A 22 f = 0 then ms_A S 63 (shO A f) else aX A 20 f)) := by
  have hn3 : aN A 3 ≤ 20 := hw.1.2.2.2.1
  have hn4 : aN A 4 ≤ 200 := hw.1.2.2.2.2.1
  obtain ⟨hs, es⟩ := shO_lt hw hf hp
  have wn := (hw.2.2.2.2.2.2.1 f hf).2.2.1
  obtain ⟨g1, g2, g3, g4, _, _⟩ := hd.2 f hf
  have i1 : inR (Int32.ofNat f) 200 := ofN_inR (by omega) (by omega)
  have i2 := ofN_cl (i := f) (by omega)
  have i3 : inR (Int32.ofNat (shO A f)) 20 := ofN_inR (by omega) (by omega)
  have i4 := ofN_cl (i := shO A f) (by omega)
  have a42 : ms_A S 42 f = Int32.ofNat (shO A f) := g2.trans es
  have a43 : ms_A S 43 f = aX A 22 f := g3
  have a41 : ms_A S 41 f = aX A 20 f := g1
  have R2 : ms_R (ms_setA S 62 (shO A f) (aX A 22 f)) 57 0 = some 40 := by simp only [mGo]; exact hR
  unfold f44
  simp only [mE]
  rw [EgRo hR rfl]
  simp only [mE, i1, i2, a42]
  rw [EgRo hR rfl]
  simp only [mE, i1, i2, a43, i3, i4, vpb wn]
  rw [EgRo R2 rfl]
  have a43' : ms_A (ms_setA S 62 (shO A f) (aX A 22 f)) 43 f = aX A 22 f := by simp [mG]; exact a43
  have a41' : ms_A (ms_setA S 62 (shO A f) (aX A 22 f)) 41 f = aX A 20 f := by simp [mG]; exact a41
  have a63' : ms_A (ms_setA S 62 (shO A f) (aX A 22 f)) 63 (shO A f) = ms_A S 63 (shO A f) := by simp [mG]
  simp only [mE, i1, i2, a43']
  by_cases hz : aX A 22 f = 0
  · rw [if_pos hz, if_pos hz]
    simp only [mE, i3, i4, a63']
  · rw [if_neg hz, if_neg hz, EgRo R2 rfl]
    simp only [mE, i1, i2, a41', i3, i4]
set_option maxHeartbeats 4000000 in
theorem judgeL {S0 : ms_S} {K : Int32 → Int32 → mM Unit} {len : Nat} (hN : 1300 ≤ N) (h : cBase S0 A) (hw : WF0 A) (hv : WFv A) (hs : s < 4) (oc : o_cv pc) (hcv : cCvAt S0 A pc s) (ost : o_st st) (hst : cStrAt S0 A st) (hR : refL S0 st pc) (h9 : ms_I S0 57 9 = Int32.ofNat len) (hlen : len ≤ 200) : ∀ (L : List Nat) (i n : Nat) (p : Int32) (q : Lst) (S : ms_S), i + L.length = len → L.length < n → (∀ j, j < L.length → ms_A S0 58 (i + j) = Int32.ofNat (keyF A (L.getD j 0))) → (∀ y ∈ L, y < aN A 4) → L.Nodup → cLd S q → (∀ y ∈ L, q.2.2.1 y = -1 ∧ q.2.2.2.1 y = -1) → (∀ j, aN A 3 ≤ j → q.1 j = 0) → offJ S0 S → ∃ S1 p1, f37_L45 N st pc K n p (Int32.ofNat i) S = K p1 (Int32.ofNat len) S1 ∧ cLd S1 (L.foldl (stepC A s) (p, q)).2 ∧ offJ S0 S1 := by
  have hn3 : aN A 3 ≤ 20 := hw.1.2.2.2.1
  have hn4 : aN A 4 ≤ 200 := hw.1.2.2.2.2.1
  have fr : ∀ X, offJ S0 X → cBase X A ∧ cCvAt X A pc s ∧ cStrAt X A st ∧ refL X st pc ∧ ms_I X 57 9 = Int32.ofNat len ∧ ms_A X 58 = ms_A S0 58 := by
    intro X hX
    refine ⟨cBase_fr h hn3 (fun k _ => by rw [(hX 4 (by omega) (by omega)).1]) (by rw [(hX 4 (by omega) (by omega)).2.2.1]) ⟨by rw [(hX 6 (by omega) (by omega)).1], by rw [(hX 6 (by omega) (by omega)).1]⟩ (fun b _ _ _ _ _ _ _ hb => hX b (by omega) (by omega)), cCvAt_fr hcv (fun b h1 h2 => hX b (by rcases oc with rfl | rfl | rfl | rfl | rfl <;> omega) (by rcases oc with rfl | rfl | rfl | rfl | rfl <;> omega)), cStrAt_fr hst (fun b h1 h2 => hX b (by rcases ost with rfl | rfl <;> omega) (by rcases ost with rfl | rfl <;> omega)), ?_, by rw [(hX 57 (by omega) (by omega)).1]; exact h9, (hX 58 (by omega) (by omega)).2.2.2.1⟩
    unfold refL; rw [(hX 57 (by omega) (by omega)).2.2.1]; exact hR
  intro L
  induction L with
  | nil =>
    intro i n p q S hi hn hL hy hnd hq hfr hz ho
    obtain ⟨n, rfl⟩ : ∃ q, n = q + 1 := ⟨n - 1, by omega⟩
    have e : i = len := by simpa using hi
    subst e
    obtain ⟨_, _, _, _, h9', _⟩ := fr S ho
    refine ⟨S, p, ?_, hq, ho⟩
    rw [f37_L45]
    simp only [mE, h9']
    rw [if_pos ((ofN_le (by omega) (by omega)).2 (Nat.le_refl _))]
  | cons f L ih =>
    intro i n p q S hi hn hL hy hnd hq hfr hz ho
    obtain ⟨n, rfl⟩ : ∃ q, n = q + 1 := ⟨n - 1, by omega⟩
    have hi : i + (L.length + 1) = len := by simpa using hi
    have hn : L.length + 1 < n + 1 := by simpa using hn
    obtain ⟨hb', hcv', hst', hR', h9', h58'⟩ := fr S ho
    have hfl := hy f (by simp)
    have hnd2 := List.nodup_cons.mp hnd
    have hge : ¬ Int32.ofNat i ≥ Int32.ofNat len := fun q => by have := (ofN_le (i := len) (j := i) (by omega) (by omega)).1 q; omega
    have i1 : inR (Int32.ofNat i) 200 := ofN_inR (by omega) (by omega)
    have i2 := ofN_cl (i := i) (by omega)
    have j1 : inR (Int32.ofNat f) 200 := ofN_inR (by omega) (by omega)
    have j2 := ofN_cl (i := f) (by omega)
    obtain ⟨wd0, wd1, _⟩ := hw.2.2.2.2.2.2.1 f hfl
    have hkey := keyF_lt wd0 wd1 (show f < 200 by omega)
    have a58 : ms_A S 58 i = Int32.ofNat (keyF A f) := by
      have := hL 0 (by simp)
      rw [h58']; exact this
    have hrem : Int32.ofNat (keyF A f) - Int32.ofNat (keyF A f) / 256 * 256 = Int32.ofNat f := by
      have := ofN_rem (v := keyF A f) (k := 256) (by omega) (by omega)
      rw [show Int32.ofNat 256 = (256 : Int32) from rfl] at this
      rw [this]
      congr 1
      unfold keyF
      omega
    have hL2 : ∀ j, j < L.length → ms_A S0 58 (i + 1 + j) = Int32.ofNat (keyF A (L.getD j 0)) := fun j hj => by
      have := hL (j + 1) (by simp; omega)
      rw [show i + 1 + j = i + (j + 1) by omega]; exact this
    have n256 : (256 : Int32) ≠ 0 := by decide
    have hd : cDi S A 40 4 20 := hb'.2.2.2.2.1
    have a42 : ms_A S 42 f = aX A 21 f := (hd.2 f hfl).2.1
    have a44 : ms_A S 44 f = aX A 23 f := (hd.2 f hfl).2.2.2.1
    rw [f37_L45]
    simp only [mE, h9', if_neg hge, i1, i2, a58]
    rw [Erem n256, hrem, EgRo hR'.1 rfl]
    simp only [mE, j1, j2, a42]
    by_cases hp : aX A 21 f = -1
    · -- a case
      have hps : isPs A f = false := decide_eq_false (fun q => q hp)
      rw [if_neg (fun q => q hp), EgRo hR'.1 rfl]
      have r59 : ms_A S 59 f = -1 := by rw [(hq.2 f (by omega)).1]; exact (hfr f (by simp)).1
      simp only [mE, j1, j2, a44, r59]
      rw [if_pos (by decide), ofN_s]
      obtain ⟨S1, p1, e1, r1, o1⟩ := ih (i + 1) n (aX A 23 f) q S (by omega) (by omega) hL2 (fun y hy' => hy y (by simp [hy'])) hnd2.2 hq (fun y hy' => hfr y (by simp [hy'])) hz ho
      refine ⟨S1, p1, e1, ?_, o1⟩
      rw [List.foldl_cons, show stepC A s (p, q) f = (aX A 23 f, q) by unfold stepC; rw [hps]; rfl]
      exact r1
    · have hps : isPs A f = true := decide_eq_true hp
      obtain ⟨hshl, hshe⟩ := shO_lt hw hfl hps
      rw [if_pos hp]
      obtain ⟨S1, e1, v60, vev, k1⟩ := q42 (N := N) (S := S) (A := A) (st := st) (pc := pc) (s := s) (f := f) (I := q.1) (cs := p) hN hb' hw hv hs oc hcv' ost hst' hR' hfl hp (fun j hj => (hq.1 j hj).1) hz (by rw [(hq.2 f (by omega)).2.1]; exact (hfr f (by simp)).2)
      have m42 : ∀ {β : Type} {f' : Int32 → mM β}, mb (f42 N (Int32.ofNat f) p) f' S = f' (rsnF A s f q.1 p).1 S1 := by intro β f'; simp only [mb, e1]
      rw [m42]
      have K1 : ∀ b, ¬ (54 ≤ b ∧ b ≤ 56) → b ≠ 59 → b ≠ 60 → Eqc S (ms_setA S1 59 f (rsnF A s f q.1 p).1) b := fun b h1 h2 h3 => (k1 b h1 h3).tr (Eqc_A h2)
      simp only [mE, j1, j2, mG, and_self, if_true]
      have o1 : offJ S0 (ms_setA S1 59 f (rsnF A s f q.1 p).1) := fun b h1 h2 => (ho b h1 h2).tr (K1 b h1 (by omega) (by omega))
      obtain ⟨hb1, hcv1, hst1, hR1, h91, h581⟩ := fr _ o1
      have next : ∀ (S2 : ms_S), offJ S0 S2 → cLd S2 (stepF A s p q f) → ∃ S3 p1, f37_L45 N st pc K n p (Int32.ofNat (i + 1)) S2 = K p1 (Int32.ofNat len) S3 ∧ cLd S3 ((f :: L).foldl (stepC A s) (p, q)).2 ∧ offJ S0 S3 := by
        intro S2 o2 q2
        rw [List.foldl_cons, show stepC A s (p, q) f = (p, stepF A s p q f) by unfold stepC; rw [hps]; rfl]
        refine ih (i + 1) n p (stepF A s p q f) S2 (by omega) (by omega) hL2 (fun y hy' => hy y (by simp [hy'])) hnd2.2 q2 (fun y hy' => ?_) (fun j hj => ?_) o2
        · have hne : y ≠ f := fun e => hnd2.1 (e ▸ hy')
          have := stepF_ne (A := A) (s := s) (cs := p) (q := q) hne
          rw [this.1, this.2.1]
          exact hfr y (by simp [hy'])
        · rw [stepF_I (by omega)]; exact hz j hj
      by_cases hr : (rsnF A s f q.1 p).1 = 0
      · rw [if_neg (fun q => q hr), EgRo hR1.2.2.2.2 rfl, EgRo hR1.2.2.2.1 (isCv_o oc)]
        obtain ⟨ev1, ev2, ev3⟩ := vev hr
        have A56 : ms_A (ms_setA S1 59 f (rsnF A s f q.1 p).1) 56 = ms_A S1 56 := (Eqc_A (by decide)).2.2.2.1
        obtain ⟨S2, e2, k2⟩ := q31 (N := N) (S := ms_setA S1 59 f (rsnF A s f q.1 p).1) (A := A) (s := s) (G := passG A f) (land := aX A 10 (shO A f)) (by omega) oc hcv1 hv hs (fun j hj => by rw [A56]; exact ev1 j hj) (by simp only [mGo]; exact ev2)
        have hkf : kfC (ms_setA S1 59 f (rsnF A s f q.1 p).1) = kfP (kdF A s f) := by rw [← ev3]; unfold kfC; simp only [mGo]
        rw [hkf] at e2
        have m31 : ∀ {β : Type} {f' : Int32 → mM β}, mb (f31 N pc) f' (ms_setA S1 59 f (rsnF A s f q.1 p).1) = f' (dueF A s f) S2 := by intro β f'; simp only [mb, e2]; rfl
        rw [m31]
        simp only [mE, j1, j2]
        have o2 : offJ S0 (ms_setA S2 61 f (dueF A s f)) := fun b h1 h2 => ((o1 b h1 h2).tr (k2 b (by omega))).tr (Eqc_A (by omega))
        obtain ⟨hb2, _, _, hR2, _, _⟩ := fr _ o2
        have m44 : ∀ {β : Type} {f' : Unit → mM β}, mb (f44 N (Int32.ofNat f)) f' (ms_setA S2 61 f (dueF A s f)) = f' () (ms_setA (ms_setA (ms_setA S2 61 f (dueF A s f)) 62 (shO A f) (aX A 22 f)) 63 (shO A f) (if aX A 22 f = 0 then ms_A (ms_setA S2 61 f (dueF A s f)) 63 (shO A f) else aX A 20 f)) := by intro β f'; simp only [mb, q44 hb2.2.2.2.2.1 hw hfl hps hR2.1]
        rw [m44, ofN_s]
        refine next _ (fun b h1 h2 => ((o2 b h1 h2).tr (Eqc_A (by omega))).tr (Eqc_A (by omega))) ?_
        have b59 : ms_A S2 59 = ms_A (ms_setA S1 59 f (rsnF A s f q.1 p).1) 59 := (k2 59 (by decide)).2.2.2.1
        have b60 : ms_A S2 60 = ms_A S1 60 := by rw [(k2 60 (by decide)).2.2.2.1]; exact (Eqc_A (by decide)).2.2.2.1
        have b61 : ms_A S2 61 = ms_A S 61 := by rw [(k2 61 (by decide)).2.2.2.1]; exact (K1 61 (by omega) (by omega) (by omega)).2.2.2.1
        have b62 : ms_A S2 62 = ms_A S 62 := by rw [(k2 62 (by decide)).2.2.2.1]; exact (K1 62 (by omega) (by omega) (by omega)).2.2.2.1
        have b63 : ms_A S2 63 = ms_A S 63 := by rw [(k2 63 (by decide)).2.2.2.1]; exact (K1 63 (by omega) (by omega) (by omega)).2.2.2.1
        have b59' : ∀ j, ms_A S1 59 j = ms_A S 59 j := fun j => by rw [(k1 59 (by omega) (by omega)).2.2.2.1]
        unfold stepF
        rw [if_pos hr]
        refine ⟨fun j hj => ⟨?_, ?_⟩, fun j hj => ⟨?_, ?_, ?_⟩⟩
        · unfold updI
          simp only [mG, true_and, show ¬ ((62 : Nat) = 63) by decide, false_and, if_false]
          split
          · rfl
          · simp only [show ¬ ((62 : Nat) = 61) by decide, false_and, if_false]
            rw [b62]; exact (hq.1 j hj).1
        · unfold updI
          simp only [mG, true_and, show ¬ ((63 : Nat) = 62) by decide, show ¬ ((63 : Nat) = 61) by decide, false_and, if_false, b63]
          split
          · rw [(hq.1 (shO A f) (by omega)).2]
          · exact (hq.1 j hj).2
        · unfold updI
          simp only [mG, show ¬ ((59 : Nat) = 63) by decide, show ¬ ((59 : Nat) = 62) by decide, show ¬ ((59 : Nat) = 61) by decide, false_and, if_false, b59, true_and, b59']
          split
          · exact hr
          · exact (hq.2 j hj).1
        · unfold updI
          simp only [mG, show ¬ ((60 : Nat) = 63) by decide, show ¬ ((60 : Nat) = 62) by decide, show ¬ ((60 : Nat) = 61) by decide, false_and, if_false, b60]
          rw [v60 j]
          split
          · rfl
          · exact (hq.2 j hj).2.1
        · unfold updI
          simp only [mG, show ¬ ((61 : Nat) = 63) by decide, show ¬ ((61 : Nat) = 62) by decide, true_and, false_and, if_false, b61]
          split
          · rfl
          · exact (hq.2 j hj).2.2
      · rw [if_pos hr, ofN_s]
        refine next _ o1 ?_
        have b : ∀ c, 61 ≤ c → c ≤ 63 → ms_A (ms_setA S1 59 f (rsnF A s f q.1 p).1) c = ms_A S c := fun c h1 h2 => (K1 c (by omega) (by omega) (by omega)).2.2.2.1
        have b59' : ∀ j, ms_A S1 59 j = ms_A S 59 j := fun j => by rw [(k1 59 (by omega) (by omega)).2.2.2.1]
        unfold stepF
        rw [if_neg hr]
        refine ⟨fun j hj => ⟨by rw [b 62 (by omega) (by omega)]; exact (hq.1 j hj).1, by rw [b 63 (by omega) (by omega)]; exact (hq.1 j hj).2⟩, fun j hj => ⟨?_, ?_, by rw [b 61 (by omega) (by omega)]; exact (hq.2 j hj).2.2⟩⟩
        · unfold updI
          simp only [mG, true_and, b59']
          split
          · rfl
          · exact (hq.2 j hj).1
        · unfold updI
          simp only [mG, show ¬ ((60 : Nat) = 59) by decide, false_and, if_false]
          rw [v60 j]
          split
          · rfl
          · exact (hq.2 j hj).2.1
end LED
