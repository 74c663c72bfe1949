/-! readings and could: the class -/
def ixOf (e : Nat) : List Nat → Nat
  | [] => 0
  | y :: l => if y = e then 0 else ixOf e l + 1
theorem ixOf_lt {e : Nat} : ∀ {l : List Nat}, e ∈ l → ixOf e l < l.length ∧ l.getD (ixOf e l) 0 = e := by
  intro l
  induction l with
  | nil => intro h; cases h
  | cons y l ih =>
    intro h
    unfold ixOf
    by_cases hy : y = e
    · rw [if_pos hy]; exact ⟨by simp, by simpa using hy⟩
    · rw [if_neg hy]
      rcases List.mem_cons.mp h with rfl | h
      · exact absurd rfl hy
      · obtain ⟨h1, h2⟩ := ih h
        exact ⟨by simp; omega, by simpa using h2⟩
theorem nd_getD : ∀ {l : List Nat} {i j : Nat}, l.Nodup → i < l.length → j < l.length → l.getD i 0 = l.getD j 0 → i = j := by
  intro l
  induction l with
  | nil => intro i j _ h; simp at h
  | cons y l ih =>
    intro i j hn hi hj e
    have hn := List.nodup_cons.mp hn
    cases i with
    | zero =>
      cases j with
      | zero => rfl
      | succ j =>
        have hj : j < l.length := by simpa using hj
        have e : y = l.getD j 0 := by simpa using e
        exact absurd (e ▸ getD_mem hj) hn.1
    | succ i =>
      have hi : i < l.length := by simpa using hi
      cases j with
      | zero =>
        have e : l.getD i 0 = y := by simpa using e
        exact absurd (e ▸ getD_mem hi) hn.1
      | succ j =>
        have hj : j < l.length := by simpa using hj
        have e : l.getD i 0 = l.getD j 0 := by simpa using e
        rw [ih hn.2 hi hj e]
def ansRead (A : Ab) (x d k : Int32) : Int32 := if (0 ≤ x ∧ x < 4) ∧ 0 ≤ d ∧ d < 1000 then Int32.ofNat (cnt (RB (rbA A x.toNatClampNeg k d)) 0) else -1
def cdN (A : Ab) (s e : Nat) (k : Int32) : Nat := bitsN (cdB (RB (rbA A s k (aX A 30 e))) (ixOf e (sgA A k (aX A 30 e)))) 8
def ansCould (A : Ab) (x e k : Int32) : Int32 := if (0 ≤ x ∧ x < 4) ∧ (0 ≤ e ∧ e < Int32.ofNat (aN A 5)) ∧ cntA A 30 e.toNatClampNeg k = true then Int32.ofNat (cdN A x.toNatClampNeg e.toNatClampNeg k) else -1
section RDC
variable {N : Nat} {S : ms_S} {A : Ab}
theorem C_read {x d k : Int32} (hN : 1300 ≤ N) (h : cBase S A) (hw : WF0 A) (hv : WFv A) (hg : WFg A) (hL : CLok S A) (hP : CPok S A) : CQ2 (f136 N x d k) S A (ansRead A x d k) := by
  have hn3 : aN A 3 ≤ 20 := hw.1.2.2.2.1
  have e143 : ∀ {z : Int32} {β : Type} {f : Int32 → mM β}, mb (f143 N z) f S = f (if 0 ≤ z ∧ z < 4 then 1 else 0) S := by intro z β f; simp only [mb, q143]
  have e142 : ∀ {z : Int32} {β : Type} {f : Int32 → mM β}, mb (f142 N z) f S = f (if 0 ≤ z ∧ z < 1000 then 1 else 0) S := by intro z β f; simp only [mb, q142]
  unfold ansRead
  by_cases hx : 0 ≤ x ∧ x < 4
  · by_cases hd : 0 ≤ d ∧ d < 1000
    · rw [if_pos ⟨hx, hd⟩]
      obtain ⟨s, hs, rfl⟩ := i32_nat (n := 4) hx.1 (by omega) hx.2
      rw [ofN_cl (by omega)]
      obtain ⟨S1, e1, l1, p1, c1, c2, o1⟩ := q147 (N := N) (A := A) (S := S) (s := s) (k := k) (d := d) hN h hw hv hL hP hs
      have m147 : ∀ {β : Type} {f : Unit → mM β}, mb (f147 N (Int32.ofNat s) d k) f S = f () S1 := by intro β f; simp only [mb, e1]
      have b1 : cBase S1 A := cBase_led h hn3 (fun b hb => o1 b (by omega))
      obtain ⟨S2, e2, r2, o2⟩ := q148 (N := N) (A := A) (S := S1) (s := s) (k := k) (d := d) hN hw hv hg hs b1 p1
      have m148 : ∀ {β : Type} {f : Unit → mM β}, mb (f148 N (Int32.ofNat s) d k) f S1 = f () S2 := by intro β f; simp only [mb, e2]
      obtain ⟨S3, e3, o3⟩ := q49 (N := N) (S := S2) (rb := rbA A s k d) (Q := rbA A s k d) (x1 := -1) (g := 0) (by omega) (by omega) (Or.inl ⟨rfl, rfl⟩) (MtC_Rw hg r2)
      have m49 : ∀ {β : Type} {f : Int32 → mM β}, mb (f49 N (-1) 0) f S2 = f (Int32.ofNat (cnt (RB (rbA A s k d)) 0)) S3 := by
        intro β f
        have e3 : f49 N (-1) 0 S2 = _ := e3
        simp only [mb, e3]
      have o13 : ∀ b, ¬ (54 ≤ b ∧ b ≤ 56) → ¬ (73 ≤ b ∧ b ≤ 76) → Eqc S1 S3 b := fun b h1 h2 => (o2 b h1 (by omega)).tr (o3 b (by omega))
      refine ⟨S3, ?_, cBase_led b1 hn3 (fun b hb => o13 b (by omega) (by omega)), fun _ => ⟨s, k, CLk_fr l1 (fun j _ => by rw [(o13 57 (by omega) (by omega)).1]) (o13 57 (by omega) (by omega)).2.2.1 (fun b h1 h2 => (o13 b (by omega) (by omega)).2.2.2.1)⟩, fun _ => ⟨s, d, k, CPk_fr p1 (fun j _ => by rw [(o13 64 (by omega) (by omega)).1]) (fun b h1 h2 => (o13 b (by omega) (by omega)).2.2.2.1)⟩, Or.inr (by rw [(o13 57 (by omega) (by omega)).1]; exact c1), Or.inr (by rw [(o13 64 (by omega) (by omega)).1]; exact c2), fun b hb => (o1 b (by omega)).tr (o13 b (by omega) (by omega))⟩
      unfold f136
      simp only [mE]
      rw [e143, if_pos hx, if_neg (by decide), e142, if_pos hd, if_pos (by decide), m147, m148, m49]
      rfl
    · rw [if_neg (fun q => hd q.2)]
      refine CQ2_same h hL hP ?_
      unfold f136
      simp only [mE]
      rw [e143, if_pos hx, if_neg (by decide), e142, if_neg hd, if_neg (fun q => q rfl)]; rfl
  · rw [if_neg (fun q => hx q.1)]
    refine CQ2_same h hL hP ?_
    unfold f136
    simp only [mE]
    rw [e143, if_neg hx, if_pos rfl]; rfl
theorem C_could {x e k : Int32} (hN : 1300 ≤ N) (h : cBase S A) (hw : WF0 A) (hv : WFv A) (hg : WFg A) (hL : CLok S A) (hP : CPok S A) : CQ2 (f137 N x e k) S A (ansCould A x e k) := by
  have hn3 : aN A 3 ≤ 20 := hw.1.2.2.2.1
  have hn5 : aN A 5 ≤ 60 := hw.1.2.2.2.2.2
  have e143 : ∀ {z : Int32} {β : Type} {f : Int32 → mM β}, mb (f143 N z) f S = f (if 0 ≤ z ∧ z < 4 then 1 else 0) S := by intro z β f; simp only [mb, q143]
  have e19 : ∀ {z : Int32} {β : Type} {f : Int32 → mM β}, mb (f19 N 47 z) f S = f (if 0 ≤ z ∧ z < Int32.ofNat (aN A 5) then 1 else 0) S := by intro z β f; simp only [mb, q19, h.2.2.2.2.2.1.1]
  unfold ansCould
  by_cases hx : 0 ≤ x ∧ x < 4
  · by_cases he : 0 ≤ e ∧ e < Int32.ofNat (aN A 5)
    · obtain ⟨i, hi, rfl⟩ := i32_nat he.1 (by omega) he.2
      have i1 : inR (Int32.ofNat i) 60 := ofN_inR (by omega) (by omega)
      have i2 := ofN_cl (i := i) (by omega)
      rw [i2]
      obtain ⟨d30, _, _, _, d34, d35⟩ := h.2.2.2.2.2.1.2 i hi
      have m22 : ∀ {β : Type} {f' : Int32 → mM β}, mb (f22 N 47 (Int32.ofNat i) k) f' S = f' (if cntA A 30 i k = true then 1 else 0) S := by
        intro β f'
        have e5 : ms_A S (47 + 5) i = aX A 34 i := d34
        have e6 : ms_A S (47 + 6) i = aX A 35 i := d35
        simp only [mb, q22 (N := N) (S := S) (k := k) (a := 47) (i := i) (by show i < 60; omega) (by omega), e5, e6, cntA, decide_eq_true_eq]
      by_cases hc : cntA A 30 i k = true
      · rw [if_pos ⟨hx, he, hc⟩]
        obtain ⟨s, hs, rfl⟩ := i32_nat (n := 4) hx.1 (by omega) hx.2
        rw [ofN_cl (by omega)]
        have D0 : ∃ d, d = aX A 30 i := ⟨_, rfl⟩
        obtain ⟨d, hd⟩ := D0
        obtain ⟨S1, e1, l1, p1, c1, c2, o1⟩ := q147 (N := N) (A := A) (S := S) (s := s) (k := k) (d := d) hN h hw hv hL hP hs
        have m147 : ∀ {β : Type} {f : Unit → mM β}, mb (f147 N (Int32.ofNat s) d k) f S = f () S1 := by intro β f; simp only [mb, e1]
        have b1 : cBase S1 A := cBase_led h hn3 (fun b hb => o1 b (by omega))
        obtain ⟨S2, e2, r2, o2⟩ := q148 (N := N) (A := A) (S := S1) (s := s) (k := k) (d := d) hN hw hv hg hs b1 p1
        have m148 : ∀ {β : Type} {f : Unit → mM β}, mb (f148 N (Int32.ofNat s) d k) f S1 = f () S2 := by intro β f; simp only [mb, e2]
        have hmem : i ∈ sgA A k d := sgL_mem _ _ hi (by unfold sgP; rw [decide_eq_true hd.symm, hc]; rfl)
        obtain ⟨x1, x2⟩ := ixOf_lt hmem
        have hlen : (rbA A s k d).length = (sgA A k d).length := by unfold rbA; rw [List.length_map]
        have hs8 := sgA_len hg (k := k) (d := d)
        obtain ⟨S3, e3, o3⟩ := q51 (N := N) (S := S2) (rb := rbA A s k d) (r := ixOf i (sgA A k d)) (x1 := Int32.ofNat i) (by omega) (MtC_Rw hg r2) (by omega) (fun j hj => by
          rw [hlen] at hj
          rw [(r2.2 j hj).1]
          have hjm := (sgL_lt _ _ (getD_mem (show j < (sgL A k d (aN A 5)).length from hj))).1
          refine ⟨fun q => ?_, fun q => ?_⟩
          · have q : (sgA A k d).getD j 0 = i := (ofN_eq (by unfold sgA; omega) (by omega)).1 q
            exact nd_getD (sgL_nodup _) hj x1 (q.trans x2.symm)
          · rw [q, x2])
        have m51 : ∀ {β : Type} {f : Int32 → mM β}, mb (f51 N (Int32.ofNat i)) f S2 = f (Int32.ofNat (cdN A s i k)) S3 := by
          intro β f
          unfold cdN
          rw [← hd]
          simp only [mb, e3]
        have o13 : ∀ b, ¬ (54 ≤ b ∧ b ≤ 56) → ¬ (73 ≤ b ∧ b ≤ 76) → Eqc S1 S3 b := fun b h1 h2 => (o2 b h1 (by omega)).tr (o3 b (by omega))
        refine ⟨S3, ?_, cBase_led b1 hn3 (fun b hb => o13 b (by omega) (by omega)), fun _ => ⟨s, k, CLk_fr l1 (fun j _ => by rw [(o13 57 (by omega) (by omega)).1]) (o13 57 (by omega) (by omega)).2.2.1 (fun b h1 h2 => (o13 b (by omega) (by omega)).2.2.2.1)⟩, fun _ => ⟨s, d, k, CPk_fr p1 (fun j _ => by rw [(o13 64 (by omega) (by omega)).1]) (fun b h1 h2 => (o13 b (by omega) (by omega)).2.2.2.1)⟩, Or.inr (by rw [(o13 57 (by omega) (by omega)).1]; exact c1), Or.inr (by rw [(o13 64 (by omega) (by omega)).1]; exact c2), fun b hb => (o1 b (by omega)).tr (o13 b (by omega) (by omega))⟩
        unfold f137
        simp only [mE]
        rw [e143, if_pos hx, if_neg (by decide), e19, if_pos he, if_neg (by decide), m22, if_pos hc, if_pos (by decide)]
        simp only [mE, i1, i2, show ms_A S 48 i = d from d30.trans hd.symm]
        rw [m147, m148, m51]
        rfl
      · rw [if_neg (fun q => hc q.2.2)]
        refine CQ2_same h hL hP ?_
        unfold f137
        simp only [mE]
        rw [e143, if_pos hx, if_neg (by decide), e19, if_pos he, if_neg (by decide), m22, if_neg hc, if_neg (fun q => q rfl)]; rfl
    · rw [if_neg (fun q => he q.2.1)]
      refine CQ2_same h hL hP ?_
      unfold f137
      simp only [mE]
      rw [e143, if_pos hx, if_neg (by decide), e19, if_neg he, if_pos rfl]; rfl
  · rw [if_neg (fun q => hx q.1)]
    refine CQ2_same h hL hP ?_
    unfold f137
    simp only [mE]
    rw [e143, if_neg hx, if_pos rfl]; rfl
end RDC
