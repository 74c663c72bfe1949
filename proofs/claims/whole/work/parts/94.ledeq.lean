/-! the class's ledger and the reference's are one -/
def pcO (A : Ab) (L : List Nat) : Int32 := L.foldl (fun p f => if isPs A f = true then p else aX A 23 f) 0
theorem pcO_snoc {A : Ab} {P : List Nat} {f : Nat} : pcO A (P ++ [f]) = if isPs A f = true then pcO A P else aX A 23 f := by
  unfold pcO
  rw [List.foldl_append]
  rfl
theorem fold_eq {A : Ab} {s : Nat} {k : Int32} : ∀ (L P : List Nat) (q : Lst), (∀ P2 f Q, L = P2 ++ f :: Q → isPs A f = true → pcO A (P ++ P2) = caseF A (aX A 20 f) k) → (L.foldl (stepC A s) (pcO A P, q)).2 = runL A s k (L.filter (isPs A)) q := by
  intro L
  induction L with
  | nil => intro P q _; rfl
  | cons f L ih =>
    intro P q h
    have hnext : ∀ P2 f' Q, L = P2 ++ f' :: Q → isPs A f' = true → pcO A ((P ++ [f]) ++ P2) = caseF A (aX A 20 f') k := by
      intro P2 f' Q e hp
      have := h (f :: P2) f' Q (by rw [e]; rfl) hp
      rw [List.append_assoc]
      exact this
    rw [List.foldl_cons]
    cases hp : isPs A f with
    | true =>
      have h0 := h [] f L rfl hp
      rw [List.append_nil] at h0
      rw [show stepC A s (pcO A P, q) f = (pcO A (P ++ [f]), stepF A s (caseF A (aX A 20 f) k) q f) by unfold stepC; rw [pcO_snoc, if_pos hp, if_pos hp, h0], ih (P ++ [f]) _ hnext, List.filter_cons_of_pos hp]
      rfl
    | false =>
      have hp' : ¬ isPs A f = true := by rw [hp]; decide
      rw [show stepC A s (pcO A P, q) f = (pcO A (P ++ [f]), q) by unfold stepC; rw [pcO_snoc, if_neg hp', if_neg hp'], ih (P ++ [f]) _ hnext, List.filter_cons_of_neg hp']
theorem pcO_rev {A : Ab} : ∀ R : List Nat, pcO A R.reverse = (match R.find? (fun c => !isPs A c) with | none => 0 | some c => aX A 23 c) := by
  intro R
  induction R with
  | nil => rfl
  | cons c R ih =>
    rw [List.reverse_cons, pcO_snoc, List.find?_cons]
    cases hp : isPs A c with
    | true => rw [if_pos rfl, ih]; rfl
    | false => rw [if_neg (by decide)]; rfl
theorem find_congr {p p' : Nat → Bool} : ∀ R : List Nat, (∀ c ∈ R, p c = p' c) → R.find? p = R.find? p' := by
  intro R
  induction R with
  | nil => intro _; rfl
  | cons c R ih =>
    intro h
    rw [List.find?_cons, List.find?_cons, h c (by simp), ih (fun x hx => h x (by simp [hx]))]
section LEQ
variable {A : Ab} {s : Nat} {k : Int32}
theorem peace_eq (hw : WF0 A) {P Q : List Nat} {f : Nat} (e : (ordC A k (aN A 4)).reverse = P ++ f :: Q) (hp : isPs A f = true) : pcO A P = caseF A (aX A 20 f) k := by
  have hn4 : aN A 4 ≤ 200 := hw.1.2.2.2.2.1
  have er : ordC A k (aN A 4) = Q.reverse ++ f :: P.reverse := by
    have := congrArg List.reverse e
    rw [List.reverse_reverse] at this
    rw [this]
    simp
  have hd := ordC_dsc (A := A) (k := k) (aN A 4)
  have hm : ∀ y, y ∈ ordC A k (aN A 4) → y < aN A 4 := fun y hy => (ordC_lt _ y hy).1
  rw [er] at hd hm
  have hd2 := List.pairwise_append.mp hd
  have hfl := hm f (by simp)
  obtain ⟨df, hdf, ef, kf⟩ := dayN hw hfl
  rw [if_pos hp] at kf
  have hf21 : aX A 21 f ≠ -1 := of_decide_eq_true hp
  have hQ : Q.reverse.find? (caseP A (aX A 20 f)) = none := by
    rw [List.find?_eq_none]
    intro y hy hc
    have hc := of_decide_eq_true hc
    have hyl := hm y (by simp at hy ⊢; exact Or.inl hy)
    obtain ⟨dy, hdy, ey, ky⟩ := dayN hw hyl
    rw [if_neg (by unfold isPs; rw [decide_eq_true_eq]; exact fun q => q hc.1)] at ky
    have h1 := hd2.2.2 y hy f (by simp)
    have h2 : dy ≤ df := by have := hc.2; rw [ey, ef] at this; exact (ofN_le (by omega) (by omega)).1 this
    omega
  have hR : P.reverse.find? (caseP A (aX A 20 f)) = P.reverse.find? (fun c => !isPs A c) := by
    refine find_congr _ (fun c hc => ?_)
    have hcl := hm c (by simp at hc ⊢; exact Or.inr (Or.inr hc))
    obtain ⟨dc, hdc, ec, kc⟩ := dayN hw hcl
    have h1 := (List.pairwise_cons.mp hd2.2.1).1 c hc
    by_cases h21 : aX A 21 c = -1
    · have hps : isPs A c = false := decide_eq_false (fun q => q h21)
      rw [hps] at kc ⊢
      simp only [Bool.false_eq_true, if_false] at kc
      have hle : dc ≤ df := by omega
      exact decide_eq_true ⟨h21, by rw [ec, ef]; exact (ofN_le (by omega) (by omega)).2 hle⟩
    · have hps : isPs A c = true := decide_eq_true h21
      rw [hps]
      exact decide_eq_false (fun q => h21 q.1)
  have hbest : bestF A (aX A 20 f) k (aN A 4) = P.reverse.find? (fun c => !isPs A c) := by
    rw [best_find hw _ (Nat.le_refl _), er, List.find?_append, hQ, List.find?_cons, show caseP A (aX A 20 f) f = false from decide_eq_false (fun q => hf21 q.1), hR]
    rfl
  have := pcO_rev (A := A) P.reverse
  rw [List.reverse_reverse] at this
  rw [this, ← hbest]
  rfl
theorem led_eq (hw : WF0 A) : ledC A s k = runL A s k (ordM A k (aN A 4)).reverse q0 := by
  unfold ledC
  have h := fold_eq (A := A) (s := s) (k := k) (ordC A k (aN A 4)).reverse [] q0 (fun P2 f Q e hp => by rw [List.nil_append]; exact peace_eq hw e hp)
  rw [List.filter_reverse, ord_filter hw _ (Nat.le_refl _)] at h
  exact h
theorem takeWhile_all {p : Nat → Bool} : ∀ L : List Nat, (∀ y ∈ L, p y = true) → L.takeWhile p = L := by
  intro L
  induction L with
  | nil => intro _; rfl
  | cons x L ih => intro h; rw [List.takeWhile_cons_of_pos (h x (by simp)), ih (fun y hy => h y (by simp [hy]))]
theorem ledM_all (hw : WF0 A) : ledM A s k 1000 = ledC A s k := by
  rw [led_eq hw]
  unfold ledM
  rw [takeWhile_all]
  intro y hy
  have hy2 := ordM_lt _ y (by simpa using hy)
  have := (hw.2.2.2.2.2.2.1 y hy2.1).2.1
  refine decide_eq_true ?_
  clear hy hy2 hw
  grind
/-- who isn't judged keeps nothing -/
theorem runL_out {y : Nat} : ∀ (L : List Nat) (q : Lst), y ∉ L → (runL A s k L q).2.2.1 y = q.2.2.1 y ∧ (runL A s k L q).2.2.2.1 y = q.2.2.2.1 y ∧ (runL A s k L q).2.2.2.2 y = q.2.2.2.2 y := by
  intro L
  induction L with
  | nil => intro q _; exact ⟨rfl, rfl, rfl⟩
  | cons f L ih =>
    intro q hy
    have hy2 : y ≠ f ∧ y ∉ L := by simpa using hy
    have h1 := ih (stepF A s (caseF A (aX A 20 f) k) q f) hy2.2
    have h2 := stepF_ne (A := A) (s := s) (cs := caseF A (aX A 20 f) k) (q := q) hy2.1
    exact ⟨h1.1.trans h2.1, h1.2.1.trans h2.2.1, h1.2.2.trans h2.2.2⟩
theorem ordM_iff : ∀ n y, y ∈ ordM A k n ↔ y < n ∧ cntA A 20 y k = true ∧ isPs A y = true := by
  intro n
  induction n with
  | zero => intro y; exact ⟨(fun h => by cases h), (fun h => absurd h.1 (by omega))⟩
  | succ n ih =>
    intro y
    unfold ordM
    by_cases hc : cntA A 20 n k = true ∧ isPs A n = true
    · rw [if_pos hc, insR_mem, ih]
      refine ⟨fun h => ?_, fun h => ?_⟩
      · rcases h with h | h
        · subst h; exact ⟨by omega, hc⟩
        · exact ⟨by omega, h.2⟩
      · by_cases e : y = n
        · exact Or.inl e
        · exact Or.inr ⟨by omega, h.2⟩
    · rw [if_neg hc, ih]
      refine ⟨fun h => ⟨by omega, h.2⟩, fun h => ⟨?_, h.2⟩⟩
      by_cases e : y = n
      · subst e; exact absurd h.2 hc
      · omega
/-- dues are owed where the reason is 0, and nowhere else -/
theorem runL_dues : ∀ (L : List Nat) (q : Lst), L.Nodup → (∀ y, q.2.2.1 y ≠ 0 → q.2.2.2.2 y = -1) → (∀ y ∈ L, q.2.2.1 y = -1) → ∀ y, (runL A s k L q).2.2.1 y ≠ 0 → (runL A s k L q).2.2.2.2 y = -1 := by
  intro L
  induction L with
  | nil => intro q _ h _ y; exact h y
  | cons f L ih =>
    intro q hnd h hfr
    have hnd2 := List.nodup_cons.mp hnd
    refine ih (stepF A s (caseF A (aX A 20 f) k) q f) hnd2.2 (fun y hy => ?_) (fun y hy => ?_)
    · by_cases e : y = f
      · subst e
        unfold stepF at hy ⊢
        by_cases hr : (rsnF A s y q.1 (caseF A (aX A 20 y) k)).1 = 0
        · rw [if_pos hr] at hy
          exact absurd updI_at hy
        · rw [if_neg hr]
          exact h y (by rw [hfr y (by simp)]; decide)
      · obtain ⟨a1, _, a3⟩ := stepF_ne (A := A) (s := s) (cs := caseF A (aX A 20 f) k) (q := q) e
        rw [a3]
        rw [a1] at hy
        exact h y hy
    · have e : y ≠ f := fun e => hnd2.1 (e ▸ hy)
      rw [(stepF_ne e).1]
      exact hfr y (by simp [hy])
end LEQ
