/-! lands; a line; the reference -/
theorem dup_iff {ls : List Ld} {l : List Int32} : (ixN (ls.map (·.1)) l = none) ↔ ∀ i, i < ls.length → (ls.getD i zL).1 ≠ l := by
  have hg : ∀ i, i < ls.length → (ls.map (·.1)).getD i [] = (ls.getD i zL).1 := fun i hi => by
    rw [List.getD_eq_getElem?_getD, List.getD_eq_getElem?_getD, List.getElem?_map, List.getElem?_eq_getElem hi]
    rfl
  refine ⟨fun h i hi e => ?_, fun h => ?_⟩
  · have := fnd_none _ _ h i (Nat.zero_le _) (by rw [List.length_map]; omega)
    rw [hg i hi] at this
    exact of_decide_eq_false this e
  · cases hx : ixN (ls.map (·.1)) l with
    | none => rfl
    | some i =>
      obtain ⟨_, h2, h3⟩ := fnd_some _ _ _ hx
      have h2 : i < ls.length := by rw [List.length_map] at h2; omega
      have h3 := of_decide_eq_true h3
      rw [hg i h2] at h3
      exact absurd h3 (h i h2)
def noD (ls : List Ld) (l : List Int32) : Nat → Nat → Bool
  | 0, _ => true
  | m + 1, i => decide ((ls.getD i zL).1 ≠ l) && noD ls l m (i + 1)
theorem noD_iff {ls : List Ld} {l : List Int32} : ∀ m i, noD ls l m i = true ↔ ∀ q, i ≤ q → q < i + m → (ls.getD q zL).1 ≠ l := by
  intro m
  induction m with
  | zero => intro i; exact ⟨fun _ q h1 h2 => absurd h2 (by omega), fun _ => rfl⟩
  | succ m ih =>
    intro i
    unfold noD
    rw [Bool.and_eq_true, decide_eq_true_eq, ih (i + 1)]
    refine ⟨fun h q h1 h2 => ?_, fun h => ⟨h i (by omega) (by omega), fun q h1 h2 => h q (by omega) (by omega)⟩⟩
    by_cases e : q = i
    · rw [e]; exact h.1
    · exact h.2 q (by omega) (by omega)
section SM2
variable {N : Nat} {X : Nat → Int32} {L : Nat} {b : Nat}
theorem dupL {K : Int32 → Int32 → mM Unit} {j n : Nat} {cs : List Cl} {ls : List Ld} (hb2 : b < 2) (hb : TxB X L) (hc : ls.length ≤ 8) (hj : j < tkN X L) (h2 : tTy (tkJ X L j) = 2) : ∀ m i f (S : ms_S) (σ : Sg), m + i = ls.length → m < f → StM S b cs ls n → TkM S (tkJ X L j) → MS S X L σ → (σ = .inr j ∨ σ = rf X L 3 (.inr j)) → ∃ S1, f168_L26 N K f (Int32.ofNat (8 * b + ls.length)) (Int32.ofNat (8 * b + i)) S = K (Int32.ofNat (8 * b + ls.length)) (Int32.ofNat (8 * b + ls.length)) S1 ∧ MS S1 X L (if gd σ = true ∧ noD ls (tNm (tkJ X L j)) m i = true then .inr j else rf X L 3 (.inr j)) ∧ TkM S1 (tkJ X L j) ∧ offM S S1 := by
  have er : rf X L 3 (.inr j) = .inl (3, tAt (tkJ X L j)) := by
    show Sum.inl _ = Sum.inl _
    rw [if_neg (by omega)]
  intro m
  induction m with
  | zero =>
    intro i f S σ hi hf hs ht hm hσ
    obtain ⟨f, rfl⟩ : ∃ q, f = q + 1 := ⟨f - 1, by omega⟩
    have e : i = ls.length := by omega
    subst e
    refine ⟨S, ?_, ?_, ht, offM.rf⟩
    · rw [f168_L26, if_pos ((ofN_le (by omega) (by omega)).2 (Nat.le_refl _))]
    · rcases hσ with h | h
      · rw [if_pos ⟨by rw [h]; rfl, rfl⟩, ← h]; exact hm
      · rw [if_neg (fun q => by rw [h] at q; exact absurd q.1 (by rw [gd_rf]; decide)), ← h]; exact hm
  | succ m ih =>
    intro i f S σ hi hf hs ht hm hσ
    obtain ⟨f, rfl⟩ : ∃ q, f = q + 1 := ⟨f - 1, by omega⟩
    have hil : i < ls.length := by omega
    have i1 : inR (Int32.ofNat (8 * b + i)) 16 := ofN_inR (by omega) (by omega)
    have i2 := ofN_cl (i := 8 * b + i) (by omega)
    obtain ⟨_, l2, l3⟩ := hs.2.2.2.2 i hil
    have hlt := (nm_ltw hb hj (Or.inl h2)).1
    have hpk := (pk_inj l3 hlt).2
    have es : Int32.ofNat (8 * b + i) + 1 = Int32.ofNat (8 * b + (i + 1)) := ofN_s
    rw [f168_L26, if_neg (fun q => by have := (ofN_le (i := 8 * b + ls.length) (j := 8 * b + i) (by omega) (by omega)).1 q; omega)]
    simp only [mE, ht.2.2.1]
    rw [if_neg (fun q => q (clsT_v.2.2.1.2 h2))]
    simp only [mF, i1, i2, l2, ht.2.2.2.2 (Or.inl h2)]
    by_cases hd : (ls.getD i zL).1 = tNm (tkJ X L j)
    · rw [if_neg (fun q => q (lgc.2 (hpk.2 hd)))]
      obtain ⟨S1, e1, m1, o1, k1⟩ := q154 (N := N) (c := 3) (p := tAt (tkJ X L j)) hb (by omega) hm
      have e1 : f154 N 3 (Int32.ofNat (tAt (tkJ X L j))) S = _ := e1
      have m154 : ∀ {β : Type} {f' : Unit → mM β}, mb (f154 N 3 (Int32.ofNat (tAt (tkJ X L j)))) f' S = f' () S1 := by intro β f'; simp only [mb, e1]
      have hfa : fa 3 (tAt (tkJ X L j)) σ = rf X L 3 (.inr j) := by
        rcases hσ with h | h
        · rw [h, er]; rfl
        · rw [h, er]; rfl
      rw [hfa] at m1
      have hs1 : StM S1 b cs ls n := by
        unfold StM at *
        rw [(o1.2 135 (by decide)).2.2.2.1, (o1.2 136 (by decide)).2.2.2.1, (o1.2 134 (by decide)).2.2.2.1, (o1.2 137 (by decide)).2.2.2.1, (o1.2 138 (by decide)).2.2.2.1, (o1.2 139 (by decide)).2.2.2.1, (o1.2 140 (by decide)).2.2.2.1, (o1.2 141 (by decide)).2.2.2.1, (o1.2 142 (by decide)).2.2.2.2.1]
        exact hs
      obtain ⟨S2, e2, m2, t2, o2⟩ := ih (i + 1) f S1 (rf X L 3 (.inr j)) (by omega) (by omega) hs1 (k1 _ ht) m1 (Or.inr rfl)
      rw [if_neg (fun q => absurd q.1 (by rw [gd_rf]; decide))] at m2
      refine ⟨S2, ?_, ?_, t2, o1.tr o2⟩
      · simp only [mE, ht.1]
        rw [m154, es]
        exact e2
      · rw [if_neg (fun q => (noD_iff _ _).1 q.2 i (Nat.le_refl _) (by omega) hd)]
        exact m2
    · rw [if_pos (fun q => hd (hpk.1 (lgc.1 q))), es]
      obtain ⟨S2, e2, m2, t2, o2⟩ := ih (i + 1) f S σ (by omega) (by omega) hs ht hm hσ
      refine ⟨S2, e2, ?_, t2, o2⟩
      have e3 : noD ls (tNm (tkJ X L j)) (m + 1) i = noD ls (tNm (tkJ X L j)) m (i + 1) := by
        show (decide ((ls.getD i zL).1 ≠ tNm (tkJ X L j)) && _) = _
        rw [decide_eq_true hd, Bool.true_and]
      rw [e3]
      exact m2
theorem noL {K : Int32 → Int32 → mM Unit} {j c : Nat} {S : ms_S} (hc : c ≤ 8) (hb2 : b < 2) (ht : TkM S (tkJ X L j)) (h2 : tTy (tkJ X L j) ≠ 2) : ∀ m i f, m + i = c → m < f → f168_L26 N K f (Int32.ofNat (8 * b + c)) (Int32.ofNat (8 * b + i)) S = K (Int32.ofNat (8 * b + c)) (Int32.ofNat (8 * b + c)) S := by
  intro m
  induction m with
  | zero =>
    intro i f hi hf
    obtain ⟨f, rfl⟩ : ∃ q, f = q + 1 := ⟨f - 1, by omega⟩
    have e : i = c := by omega
    subst e
    rw [f168_L26, if_pos ((ofN_le (by omega) (by omega)).2 (Nat.le_refl _))]
  | succ m ih =>
    intro i f hi hf
    obtain ⟨f, rfl⟩ : ∃ q, f = q + 1 := ⟨f - 1, by omega⟩
    have es : Int32.ofNat (8 * b + i) + 1 = Int32.ofNat (8 * b + (i + 1)) := ofN_s
    rw [f168_L26, if_neg (fun q => by have := (ofN_le (i := 8 * b + c) (j := 8 * b + i) (by omega) (by omega)).1 q; omega)]
    simp only [mE, ht.2.2.1]
    rw [if_pos (fun q => h2 (clsT_v.2.2.1.1 q)), es]
    exact ih (i + 1) f (by omega) (by omega)
set_option maxHeartbeats 2000000 in
theorem q168 {S : ms_S} {j n : Nat} {cs : List Cl} {ls : List Ld} (hN : 1300 ≤ N) (hb2 : b < 2) (hB : ms_I S 131 21 = Int32.ofNat b) (hb : TxB X L) (h : MS S X L (.inr (j + 1))) (hc : ls.length < 8) (hs : StM S b cs ls n) : ∃ S1, f168 N S = some ((), S1) ∧ MS S1 X L (ac X L 107 (l2 X L (ls.map (·.1)) (.inr j))) ∧ (gd (l4 X L (ls.map (·.1)) (.inr j)) = true → StM S1 b cs (ls ++ [landV X L (ls.map (·.1)) (.inr j)]) n) ∧ ms_A S1 134 b = Int32.ofNat n ∧ offB b S S1 := by
  have hs' := hs
  obtain ⟨s5, s6, s4, sAr, sLr⟩ := hs
  have C0 : ∃ c, c = ls.length := ⟨_, rfl⟩
  obtain ⟨c, hcc⟩ := C0
  have B1 : inR (Int32.ofNat b) 2 := ofN_inR (by omega) (by omega)
  have B2 := ofN_cl (i := b) (by omega)
  have e8 : 8 * Int32.ofNat b + Int32.ofNat c = Int32.ofNat (8 * b + c) := by rw [show (8 : Int32) = Int32.ofNat 8 from rfl, ofN_mul, ofN_add]
  have e80 : 8 * Int32.ofNat b = Int32.ofNat (8 * b + 0) := by rw [show (8 : Int32) = Int32.ofNat 8 from rfl, ofN_mul]; rfl
  have k1 : inR (Int32.ofNat (8 * b + c)) 16 := ofN_inR (by omega) (by omega)
  have k2 := ofN_cl (i := 8 * b + c) (by omega)
  have hj : j + 1 < tkN X L := h.2.1
  have ht0 := h.2.2.1
  -- told already
  have KX : ∃ K : Int32 → Int32 → mM Unit, K = (fun (x1 : Int32) (x2 : Int32) => (mlet (fun (x1 : Int32) (x2 : Int32) (y1 : Int32) => (mlet (fun (x1 : Int32) (x2 : Int32) (y1 : Int32) (y2 : Int32) => (mlet (fun (x1 : Int32) (x2 : Int32) => (mb (gI 131 21) fun v18 => mb (lA 136 2 v18) fun v20 => mb (sA 136 2 v18 (v20 + 1)) fun _ => mret ())) fun J136 => mb (sB 141 16 y1 y2) fun _ => mb (lA 141 16 x1) fun v24 => if v24 = 0 then J136 x1 x2 else (mb (f158 N) fun _ => J136 x1 x2))) fun J122 => mlet (fun (x1 : Int32) (x2 : Int32) (y1 : Int32) => (J122 x1 x2 y1 0)) fun J121 => mb (f162 N y1) fun _ => mb (f155 N) fun v28 => if v28 = 0 then J121 x1 x2 x1 else (mb (f160 N 495673373285) fun v30 => if v30 = 0 then J121 x1 x2 x1 else (J122 x1 x2 x1 1)))) fun J92 => mb (gJ 131 10) fun v32 => mb (sL 142 16 x1 v32) fun _ => mb (gI 131 8) fun v35 => if v35 ≠ 2 then (J92 x1 x2 0) else (J92 x1 x2 1))) := ⟨_, rfl⟩
  obtain ⟨K, hK⟩ := KX
  have told : ∃ S1 σ1, f168_L26 N K N (Int32.ofNat (8 * b + c)) (Int32.ofNat (8 * b + 0)) S = K (Int32.ofNat (8 * b + c)) (Int32.ofNat (8 * b + c)) S1 ∧ MS S1 X L σ1 ∧ TkM S1 (tkJ X L (j + 1)) ∧ offM S S1 ∧ dm X L 2 σ1 = l2 X L (ls.map (·.1)) (.inr j) ∧ (∀ i, σ1 = .inr i → i = j + 1) := by
    by_cases h2 : tTy (tkJ X L (j + 1)) = 2
    · obtain ⟨S1, e1, m1, t1, o1⟩ := dupL (N := N) (K := K) (n := n) (cs := cs) (ls := ls) hb2 hb (by omega) hj h2 ls.length 0 N S (.inr (j + 1)) (by omega) (by omega) hs' ht0 h (Or.inl rfl)
      rw [← hcc] at e1
      refine ⟨S1, _, e1, m1, t1, o1, ?_, ?_⟩
      · unfold l2 nwN
        have hT : isT X L 2 (nx (.inr j)) = true := decide_eq_true h2
        rw [if_pos hT]
        by_cases hd : noD ls (tNm (tkJ X L (j + 1))) ls.length 0 = true
        · rw [if_pos ⟨rfl, hd⟩, if_pos (show ixN (ls.map (·.1)) (nmV X L (nx (.inr j))) = none from dup_iff.2 (fun i hi => (noD_iff _ _).1 hd i (Nat.zero_le _) (by omega)))]
          unfold dm
          rw [if_pos (show isT X L 2 (.inr (j + 1)) = true from hT)]
          rfl
        · rw [if_neg (fun q => hd q.2), if_neg (show ¬ ixN (ls.map (·.1)) (nmV X L (nx (.inr j))) = none from fun q => hd ((noD_iff _ _).2 (fun i _ hi => dup_iff.1 q i (by omega))))]
          rfl
      · intro i hi
        split at hi
        · cases hi; rfl
        · cases hi
    · refine ⟨S, .inr (j + 1), noL (by omega) hb2 ht0 h2 c 0 N (by omega) (by omega), h, ht0, offM.rf, ?_, fun i hi => by cases hi; rfl⟩
      unfold l2 nwN dm
      have hT : ¬ isT X L 2 (nx (.inr j)) = true := fun q => h2 (of_decide_eq_true q)
      rw [if_neg hT, if_neg (show ¬ isT X L 2 (.inr (j + 1)) = true from hT)]
      rfl
  obtain ⟨S1, σ1, e1, m1, t1, o1, hdm, hσ1⟩ := told
  -- the name
  have W1e : ∃ W, W = ms_setL S1 142 (8 * b + c) (ms_J S1 131 10) := ⟨_, rfl⟩
  obtain ⟨W1, hW1⟩ := W1e
  have q1 : MS W1 X L σ1 := by rw [hW1]; exact MS_L m1
  have t1' : TkM W1 (tkJ X L (j + 1)) := by rw [hW1]; exact TkM_L t1
  have V0 : ∃ y : Int32, y = if clsT (tTy (tkJ X L (j + 1))) ≠ 2 then 0 else 1 := ⟨_, rfl⟩
  obtain ⟨y, hy⟩ := V0
  obtain ⟨S2, e2, q2, o2⟩ := q162 (N := N) (ty := 2) (v := y) hN hb q1 (by omega) (fun i hi => by
    have := hσ1 i hi
    subst this
    rw [hy]
    by_cases h2 : tTy (tkJ X L (j + 1)) = 2
    · rw [if_neg (fun q => q (clsT_v.2.2.1.2 h2)), if_pos h2]
    · rw [if_pos (fun q => h2 (clsT_v.2.2.1.1 q)), if_neg h2])
  rw [hdm] at q2
  -- shore
  have N0 : ∃ v : Int32, v = if isT X L 107 (l2 X L (ls.map (·.1)) (.inr j)) = true then 1 else 0 := ⟨_, rfl⟩
  obtain ⟨vn, hvn⟩ := N0
  have vn01 : vn = 0 ∨ vn = 1 := by rw [hvn]; split <;> simp
  have W2e : ∃ W, W = ms_setA S2 141 (8 * b + c) vn := ⟨_, rfl⟩
  obtain ⟨W2, hW2⟩ := W2e
  have q3 : MS W2 X L (l2 X L (ls.map (·.1)) (.inr j)) := by rw [hW2]; exact MS_A q2 (by decide)
  have a141 : ms_A W2 141 (8 * b + c) = vn := by rw [hW2]; simp [mG]
  have key2 : ∃ S9, (if vn = 0 then (some ((), W2) : Option (Unit × ms_S)) else f158 N W2) = some ((), S9) ∧ MS S9 X L (ac X L 107 (l2 X L (ls.map (·.1)) (.inr j))) ∧ offM W2 S9 := by
    unfold ac
    by_cases h107 : isT X L 107 (l2 X L (ls.map (·.1)) (.inr j)) = true
    · rw [if_pos h107] at hvn
      rw [if_pos h107, if_neg (by rw [hvn]; decide)]
      cases hq : l2 X L (ls.map (·.1)) (.inr j) with
      | inl e => rw [hq] at h107; exact absurd (of_decide_eq_true h107) (by show ¬ ((0 : Nat) = 107); decide)
      | inr i =>
        rw [hq] at q3 h107
        have hty : tTy (tkJ X L i) = 107 := of_decide_eq_true h107
        obtain ⟨S9, e9, m9, o9⟩ := qnext (N := N) hN hb q3 (by omega) (by omega)
        exact ⟨S9, e9, m9, o9⟩
    · rw [if_neg h107] at hvn
      rw [if_neg h107, if_pos hvn]
      exact ⟨W2, rfl, q3, offM.rf⟩
  obtain ⟨S9, e9, q10, o9⟩ := key2
  have bI : ∀ {S' S'' : ms_S}, offM S' S'' → ms_I S'' 131 21 = ms_I S' 131 21 := fun o => o.1 21 (by omega)
  have w1B : ms_I W1 131 21 = Int32.ofNat b := by rw [hW1]; simp only [mGo]; rw [bI o1]; exact hB
  have w2B : ms_I W2 131 21 = Int32.ofNat b := by rw [hW2]; simp only [mGo]; rw [bI o2]; exact w1B
  have s9B : ms_I S9 131 21 = Int32.ofNat b := by rw [bI o9]; exact w2B
  have xA : ∀ k, 134 ≤ k → k ≤ 141 → ∀ i, ms_A S9 k i = if k = 141 ∧ i = 8 * b + c then vn else ms_A S k i := by
    intro k hk1 hk2 i
    rw [(o9.2 k (by omega)).2.2.2.1, hW2]
    simp only [mG]
    rw [(o2.2 k (by omega)).2.2.2.1, hW1]
    simp only [mGo]
    rw [(o1.2 k (by omega)).2.2.2.1]
  have xL : ∀ i, ms_L S9 142 i = if i = 8 * b + c then ms_J S1 131 10 else ms_L S 142 i := by
    intro i
    rw [(o9.2 142 (by decide)).2.2.2.2.1, hW2]
    simp only [mGo]
    rw [(o2.2 142 (by decide)).2.2.2.2.1, hW1]
    simp only [mG, true_and]
    rw [(o1.2 142 (by decide)).2.2.2.2.1]
  have x136 : ms_A S9 136 b = Int32.ofNat c := by rw [xA 136 (by omega) (by omega), if_neg (by omega), hcc]; exact s6
  refine ⟨ms_setA S9 136 b (Int32.ofNat (c + 1)), ?_, MS_A q10 (by decide), fun hg => ?_, ?_, ?_⟩
  · have last : (mb (sB 141 16 (Int32.ofNat (8 * b + c)) vn) fun _ => mb (lA 141 16 (Int32.ofNat (8 * b + c))) fun v24 => if v24 = 0 then (mb (gI 131 21) fun v18 => mb (lA 136 2 v18) fun v20 => mb (sA 136 2 v18 (v20 + 1)) fun _ => mret ()) else (mb (f158 N) fun _ => (mb (gI 131 21) fun v18 => mb (lA 136 2 v18) fun v20 => mb (sA 136 2 v18 (v20 + 1)) fun _ => mret ()))) S2 = some ((), ms_setA S9 136 b (Int32.ofNat (c + 1))) := by
      simp only [mE, k1, k2, vpb vn01, ← hW2, a141]
      by_cases h0 : vn = 0
      · rw [if_pos h0] at e9 ⊢
        have e9 : W2 = S9 := by simpa using e9
        rw [e9]
        simp only [mE, s9B, B1, B2, x136, ofN_s]
      · rw [if_neg h0] at e9 ⊢
        have m9 : ∀ {β : Type} {f' : Unit → mM β}, mb (f158 N) f' W2 = f' () S9 := by intro β f'; simp only [mb, e9]
        rw [m9]
        simp only [mE, s9B, B1, B2, x136, ofN_s]
    have mid : (mb (f162 N y) fun _ => mb (f155 N) fun v28 => if v28 = 0 then (mb (sB 141 16 (Int32.ofNat (8 * b + c)) 0) fun _ => mb (lA 141 16 (Int32.ofNat (8 * b + c))) fun v24 => if v24 = 0 then (mb (gI 131 21) fun v18 => mb (lA 136 2 v18) fun v20 => mb (sA 136 2 v18 (v20 + 1)) fun _ => mret ()) else (mb (f158 N) fun _ => (mb (gI 131 21) fun v18 => mb (lA 136 2 v18) fun v20 => mb (sA 136 2 v18 (v20 + 1)) fun _ => mret ()))) else (mb (f160 N 495673373285) fun v30 => if v30 = 0 then (mb (sB 141 16 (Int32.ofNat (8 * b + c)) 0) fun _ => mb (lA 141 16 (Int32.ofNat (8 * b + c))) fun v24 => if v24 = 0 then (mb (gI 131 21) fun v18 => mb (lA 136 2 v18) fun v20 => mb (sA 136 2 v18 (v20 + 1)) fun _ => mret ()) else (mb (f158 N) fun _ => (mb (gI 131 21) fun v18 => mb (lA 136 2 v18) fun v20 => mb (sA 136 2 v18 (v20 + 1)) fun _ => mret ()))) else (mb (sB 141 16 (Int32.ofNat (8 * b + c)) 1) fun _ => mb (lA 141 16 (Int32.ofNat (8 * b + c))) fun v24 => if v24 = 0 then (mb (gI 131 21) fun v18 => mb (lA 136 2 v18) fun v20 => mb (sA 136 2 v18 (v20 + 1)) fun _ => mret ()) else (mb (f158 N) fun _ => (mb (gI 131 21) fun v18 => mb (lA 136 2 v18) fun v20 => mb (sA 136 2 v18 (v20 + 1)) fun _ => mret ()))))) W1 = some ((), ms_setA S9 136 b (Int32.ofNat (c + 1))) := by
      have m2 : ∀ {β : Type} {f' : Unit → mM β}, mb (f162 N y) f' W1 = f' () S2 := by intro β f'; simp only [mb, e2]
      rw [m2, E155 q2]
      cases hq : l2 X L (ls.map (·.1)) (.inr j) with
      | inl e =>
        have : vn = 0 := by rw [hvn, hq]; rfl
        rw [this] at last
        rw [show gd (.inl e) = false from rfl]
        exact last
      | inr i =>
        rw [show gd (.inr i) = true from rfl, if_pos rfl, if_neg (by decide)]
        obtain ⟨vw, ew, vw01, pw⟩ := q160 (N := N) (i := 7) hb (by omega) q2
        have mw : ∀ {β : Type} {f' : Int32 → mM β}, mb (f160 N 495673373285) f' S2 = f' vw S2 := by intro β f'; have ew : f160 N 495673373285 S2 = _ := ew; simp only [mb, ew]
        have hvw : vw = vn := by
          rw [pw i hq, hvn, hq]
          by_cases h21 : tTy (tkJ X L i) = 107
          · rw [if_pos h21, if_pos (show isT X L 107 (.inr i) = true from decide_eq_true h21)]
          · rw [if_neg h21, if_neg (show ¬ isT X L 107 (.inr i) = true from fun q => h21 (of_decide_eq_true q))]
        rw [mw, hvw]
        rcases vn01 with h0 | h1
        · rw [h0] at last ⊢
          rw [if_pos rfl]
          exact last
        · rw [h1] at last ⊢
          rw [if_neg (by decide)]
          exact last
    unfold f168
    simp only [mE, hB, B1, B2, s6, ← hcc, e8]
    rw [e80]
    rw [hK] at e1
    refine e1.trans ?_
    simp only [mE, mF, k1, k2, ← hW1, t1'.2.2.1]
    by_cases h2 : clsT (tTy (tkJ X L (j + 1))) ≠ 2
    · rw [if_pos h2] at hy
      rw [if_pos h2, ← hy]
      rw [hy] at mid ⊢
      exact mid
    · rw [if_neg h2] at hy
      rw [if_neg h2]
      rw [hy] at mid
      exact mid
  · have h1 := gd_dm hg
    have h2 : gd (l2 X L (ls.map (·.1)) (.inr j)) = true := by rw [← gd_ac (X := X) (L := L) (ty := 107)]; exact h1.1
    have h3 := gd_nw (show gd (nwN X L (ls.map (·.1)) (nx (.inr j))) = true from h2)
    have hty : tTy (tkJ X L (j + 1)) = 2 := of_decide_eq_true h3.2.1
    have hlt := (nm_ltw hb hj (Or.inl hty)).1
    have eJ : ms_J S1 131 10 = pk8 (tNm (tkJ X L (j + 1))) := t1.2.2.2.2 (Or.inl hty)
    have eV : landV X L (ls.map (·.1)) (.inr j) = (tNm (tkJ X L (j + 1)), vn) := by rw [hvn]; rfl
    have yA : ∀ k i, ms_A (ms_setA S9 136 b (Int32.ofNat (c + 1))) k i = if k = 136 ∧ i = b then Int32.ofNat (c + 1) else ms_A S9 k i := fun k i => by simp only [mG]
    refine ⟨?_, ?_, ?_, fun i hi => ?_, fun i hi => ?_⟩
    · rw [yA, if_neg (by omega), xA 135 (by omega) (by omega), if_neg (by omega)]; exact s5
    · rw [yA, if_pos ⟨rfl, rfl⟩, List.length_append, ← hcc]; rfl
    · rw [yA, if_neg (by omega), xA 134 (by omega) (by omega), if_neg (by omega)]; exact s4
    · rw [yA, yA, yA, yA, if_neg (by omega), if_neg (by omega), if_neg (by omega), if_neg (by omega), xA 137 (by omega) (by omega), xA 138 (by omega) (by omega), xA 139 (by omega) (by omega), xA 140 (by omega) (by omega), if_neg (by omega), if_neg (by omega), if_neg (by omega), if_neg (by omega)]
      exact sAr i hi
    · rw [List.length_append, ← hcc] at hi
      have hi : i < c + 1 := hi
      rw [yA, if_neg (by omega), xA 141 (by omega) (by omega)]
      rw [show ms_L (ms_setA S9 136 b (Int32.ofNat (c + 1))) 142 = ms_L S9 142 from rfl, xL, getD_snoc, ← hcc]
      by_cases e : i = c
      · rw [if_pos (show 141 = 141 ∧ 8 * b + i = 8 * b + c from ⟨rfl, by omega⟩), if_pos (show 8 * b + i = 8 * b + c by omega), if_neg (show ¬ i < c by omega), if_pos e, eV, eJ]
        exact ⟨rfl, rfl, hlt⟩
      · rw [if_neg (show ¬ (141 = 141 ∧ 8 * b + i = 8 * b + c) by omega), if_neg (show ¬ 8 * b + i = 8 * b + c by omega), if_pos (show i < c by omega)]
        exact sLr i (by omega)
  · simp only [mG]
    rw [if_neg (by omega), xA 134 (by omega) (by omega), if_neg (by omega)]
    exact s4
  · have f1 : offB b S W1 := by rw [hW1]; exact o1.b.tr (offB.L (by omega))
    have f2 : offB b W1 W2 := by rw [hW2]; exact o2.b.tr (offB.A (by omega))
    exact ((f1.tr f2).tr o9.b).tr (offB.A (by omega))
end SM2
