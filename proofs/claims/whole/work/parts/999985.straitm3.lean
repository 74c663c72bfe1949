/-! a line of a strait's text, and all of it; the reference -/
section SM3
variable {N : Nat} {X : Nat → Int32} {L : Nat} {b : Nat}
theorem StM_off {S S1 : ms_S} {cs : List Cl} {ls : List Ld} {n : Nat} (hs : StM S b cs ls n) (o : offM S S1) : StM S1 b cs ls n := by
  unfold StM at *
  rw [(o.2 135 (by decide)).2.2.2.1, (o.2 136 (by decide)).2.2.2.1, (o.2 134 (by decide)).2.2.2.1, (o.2 137 (by decide)).2.2.2.1, (o.2 138 (by decide)).2.2.2.1, (o.2 139 (by decide)).2.2.2.1, (o.2 140 (by decide)).2.2.2.1, (o.2 141 (by decide)).2.2.2.1, (o.2 142 (by decide)).2.2.2.2.1]
  exact hs
theorem StM_n {S : ms_S} {cs : List Cl} {ls : List Ld} {n m : Nat} (hs : StM S b cs ls n) : StM (ms_setA S 134 b (Int32.ofNat m)) b cs ls m := by
  obtain ⟨h1, h2, _, h4, h5⟩ := hs
  refine ⟨by rw [(Eqc_A (by decide)).2.2.2.1]; exact h1, by rw [(Eqc_A (by decide)).2.2.2.1]; exact h2, by simp [mG], fun i hi => ?_, fun i hi => ?_⟩
  · rw [(Eqc_A (show (137 : Nat) ≠ 134 by decide)).2.2.2.1, (Eqc_A (show (138 : Nat) ≠ 134 by decide)).2.2.2.1, (Eqc_A (show (139 : Nat) ≠ 134 by decide)).2.2.2.1, (Eqc_A (show (140 : Nat) ≠ 134 by decide)).2.2.2.1]
    exact h4 i hi
  · rw [(Eqc_A (show (141 : Nat) ≠ 134 by decide)).2.2.2.1, show ms_L (ms_setA S 134 b (Int32.ofNat m)) 142 = ms_L S 142 from rfl]
    exact h5 i hi
set_option maxHeartbeats 1000000 in
theorem q166 {S : ms_S} {j n : Nat} {cs : List Cl} {ls : List Ld} (hN : 1300 ≤ N) (hb2 : b < 2) (hB : ms_I S 131 21 = Int32.ofNat b) (hb : TxB X L) (h : MS S X L (.inr j)) (h0 : tTy (tkJ X L j) ≠ 0) (hl : cs.length ≤ 20 ∧ ls.length ≤ 8) (hs : StM S b cs ls n) : ∃ S1, f166 N S = some ((), S1) ∧ MS S1 X L (stp1 X L (.inr j, cs, ls, n)).1 ∧ (gd (stp1 X L (.inr j, cs, ls, n)).1 = true → StM S1 b (stp1 X L (.inr j, cs, ls, n)).2.1 (stp1 X L (.inr j, cs, ls, n)).2.2.1 (stp1 X L (.inr j, cs, ls, n)).2.2.2) ∧ offB b S S1 := by
  have B1 : inR (Int32.ofNat b) 2 := ofN_inR (by omega) (by omega)
  have B2 := ofN_cl (i := b) (by omega)
  obtain ⟨vc, ec, vc01, pc⟩ := q160 (N := N) (i := 16) hb (by omega) h
  obtain ⟨vl, el, vl01, pl⟩ := q160 (N := N) (i := 12) hb (by omega) h
  have pc := pc j rfl
  have pl := pl j rfl
  have mc : ∀ {β : Type} {f' : Int32 → mM β}, mb (f160 N 1667591276) f' S = f' vc S := by intro β f'; have ec : f160 N 1667591276 S = _ := ec; simp only [mb, ec]
  have ml : ∀ {β : Type} {f' : Int32 → mM β}, mb (f160 N 1818324580) f' S = f' vl S := by intro β f'; have el : f160 N 1818324580 S = _ := el; simp only [mb, el]
  have sty : sTy X L (.inr j) = tTy (tkJ X L j) := rfl
  -- behind a line
  have J84 : ∀ (S2 : ms_S) (σ : Sg), MS S2 X L σ → ms_A S2 134 b = Int32.ofNat n → ms_I S2 131 21 = Int32.ofNat b → ∃ S3, (mb (f159 N 59) fun v3 => mb (f162 N v3) fun _ => mb (gI 131 21) fun v6 => mb (lA 134 2 v6) fun v8 => mb (sA 134 2 v6 (v8 + 1)) fun _ => mret ()) S2 = some ((), ms_setA S3 134 b (Int32.ofNat (n + 1))) ∧ MS S3 X L (dm X L 59 σ) ∧ offM S2 S3 := by
    intro S2 σ hm h134 h21
    obtain ⟨v, S3, e1, e2, m1, o1⟩ := mustS (N := N) (c := 59) hN hb (by omega) hm
    have m159 : ∀ {β : Type} {f' : Int32 → mM β}, mb (f159 N 59) f' S2 = f' v S2 := by intro β f'; have e1 : f159 N 59 S2 = _ := e1; simp only [mb, e1]
    have m162 : ∀ {β : Type} {f' : Unit → mM β}, mb (f162 N v) f' S2 = f' () S3 := by intro β f'; simp only [mb, e2]
    have h21' : ms_I S3 131 21 = Int32.ofNat b := by rw [o1.1 21 (by omega)]; exact h21
    have h134' : ms_A S3 134 b = Int32.ofNat n := by rw [(o1.2 134 (by decide)).2.2.2.1]; exact h134
    refine ⟨S3, ?_, m1, o1⟩
    rw [m159, m162]
    simp only [mE, h21', B1, B2, h134', ofN_s]
  -- a wrong token
  have bad : ∀ x1 : Int32, ¬ (sTy X L (.inr j) = 116 ∧ cs.length < 20) → ¬ (sTy X L (.inr j) = 112 ∧ ls.length < 8) → ∃ S1, (mb (f161 N) fun _ => mb (f155 N) fun v1 => if v1 ≠ 0 then (mb (f158 N) fun _ => if x1 = 0 then (mb (f168 N) fun _ => (mb (f159 N 59) fun v3 => mb (f162 N v3) fun _ => mb (gI 131 21) fun v6 => mb (lA 134 2 v6) fun v8 => mb (sA 134 2 v6 (v8 + 1)) fun _ => mret ())) else (mb (f167 N) fun _ => (mb (f159 N 59) fun v3 => mb (f162 N v3) fun _ => mb (gI 131 21) fun v6 => mb (lA 134 2 v6) fun v8 => mb (sA 134 2 v6 (v8 + 1)) fun _ => mret ()))) else (mret ())) S = some ((), S1) ∧ MS S1 X L (stp1 X L (.inr j, cs, ls, n)).1 ∧ (gd (stp1 X L (.inr j, cs, ls, n)).1 = true → StM S1 b (stp1 X L (.inr j, cs, ls, n)).2.1 (stp1 X L (.inr j, cs, ls, n)).2.2.1 (stp1 X L (.inr j, cs, ls, n)).2.2.2) ∧ offB b S S1 := by
    intro x1 hc hl'
    have e1 : stp1 X L (.inr j, cs, ls, n) = (rf X L 2 (.inr j), cs, ls, n + 1) := by
      show (if _ then _ else _) = _
      rw [if_neg hc, if_neg hl']
    obtain ⟨S1, q1, m1, o1, _⟩ := q161 (N := N) hb h
    have m161 : ∀ {β : Type} {f' : Unit → mM β}, mb (f161 N) f' S = f' () S1 := by intro β f'; simp only [mb, q1]
    rw [e1]
    refine ⟨S1, ?_, m1, (fun hg => by cases hg), o1.b⟩
    rw [m161, E155 m1, show gd (rf X L 2 (.inr j)) = false from rfl]
    rfl
  -- a good one
  have good : (∀ {β : Type} {f' : Unit → mM β}, ∃ S1, MS S1 X L (.inr (j + 1)) ∧ offM S S1 ∧ (mb (f158 N) f' S = f' () S1)) → True := fun _ => trivial
  unfold f166
  simp only [mE]
  rw [mc]
  by_cases h116 : tTy (tkJ X L j) = 116
  · rw [if_pos (show tTy (tkJ X L j) = 100 + 16 from h116)] at pc
    rw [pc]
    simp only [mE]
    rw [if_neg (by decide)]
    simp only [mE, hB, B1, B2, hs.1]
    by_cases h20 : cs.length < 20
    · have e1 : stp1 X L (.inr j, cs, ls, n) = (c9 X L (.inr j), cs ++ [cellV X L (.inr j)], ls, n + 1) := if_pos ⟨h116, h20⟩
      have hne : Int32.ofNat cs.length ≠ 20 := fun q => by have := (ofN_eq (j := 20) (by omega) (by omega)).1 q; omega
      rw [if_pos hne, E155 h, show gd (.inr j) = true from rfl, if_pos rfl, if_pos (by decide)]
      obtain ⟨S1, q1, m1, o1⟩ := qnext (N := N) hN hb h (by omega) (by omega)
      have m158 : ∀ {β : Type} {f' : Unit → mM β}, mb (f158 N) f' S = f' () S1 := by intro β f'; simp only [mb, q1]
      obtain ⟨S2, q2, m2, s2, h134, o2⟩ := q167 (N := N) (n := n) (cs := cs) (ls := ls) hN hb2 (by rw [o1.1 21 (by omega)]; exact hB) hb m1 h20 (StM_off hs o1)
      have m167 : ∀ {β : Type} {f' : Unit → mM β}, mb (f167 N) f' S1 = f' () S2 := by intro β f'; simp only [mb, q2]
      obtain ⟨S3, e3, m3, o3⟩ := J84 S2 _ m2 h134 (by rw [o2.1 21 (by omega), o1.1 21 (by omega)]; exact hB)
      rw [e1]
      refine ⟨ms_setA S3 134 b (Int32.ofNat (n + 1)), ?_, MS_A m3 (by decide), fun hg => StM_n (StM_off (s2 hg) o3), ((o1.b.tr o2).tr o3.b).tr (offB.A (by omega))⟩
      rw [m158]
      simp only [mE]
      rw [if_neg (by decide), m167]
      exact e3
    · have he : cs.length = 20 := by omega
      rw [if_neg (fun q => q (by rw [he]; rfl))]
      exact bad 1 (fun q => h20 q.2) (fun q => by rw [sty] at q; omega)
  · rw [if_neg (show ¬ tTy (tkJ X L j) = 100 + 16 from h116)] at pc
    rw [pc]
    simp only [mE]
    rw [if_pos trivial, ml]
    by_cases h112 : tTy (tkJ X L j) = 112
    · rw [if_pos (show tTy (tkJ X L j) = 100 + 12 from h112)] at pl
      rw [pl]
      simp only [mE]
      rw [if_neg (by decide)]
      simp only [mE, hB, B1, B2, hs.2.1]
      by_cases h8 : ls.length < 8
      · have e1 : stp1 X L (.inr j, cs, ls, n) = (l4 X L (ls.map (·.1)) (.inr j), cs, ls ++ [landV X L (ls.map (·.1)) (.inr j)], n + 1) := by
          show (if _ then _ else _) = _
          rw [if_neg (fun q => by rw [sty] at q; omega), if_pos ⟨h112, h8⟩]
        have hne : Int32.ofNat ls.length ≠ 8 := fun q => by have := (ofN_eq (j := 8) (by omega) (by omega)).1 q; omega
        rw [if_pos hne, E155 h, show gd (.inr j) = true from rfl, if_pos rfl, if_pos (by decide)]
        obtain ⟨S1, q1, m1, o1⟩ := qnext (N := N) hN hb h (by omega) (by omega)
        have m158 : ∀ {β : Type} {f' : Unit → mM β}, mb (f158 N) f' S = f' () S1 := by intro β f'; simp only [mb, q1]
        obtain ⟨S2, q2, m2, s2, h134, o2⟩ := q168 (N := N) (n := n) (cs := cs) (ls := ls) hN hb2 (by rw [o1.1 21 (by omega)]; exact hB) hb m1 h8 (StM_off hs o1)
        have m168 : ∀ {β : Type} {f' : Unit → mM β}, mb (f168 N) f' S1 = f' () S2 := by intro β f'; simp only [mb, q2]
        obtain ⟨S3, e3, m3, o3⟩ := J84 S2 _ m2 h134 (by rw [o2.1 21 (by omega), o1.1 21 (by omega)]; exact hB)
        rw [e1]
        refine ⟨ms_setA S3 134 b (Int32.ofNat (n + 1)), ?_, MS_A m3 (by decide), fun hg => StM_n (StM_off (s2 hg) o3), ((o1.b.tr o2).tr o3.b).tr (offB.A (by omega))⟩
        rw [m158]
        simp only [mE]
        rw [if_pos trivial, m168]
        exact e3
      · have he : ls.length = 8 := by omega
        rw [if_neg (fun q => q (by rw [he]; rfl))]
        exact bad 0 (fun q => by rw [sty] at q; omega) (fun q => h8 q.2)
    · rw [if_neg (show ¬ tTy (tkJ X L j) = 100 + 12 from h112)] at pl
      rw [pl]
      simp only [mE]
      rw [if_pos trivial]
      exact bad 0 (fun q => by rw [sty] at q; omega) (fun q => by rw [sty] at q; omega)
theorem straitLM {K : mM Int32} (hN : 1300 ≤ N) (hb2 : b < 2) (hb : TxB X L) : ∀ f n (q : St) (S : ms_S), tkN X L ≤ f + idx q.1 → f < n → (q.2.1.length ≤ 20 ∧ q.2.2.1.length ≤ 8) → ms_I S 131 21 = Int32.ofNat b → MS S X L q.1 → (gd q.1 = true → StM S b q.2.1 q.2.2.1 q.2.2.2) → ∃ S1, f165_L48 N K n S = K S1 ∧ MS S1 X L (stR1 X L f q).1 ∧ (gd (stR1 X L f q).1 = true → StM S1 b (stR1 X L f q).2.1 (stR1 X L f q).2.2.1 (stR1 X L f q).2.2.2) ∧ offB b S S1 := by
  intro f
  induction f with
  | zero =>
    intro n q S hf hn hl hB h hs
    obtain ⟨n, rfl⟩ : ∃ p, n = p + 1 := ⟨n - 1, by omega⟩
    refine ⟨S, ?_, h, hs, offB.rf⟩
    rw [f165_L48, E155 h]
    cases hq : q.1 with
    | inl e => rw [show gd (.inl e) = false from rfl]; rfl
    | inr j =>
      rw [hq] at h hf
      have h1 : j < tkN X L := h.2.1
      have hf : tkN X L ≤ 0 + j := hf
      omega
  | succ f ih =>
    intro n q S hf hn hl hB h hs
    obtain ⟨n, rfl⟩ : ∃ p, n = p + 1 := ⟨n - 1, by omega⟩
    by_cases h0 : sTy X L q.1 = 0
    · have e : stR1 X L (f + 1) q = q := if_pos h0
      rw [e]
      refine ⟨S, ?_, h, hs, offB.rf⟩
      rw [f165_L48, E155 h]
      cases hq : q.1 with
      | inl e => rw [show gd (.inl e) = false from rfl]; rfl
      | inr j =>
        rw [hq] at h h0
        rw [show gd (.inr j) = true from rfl, if_pos rfl, if_neg (by decide)]
        simp only [mE, h.2.2.1.2.2.1]
        rw [if_pos (show clsT (tTy (tkJ X L j)) = 0 from clsT_v.1.2 h0)]
    · have e : stR1 X L (f + 1) q = stR1 X L f (stp1 X L q) := if_neg h0
      rw [e]
      obtain ⟨σ, cs, ls, m⟩ := q
      cases σ with
      | inl e => exact absurd rfl h0
      | inr j =>
        have h : MS S X L (.inr j) := h
        have h0 : tTy (tkJ X L j) ≠ 0 := h0
        obtain ⟨S1, e1, m1, s1, o1⟩ := q166 (N := N) hN hb2 hB hb h h0 hl (hs rfl)
        have m166 : ∀ {β : Type} {f' : Unit → mM β}, mb (f166 N) f' S = f' () S1 := by intro β f'; simp only [mb, e1]
        have hB1 : ms_I S1 131 21 = Int32.ofNat b := by rw [o1.1 21 (by omega)]; exact hB
        have pre : f165_L48 N K (n + 1) S = f165_L48 N K n S1 := by
          rw [f165_L48, E155 h, show gd (.inr j) = true from rfl, if_pos rfl, if_neg (by decide)]
          simp only [mE, h.2.2.1.2.2.1]
          rw [if_neg (fun p => h0 (clsT_v.1.1 p)), m166]
        rw [pre]
        cases hg : gd (stp1 X L (.inr j, cs, ls, m)).1 with
        | true =>
          have hadv := (idx_stp hg).2
          have hadv : j < idx (stp1 X L (.inr j, cs, ls, m)).1 := hadv
          have hf : tkN X L ≤ f + 1 + j := hf
          obtain ⟨S2, e2, m2, s2, o2⟩ := ih n (stp1 X L (.inr j, cs, ls, m)) S1 (by omega) (by omega) (stp_len hl) hB1 m1 s1
          exact ⟨S2, e2, m2, s2, o1.tr o2⟩
        | false =>
          have h00 : sTy X L (stp1 X L (.inr j, cs, ls, m)).1 = 0 := by
            cases hq : (stp1 X L (.inr j, cs, ls, m)).1 with
            | inl e => rfl
            | inr p => rw [hq] at hg; cases hg
          have es : stR1 X L f (stp1 X L (.inr j, cs, ls, m)) = stp1 X L (.inr j, cs, ls, m) := by
            cases f with
            | zero => rfl
            | succ f => exact if_pos h00
          rw [es]
          obtain ⟨n', rfl⟩ : ∃ p, n = p + 1 := ⟨n - 1, by omega⟩
          refine ⟨S1, ?_, m1, s1, o1⟩
          rw [f165_L48, E155 m1, hg]
          rfl
end SM3
