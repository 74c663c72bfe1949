/-! the machine reads as the levels do -/
section SIM
variable {X : Nat → Int32} {L : Nat} {kl : Bool} {kn ln : List (List Int32)}
theorem com_step {lv ar i0 i1 : Nat} {st : List Ek} {q' : Px} {m m1 : Mx} (t0 : Nat) (hm : mR X L kl kn ln t0 m = m1) (ht : t0 + i0 ≤ i1) (hi : i1 ≤ tkN X L) (hle : gd q'.1 = true → i1 ≤ idx q'.1) (h : Com X L kl kn ln lv st ar i1 q' m1) : Com X L kl kn ln lv st ar i0 q' m := by
  refine ⟨fun hg => ?_, fun hg => ?_⟩
  · obtain ⟨t, h1, h2⟩ := h.1 hg
    have := hle hg
    exact ⟨t0 + t, by omega, by rw [mR_add, hm]; exact h2⟩
  · obtain ⟨t, h1, h2⟩ := h.2 hg
    exact ⟨t0 + t, by omega, by rw [mR_add, hm]; exact h2⟩
theorem com_bad {lv ar i0 : Nat} {st : List Ek} {q' : Px} {m : Mx} (t : Nat) (ht : t + i0 ≤ tkN X L) (hb : gd q'.1 = false) (h : (mR X L kl kn ln t m).2.2.1.1 = q'.1) : Com X L kl kn ln lv st ar i0 q' m := ⟨(fun hg => by rw [hb] at hg; cases hg), fun _ => ⟨t, by omega, h⟩⟩
theorem com_one {lv ar i0 : Nat} {st : List Ek} {q' : Px} {m : Mx} (hi : i0 < tkN X L) (hlt : gd q'.1 = true → i0 < idx q'.1) (h : mS X L kl kn ln m = (false, st, q', ar)) (hlv : rkT (sTy X L q'.1) < loR lv) : Com X L kl kn ln lv st ar i0 q' m := by
  have e : mR X L kl kn ln 1 m = (false, st, q', ar) := h
  refine ⟨fun hg => ⟨1, by have := hlt hg; omega, [], q'.2.1, e, ?_, (fun e he => by cases he), Or.inl hlv⟩, fun hg => ⟨1, by omega, by rw [e]⟩⟩
  show q'.2.1 = q'.2.1 ++ []
  rw [List.append_nil]
theorem pLp_s {R : Nat → Nat → Px → Px} {lv ar f : Nat} {q : Px} : pLp X L R lv ar (f + 1) q = if lvT (sTy X L q.1) = lv then (if lv = 2 then pOp X L R lv ar q else pLp X L R lv ar f (pOp X L R lv ar q)) else q := rfl
theorem idx_lp {n lv ar : Nat} (hb : TxB X L) (hk6 : kn.length ≤ 6) (hl8 : ln.length ≤ 8) (hlv : lv < 5) (har : ar ≤ 7) (hnd : nd (lv + 1) ar ≤ n) : ∀ f (q : Px), InT X L q.1 → gd (pLp X L (pE X L kl kn ln n) lv ar f q).1 = true → idx q.1 ≤ idx (pLp X L (pE X L kl kn ln n) lv ar f q).1 := by
  intro f
  induction f with
  | zero => intro q _ _; exact Nat.le_refl _
  | succ f ih =>
    intro q hin hg
    rw [pLp_s] at hg ⊢
    by_cases hl : lvT (sTy X L q.1) = lv
    · rw [if_pos hl] at hg ⊢
      obtain ⟨o1, o2, o3, o4⟩ := lv_op hl hlv
      have hin1 : InT X L (nx q.1) := inT_nx hb hin o4
      have okR := ok_pE (kl := kl) (kn := kn) (ln := ln) hb hk6 hl8 n (lv + 1) ar (nx q.1, q.2) (by omega) har hnd hin1
      have prog : gd (pOp X L (pE X L kl kn ln n) lv ar q).1 = true → idx q.1 ≤ idx (pOp X L (pE X L kl kn ln n) lv ar q).1 := fun h => by
        have h2 : idx (nx q.1) < idx (pOp X L (pE X L kl kn ln n) lv ar q).1 := (okR h).2.1
        have := idx_le_nx (σ := q.1)
        omega
      by_cases h2 : lv = 2
      · rw [if_pos h2] at hg ⊢
        exact prog hg
      · rw [if_neg h2] at hg ⊢
        cases hgo : gd (pOp X L (pE X L kl kn ln n) lv ar q).1 with
        | true => exact Nat.le_trans (prog hgo) (ih _ (fun h => (okR h).2.2.1) hg)
        | false =>
          exfalso
          have h00 : lvT (sTy X L (pOp X L (pE X L kl kn ln n) lv ar q).1) = 9 := by
            cases hq : (pOp X L (pE X L kl kn ln n) lv ar q).1 with
            | inl e => rfl
            | inr j => rw [hq] at hgo; cases hgo
          have es : pLp X L (pE X L kl kn ln n) lv ar f (pOp X L (pE X L kl kn ln n) lv ar q) = pOp X L (pE X L kl kn ln n) lv ar q := by
            cases f with
            | zero => rfl
            | succ f =>
              show (if lvT (sTy X L (pOp X L (pE X L kl kn ln n) lv ar q).1) = lv then _ else _) = _
              rw [if_neg (by omega)]
          rw [es, hgo] at hg
          cases hg
    · rw [if_neg hl]
      exact Nat.le_refl _
theorem app_ne {p st : List Ek} (hs : st ≠ []) : p ++ st ≠ [] := fun z => hs (List.append_eq_nil_iff.mp z).2
set_option maxHeartbeats 1000000 in
/-- the loop of a level -/
theorem simL {n lv ar : Nat} {st : List Ek} (hb : TxB X L) (hk6 : kn.length ≤ 6) (hl8 : ln.length ≤ 8) (hlv : lv < 5) (har : ar ≤ 7) (hnd : nd (lv + 1) ar ≤ n) (hS : Sim X L kl kn ln n (lv + 1) ar) (hs : st ≠ []) (htop : tpE st ≤ tRk lv ∨ 7 ≤ tpE st) : ∀ f (q : Px) (p : List Ek) (c : Cd), gd q.1 = true → InT X L q.1 → q.2.2 ≤ 100 → 1200 ≤ f + idx q.1 → q.2.1 = c ++ cdE p → (∀ e ∈ p, rkL lv ≤ e.1 ∧ e.1 ≤ 6) → (lv = 2 → ∀ e ∈ p, 5 ≤ e.1) → (∀ e ∈ p, loR lv ≤ e.1) → (rkT (sTy X L q.1) < loR (lv + 1) ∨ (rkT (sTy X L q.1) = 4 ∧ cmpd p = true)) → Com X L kl kn ln lv st ar (idx q.1) (pLp X L (pE X L kl kn ln n) lv ar f q) (false, p ++ st, (q.1, c, q.2.2), ar + ntE p) := by
  have hn := tkN_le hb
  have exitC : ∀ (q : Px) (p : List Ek) (c : Cd), gd q.1 = true → InT X L q.1 → q.2.1 = c ++ cdE p → (∀ e ∈ p, loR lv ≤ e.1 ∧ e.1 ≤ 6) → (rkT (sTy X L q.1) < loR (lv + 1) ∨ (rkT (sTy X L q.1) = 4 ∧ cmpd p = true)) → lvT (sTy X L q.1) ≠ lv → Com X L kl kn ln lv st ar (idx q.1) q (false, p ++ st, (q.1, c, q.2.2), ar + ntE p) := by
    intro q p c hg hin hc hp hnx hl
    refine ⟨fun _ => ⟨0, Nat.zero_le _, p, c, rfl, hc, hp, ?_⟩, fun h => by rw [hg] at h; cases h⟩
    rcases hnx with h | h
    · left
      have hne : rkT (sTy X L q.1) ≠ rkL lv := fun z => hl ((rk_lv hlv).2 z)
      have hv := rk_vals (ty := sTy X L q.1)
      unfold loR rkL at *
      rcases (show lv = 0 ∨ lv = 1 ∨ lv = 2 ∨ lv = 3 ∨ lv = 4 by omega) with rfl | rfl | rfl | rfl | rfl <;> simp at h hne ⊢ <;> omega
    · exact Or.inr h
  intro f
  induction f with
  | zero =>
    intro q p c hg hin hu hf hc hp h5 hlo hnx
    have hi := hin hg
    obtain ⟨j, hj⟩ := gdI hg
    have h0 : sTy X L q.1 = 0 := by
      rw [hj] at hi hf ⊢
      have hi : j < tkN X L := hi
      have hf : 1200 ≤ 0 + j := hf
      exact (tkJ_end hb hi).2 (by omega)
    refine exitC q p c hg hin hc (fun e he => ⟨hlo e he, (hp e he).2⟩) hnx ?_
    rw [h0]
    have : lvT 0 = 9 := by decide
    omega
  | succ f ih =>
    intro q p c hg hin hu hf hc hp h5 hlo hnx
    unfold pLp
    by_cases hl : lvT (sTy X L q.1) = lv
    · rw [if_pos hl]
      obtain ⟨o1, o2, o3, o4⟩ := lv_op hl hlv
      have hr : rkT (sTy X L q.1) = rkL lv := (rk_lv hlv).1 hl
      have hi := hin hg
      have hr0 : 0 < rkL lv ∧ rkL lv ≤ 6 ∧ rkL lv ≠ 3 := by unfold rkL; split <;> omega
      have hne4 : ¬ (rkT (sTy X L q.1) = 4 ∧ cmpd (p ++ st) = true) := by
        intro z
        have e2 : lv = 2 := by have := z.1; rw [hr] at this; unfold rkL at this; split at this <;> omega
        rw [cmpd_skip p st (fun e he => ⟨h5 e2 e he, (hp e he).2⟩)] at z
        have hc0 : cmpd st = false := by
          cases st with
          | nil => rfl
          | cons e s =>
            have htop : e.1 ≤ tRk lv ∨ 7 ≤ e.1 := htop
            rw [e2] at htop
            have htop : e.1 ≤ 3 ∨ 7 ≤ e.1 := htop
            show (if e.1 = 5 ∨ e.1 = 6 then cmpd s else decide (e.1 = 4)) = false
            rw [if_neg (by omega)]
            exact decide_eq_false (by omega)
        rw [hc0] at z
        cases z.2
      have hred : redu (rkL lv) (p ++ st) c (ar + ntE p) = (st, q.2.1, ar) := by
        rw [redu_all p st c (ar + ntE p) hp (by
          intro z
          unfold tRk rkL at *
          split at htop <;> split at z <;> omega) (by omega), ← hc]
        rw [show ar + ntE p - ntE p = ar by omega]
      have step : mS X L kl kn ln (false, p ++ st, (q.1, c, q.2.2), ar + ntE p) = (true, (rkL lv, sTy X L q.1) :: st, (nx q.1, q.2.1, q.2.2), ar) := by
        rw [mS_b (show gd ((q.1, c, q.2.2) : Px).1 = true from hg) (app_ne hs)]
        show (if rkT (sTy X L q.1) = 4 ∧ cmpd (p ++ st) = true then _ else if 0 < rkT (sTy X L q.1) then _ else _) = _
        rw [if_neg hne4, if_pos (by rw [hr]; exact hr0.1)]
        show (true, (rkT (sTy X L q.1), sTy X L q.1) :: (redu (rkT (sTy X L q.1)) (p ++ st) c (ar + ntE p)).1, (nx q.1, (redu (rkT (sTy X L q.1)) (p ++ st) c (ar + ntE p)).2.1, q.2.2), (redu (rkT (sTy X L q.1)) (p ++ st) c (ar + ntE p)).2.2) = _
        rw [hr, hred]
      have hin1 : InT X L (nx q.1) := inT_nx hb hin o4
      have hg1 : gd (nx q.1) = true := by rw [gd_nx]; exact hg
      have i1 := idx_nx hg
      have hi1 : idx (nx q.1) < tkN X L := hin1 hg1
      have okR := ok_pE (kl := kl) (kn := kn) (ln := ln) hb hk6 hl8 n (lv + 1) ar (nx q.1, q.2) (by omega) har hnd hin1
      have sR := hS (nx q.1, q.2) ((rkL lv, sTy X L q.1) :: st) hg1 hin1 hu (by simp) (by
        left
        show rkL lv ≤ tRk (lv + 1)
        unfold rkL tRk
        split <;> split <;> omega) (fun h3 _ => by
        show 3 < rkL lv ∧ rkL lv < 7
        unfold rkL
        split <;> omega)
      have R0 : ∃ r, r = pE X L kl kn ln n (lv + 1) ar (nx q.1, q.2) := ⟨_, rfl⟩
      obtain ⟨r, hrr⟩ := R0
      rw [← hrr] at okR sR
      have sR : Com X L kl kn ln (lv + 1) ((rkL lv, sTy X L q.1) :: st) ar (idx (nx q.1)) r (true, (rkL lv, sTy X L q.1) :: st, (nx q.1, q.2), ar) := sR
      have eop : pOp X L (pE X L kl kn ln n) lv ar q = (r.1, r.2.1 ++ [(sTy X L q.1, 0)], r.2.2) := by rw [hrr]; rfl
      have m1 : mR X L kl kn ln 1 (false, p ++ st, (q.1, c, q.2.2), ar + ntE p) = (true, (rkL lv, sTy X L q.1) :: st, (nx q.1, q.2), ar) := step
      cases hgr : gd r.1 with
      | false =>
        -- a fault on the right side
        obtain ⟨t, t1, t2⟩ := sR.2 hgr
        have hbad : ∀ Q : Px, Q.1 = r.1 → Com X L kl kn ln lv st ar (idx q.1) Q (false, p ++ st, (q.1, c, q.2.2), ar + ntE p) := fun Q hQ => com_bad (1 + t) (by omega) (by rw [hQ]; exact hgr) (by rw [mR_add, m1, t2, hQ])
        by_cases h2 : lv = 2
        · rw [if_pos h2]
          exact hbad _ (by rw [eop])
        · rw [if_neg h2]
          have h00 : lvT (sTy X L r.1) = 9 := by
            cases hq : r.1 with
            | inl e => rfl
            | inr j => rw [hq] at hgr; cases hgr
          have es : pLp X L (pE X L kl kn ln n) lv ar f (pOp X L (pE X L kl kn ln n) lv ar q) = pOp X L (pE X L kl kn ln n) lv ar q := by
            cases f with
            | zero => rfl
            | succ f =>
              rw [eop]
              show (if lvT (sTy X L r.1) = lv then _ else _) = _
              rw [if_neg (by omega)]
          rw [es]
          exact hbad _ (by rw [eop])
      | true =>
        obtain ⟨t, t1, p2, c2, e2, ec2, hp2, hn2⟩ := sR.1 hgr
        obtain ⟨_, k2, k3, k4, _, _⟩ := okR hgr
        have k2 : idx (nx q.1) < idx r.1 := k2
        have hu2 : r.2.2 ≤ 100 := k4 hu
        have hst2 : p2 ++ ((rkL lv, sTy X L q.1) :: st) = (p2 ++ [(rkL lv, sTy X L q.1)]) ++ st := by simp
        have hnt2 : ntE (p2 ++ [(rkL lv, sTy X L q.1)]) = ntE p2 := by
          rw [ntE_app]
          show ntE p2 + ((if rkL lv = 3 then 1 else 0) + 0) = _
          rw [if_neg hr0.2.2]
          omega
        have m2 : mR X L kl kn ln (1 + t) (false, p ++ st, (q.1, c, q.2.2), ar + ntE p) = (false, (p2 ++ [(rkL lv, sTy X L q.1)]) ++ st, (r.1, c2, r.2.2), ar + ntE (p2 ++ [(rkL lv, sTy X L q.1)])) := by
          rw [mR_add, m1, e2, hst2, hnt2]
        have hcd : r.2.1 ++ [(sTy X L q.1, 0)] = c2 ++ cdE (p2 ++ [(rkL lv, sTy X L q.1)]) := by
          rw [ec2]
          unfold cdE
          simp
        have hlo1 : loR lv ≤ loR (lv + 1) ∧ loR lv ≤ rkL lv ∧ rkL lv ≤ loR (lv + 1) := by unfold loR rkL; split <;> split <;> (try split) <;> omega
        have hp3 : ∀ e ∈ p2 ++ [(rkL lv, sTy X L q.1)], (rkL lv ≤ e.1 ∧ e.1 ≤ 6) ∧ loR lv ≤ e.1 := by
          intro e he
          rcases List.mem_append.mp he with h | h
          · have := hp2 e h; exact ⟨⟨by omega, this.2⟩, by omega⟩
          · have : e = (rkL lv, sTy X L q.1) := by simpa using h
            rw [this]
            exact ⟨⟨Nat.le_refl _, hr0.2.1⟩, hlo1.2.1⟩
        by_cases h2 : lv = 2
        · rw [if_pos h2, eop]
          refine com_step (1 + t) m2 (show 1 + t + idx q.1 ≤ idx r.1 by omega) (by omega) (fun _ => Nat.le_refl _) ?_
          refine ⟨fun _ => ⟨0, Nat.zero_le _, p2 ++ [(rkL lv, sTy X L q.1)], c2, rfl, hcd, fun e he => ⟨(hp3 e he).2, (hp3 e he).1.2⟩, ?_⟩, fun h => by rw [hgr] at h; cases h⟩
          subst h2
          have hall : ∀ e ∈ p2, 5 ≤ e.1 ∧ e.1 ≤ 6 := fun e he => hp2 e he
          have hcm : cmpd (p2 ++ [(rkL 2, sTy X L q.1)]) = true := by rw [cmpd_skip p2 _ hall]; rfl
          rcases hn2 with h | h
          · have h : rkT (sTy X L r.1) < 5 := h
            have hv := rk_vals (ty := sTy X L r.1)
            by_cases h4 : rkT (sTy X L r.1) = 4
            · exact Or.inr ⟨h4, hcm⟩
            · left; show rkT (sTy X L r.1) < 3; omega
          · exact Or.inr ⟨h.1, hcm⟩
        · rw [if_neg h2, eop]
          have nx2 := ih (r.1, r.2.1 ++ [(sTy X L q.1, 0)], r.2.2) (p2 ++ [(rkL lv, sTy X L q.1)]) c2 hgr (fun _ => k3) hu2 (by show 1200 ≤ f + idx r.1; omega) hcd (fun e he => (hp3 e he).1) (fun z => absurd z h2) (fun e he => (hp3 e he).2) (by
            rcases hn2 with h | h
            · exact Or.inl h
            · exact Or.inr ⟨h.1, cmpd_app _ _ h.2⟩)
          refine com_step (1 + t) m2 (show 1 + t + idx q.1 ≤ idx r.1 by omega) (by omega) (fun hgg => ?_) nx2
          exact idx_lp hb hk6 hl8 hlv har hnd f (r.1, r.2.1 ++ [(sTy X L q.1, 0)], r.2.2) (fun _ => k3) hgg
    · rw [if_neg hl]
      exact exitC q p c hg hin hc (fun e he => ⟨hlo e he, (hp e he).2⟩) hnx hl
end SIM
