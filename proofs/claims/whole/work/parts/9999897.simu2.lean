/-! the machine reads as the levels do, all of them -/
section SI2
variable {X : Nat → Int32} {L : Nat} {kl : Bool} {kn ln : List (List Int32)}
theorem dm_bad {σ : Sg} {ty : Nat} (h : gd σ = false) : dm X L ty σ = σ := by
  cases σ with
  | inr j => cases h
  | inl e => unfold dm; split <;> rfl
theorem lp_bad {R : Nat → Nat → Px → Px} {lv ar : Nat} {q : Px} (hlv : lv < 5) (h : gd q.1 = false) : ∀ f, pLp X L R lv ar f q = q := by
  intro f
  cases f with
  | zero => rfl
  | succ f =>
    have h9 : lvT (sTy X L q.1) = 9 := by
      cases hq : q.1 with
      | inl e => rfl
      | inr j => rw [hq] at h; cases h
    rw [pLp_s, if_neg (by omega)]
theorem rk_le {ty : Nat} : rkT ty < 7 := by
  rcases rk_vals (ty := ty) with h | h | h | h | h | h <;> omega
theorem rk_4 {ty : Nat} (h : rkT ty = 4) : ty ≠ 41 := by
  intro z
  rw [z] at h
  exact absurd h (by decide)
set_option maxHeartbeats 1000000 in
theorem sim_all (hb : TxB X L) (hk6 : kn.length ≤ 6) (hl8 : ln.length ≤ 8) : ∀ n lv ar, lv ≤ 5 → ar ≤ 7 → nd lv ar ≤ n → Sim X L kl kn ln n lv ar := by
  intro n
  induction n with
  | zero => intro lv ar h1 h2 h3; have := nd_pos h1 h2; omega
  | succ n ih =>
    intro lv ar h1 h2 h3 q st hg hin hu hs htop h113
    have hi := hin hg
    have okq := ok_pE (kl := kl) (kn := kn) (ln := ln) hb hk6 hl8 (n + 1) lv ar q h1 h2 h3 hin
    by_cases hlv : 5 ≤ lv
    · have e5 : lv = 5 := by omega
      subst e5
      have ep : pE X L kl kn ln (n + 1) 5 ar q = pU X L kl kn ln (pE X L kl kn ln n) ar q := rfl
      rw [ep] at okq ⊢
      have hnt : ¬ ((tpE st ≤ 3 ∨ 7 ≤ tpE st) ∧ sTy X L q.1 = 113) := fun z => by
        have := h113 (by omega) z.2
        have := z.1
        omega
      have m1 : mS X L kl kn ln (true, st, q, ar) = mU X L kl kn ln st q ar := mS_u hg hs
      by_cases hc1 : bgU (sTy X L q.1) = false ∨ (sTy X L q.1 = 40 ∧ 7 ≤ ar) ∨ 100 ≤ q.2.2
      · have eq1 : pU X L kl kn ln (pE X L kl kn ln n) ar q = (rf X L 2 q.1, q.2) := if_pos hc1
        have em : mU X L kl kn ln st q ar = (true, st, (rf X L 2 q.1, q.2), ar) := if_pos (by
          rcases hc1 with z | z | z
          · exact Or.inl ⟨hnt, Or.inl z⟩
          · exact Or.inr ⟨Or.inr z.1, z.2⟩
          · exact Or.inl ⟨hnt, Or.inr z⟩)
        rw [eq1]
        exact com_bad 1 (by omega) gd_rf (by show (mS X L kl kn ln (true, st, q, ar)).2.2.1.1 = _; rw [m1, em])
      · have hcm : ¬ ((¬ ((tpE st ≤ 3 ∨ 7 ≤ tpE st) ∧ sTy X L q.1 = 113) ∧ (bgU (sTy X L q.1) = false ∨ 100 ≤ q.2.2)) ∨ ((((tpE st ≤ 3 ∨ 7 ≤ tpE st) ∧ sTy X L q.1 = 113) ∨ sTy X L q.1 = 40) ∧ 7 ≤ ar)) := by
          intro z
          rcases z with z | z
          · rcases z.2 with y | y
            · exact hc1 (Or.inl y)
            · exact hc1 (Or.inr (Or.inr y))
          · rcases z.1 with y | y
            · exact hnt y
            · exact hc1 (Or.inr (Or.inl ⟨y, z.2⟩))
        by_cases hc2 : kl = true ∧ 108 ≤ sTy X L q.1 ∧ sTy X L q.1 ≤ 110
        · have eq1 : pU X L kl kn ln (pE X L kl kn ln n) ar q = (rf X L 6 q.1, q.2) := by unfold pU; rw [if_neg hc1, if_pos hc2]
          have em : mU X L kl kn ln st q ar = (true, st, (rf X L 6 q.1, q.2), ar) := by unfold mU; rw [if_neg hcm, if_pos hc2]
          rw [eq1]
          exact com_bad 1 (by omega) gd_rf (by show (mS X L kl kn ln (true, st, q, ar)).2.2.1.1 = _; rw [m1, em])
        · by_cases h40 : sTy X L q.1 = 40
          · have har : ar < 7 := by
              rcases Nat.lt_or_ge ar 7 with z | z
              · exact z
              · exact absurd (Or.inr (Or.inl ⟨h40, z⟩)) hc1
            have hu1 : q.2.2 < 100 := by
              rcases Nat.lt_or_ge q.2.2 100 with z | z
              · exact z
              · exact absurd (Or.inr (Or.inr z)) hc1
            have em : mU X L kl kn ln st q ar = (true, (7, 0) :: st, (nx q.1, q.2.1, q.2.2 + 1), ar + 1) := by unfold mU; rw [if_neg hcm, if_neg hc2, if_neg hnt, if_pos h40]
            have hin1 : InT X L (nx q.1) := inT_nx hb hin (by omega)
            have hg1 : gd (nx q.1) = true := by rw [gd_nx]; exact hg
            have i1 := idx_nx hg
            have hnd : nd 0 (ar + 1) ≤ n := by unfold nd at *; omega
            have sR := ih 0 (ar + 1) (by omega) (by omega) hnd (nx q.1, q.2.1, q.2.2 + 1) ((7, 0) :: st) hg1 hin1 (by show q.2.2 + 1 ≤ 100; omega) (by simp) (Or.inr (by show 7 ≤ 7; omega)) (fun z => absurd z (by omega))
            have okR := ok_pE (kl := kl) (kn := kn) (ln := ln) hb hk6 hl8 n 0 (ar + 1) (nx q.1, q.2.1, q.2.2 + 1) (by omega) (by omega) hnd hin1
            have eq1 : pU X L kl kn ln (pE X L kl kn ln n) ar q = (dm X L 41 (pE X L kl kn ln n 0 (ar + 1) (nx q.1, q.2.1, q.2.2 + 1)).1, (pE X L kl kn ln n 0 (ar + 1) (nx q.1, q.2.1, q.2.2 + 1)).2) := by unfold pU; rw [if_neg hc1, if_neg hc2, if_pos h40]
            have R0 : ∃ r, r = pE X L kl kn ln n 0 (ar + 1) (nx q.1, q.2.1, q.2.2 + 1) := ⟨_, rfl⟩
            obtain ⟨r, hrr⟩ := R0
            rw [← hrr] at sR okR eq1
            rw [eq1] at okq ⊢
            have sR : Com X L kl kn ln 0 ((7, 0) :: st) (ar + 1) (idx (nx q.1)) r (true, (7, 0) :: st, (nx q.1, q.2.1, q.2.2 + 1), ar + 1) := sR
            have mm1 : mR X L kl kn ln 1 (true, st, q, ar) = (true, (7, 0) :: st, (nx q.1, q.2.1, q.2.2 + 1), ar + 1) := by show mS X L kl kn ln (true, st, q, ar) = _; rw [m1, em]
            have hi1 := hin1 hg1
            cases hgr : gd r.1 with
            | false =>
              obtain ⟨t, t1, t2⟩ := sR.2 hgr
              refine com_bad (1 + t) (by omega) (by show gd (dm X L 41 r.1) = false; rw [dm_bad hgr]; exact hgr) ?_
              show _ = dm X L 41 r.1
              rw [mR_add, mm1, t2, dm_bad hgr]
            | true =>
              obtain ⟨t, t1, p, c, e2, ec, hp, hnx⟩ := sR.1 hgr
              obtain ⟨_, k2, k3, _⟩ := okR hgr
              have k2 : idx (nx q.1) < idx r.1 := k2
              have mm2 : mR X L kl kn ln (1 + t) (true, st, q, ar) = (false, p ++ ((7, 0) :: st), (r.1, c, r.2.2), ar + 1 + ntE p) := by rw [mR_add, mm1, e2]
              have hv := rk_vals (ty := sTy X L r.1)
              have mSb : mS X L kl kn ln (false, p ++ ((7, 0) :: st), (r.1, c, r.2.2), ar + 1 + ntE p) = mB X L (p ++ ((7, 0) :: st)) (r.1, c, r.2.2) (ar + 1 + ntE p) := mS_b (show gd ((r.1, c, r.2.2) : Px).1 = true from hgr) (app_ne (by simp))
              by_cases h4 : rkT (sTy X L r.1) = 4 ∧ cmpd (p ++ ((7, 0) :: st)) = true
              · have em2 : mB X L (p ++ ((7, 0) :: st)) (r.1, c, r.2.2) (ar + 1 + ntE p) = (true, p ++ ((7, 0) :: st), (rf X L 2 r.1, c, r.2.2), ar + 1 + ntE p) := if_pos h4
                have edm : dm X L 41 r.1 = rf X L 2 r.1 := by
                  unfold dm
                  rw [if_neg (show ¬ isT X L 41 r.1 = true from fun z => rk_4 h4.1 (of_decide_eq_true z))]
                refine com_bad (1 + t + 1) (by omega) (by show gd (dm X L 41 r.1) = false; rw [edm]; exact gd_rf) ?_
                show _ = dm X L 41 r.1
                rw [mR_add, mm2]
                show (mS X L kl kn ln (false, p ++ ((7, 0) :: st), (r.1, c, r.2.2), ar + 1 + ntE p)).2.2.1.1 = _
                rw [mSb, em2, edm]
              · have hr0 : rkT (sTy X L r.1) = 0 := by
                  rcases hnx with z | z
                  · have z : rkT (sTy X L r.1) < 1 := z
                    omega
                  · exact absurd ⟨z.1, cmpd_app p _ z.2⟩ h4
                have hred : redu 0 (p ++ ((7, 0) :: st)) c (ar + 1 + ntE p) = ((7, 0) :: st, r.2.1, ar + 1) := by
                  rw [redu_all p ((7, 0) :: st) c (ar + 1 + ntE p) (fun e he => ⟨Nat.zero_le _, (hp e he).2⟩) (fun z => absurd z.1 (by show ¬ 7 ≤ 6; omega)) (by omega), ← ec]
                  rw [show ar + 1 + ntE p - ntE p = ar + 1 by omega]
                have em2 : mB X L (p ++ ((7, 0) :: st)) (r.1, c, r.2.2) (ar + 1 + ntE p) = (false, st, (dm X L 41 r.1, r.2.1, r.2.2), ar) := by
                  show (if rkT (sTy X L r.1) = 4 ∧ cmpd (p ++ ((7, 0) :: st)) = true then _ else if 0 < rkT (sTy X L r.1) then _ else _) = _
                  rw [if_neg h4, if_neg (by omega)]
                  show (match (redu 0 (p ++ ((7, 0) :: st)) c (ar + 1 + ntE p)).1 with
                    | [] => _
                    | e :: s => if e.1 = 7 then (false, s, (dm X L 41 r.1, (redu 0 (p ++ ((7, 0) :: st)) c (ar + 1 + ntE p)).2.1, r.2.2), (redu 0 (p ++ ((7, 0) :: st)) c (ar + 1 + ntE p)).2.2 - 1) else _) = _
                  rw [hred]
                  rfl
                refine com_step (1 + t) mm2 (show 1 + t + idx q.1 ≤ idx r.1 by omega) (by omega) (fun hgg => by
                  have : idx (dm X L 41 r.1) = idx r.1 + 1 := idx_dm hgg
                  show idx r.1 ≤ idx (dm X L 41 r.1)
                  omega) ?_
                refine com_one k3 (fun hgg => by
                  have : idx (dm X L 41 r.1) = idx r.1 + 1 := idx_dm hgg
                  show idx r.1 < idx (dm X L 41 r.1)
                  omega) (by rw [mSb, em2]) ?_
                show rkT _ < 7
                exact rk_le
          · have eq1 : pU X L kl kn ln (pE X L kl kn ln n) ar q = pLf X L kn ln q := by unfold pU; rw [if_neg hc1, if_neg hc2, if_neg h40]
            have em : mU X L kl kn ln st q ar = (false, st, pLf X L kn ln q, ar) := by unfold mU; rw [if_neg hcm, if_neg hc2, if_neg hnt, if_neg h40]
            rw [eq1] at okq ⊢
            refine com_one hi (fun hgg => (okq hgg).2.1) (by rw [m1, em]) ?_
            show rkT _ < 7
            exact rk_le
    · by_cases hnt : lv = 2 ∧ sTy X L q.1 = 113
      · obtain ⟨e2, hty⟩ := hnt
        subst e2
        have ep : pE X L kl kn ln (n + 1) 2 ar q = pNt X L (pE X L kl kn ln n) ar q := by
          show (if 5 ≤ 2 then _ else if 2 = 2 ∧ sTy X L q.1 = 113 then _ else _) = _
          rw [if_neg (by omega), if_pos ⟨rfl, hty⟩]
        rw [ep] at okq ⊢
        have hbeg : (tpE st ≤ 3 ∨ 7 ≤ tpE st) ∧ sTy X L q.1 = 113 := ⟨htop, hty⟩
        have m1 : mS X L kl kn ln (true, st, q, ar) = mU X L kl kn ln st q ar := mS_u hg hs
        by_cases h7 : 7 ≤ ar
        · have eq1 : pNt X L (pE X L kl kn ln n) ar q = (rf X L 2 q.1, q.2) := if_pos h7
          have em : mU X L kl kn ln st q ar = (true, st, (rf X L 2 q.1, q.2), ar) := if_pos (Or.inr ⟨Or.inl hbeg, h7⟩)
          rw [eq1]
          exact com_bad 1 (by omega) gd_rf (by show (mS X L kl kn ln (true, st, q, ar)).2.2.1.1 = _; rw [m1, em])
        · have hcm : ¬ ((¬ ((tpE st ≤ 3 ∨ 7 ≤ tpE st) ∧ sTy X L q.1 = 113) ∧ (bgU (sTy X L q.1) = false ∨ 100 ≤ q.2.2)) ∨ ((((tpE st ≤ 3 ∨ 7 ≤ tpE st) ∧ sTy X L q.1 = 113) ∨ sTy X L q.1 = 40) ∧ 7 ≤ ar)) := by
            intro z
            rcases z with z | z
            · exact z.1 hbeg
            · exact h7 z.2
          have em : mU X L kl kn ln st q ar = (true, (3, 113) :: st, (nx q.1, q.2), ar + 1) := by unfold mU; rw [if_neg hcm, if_neg (fun z => by omega), if_pos hbeg]
          have hin1 : InT X L (nx q.1) := inT_nx hb hin (by omega)
          have hg1 : gd (nx q.1) = true := by rw [gd_nx]; exact hg
          have i1 := idx_nx hg
          have hi1 := hin1 hg1
          have hnd : nd 2 (ar + 1) ≤ n := by unfold nd at *; omega
          have sR := ih 2 (ar + 1) (by omega) (by omega) hnd (nx q.1, q.2) ((3, 113) :: st) hg1 hin1 hu (by simp) (Or.inl (by show 3 ≤ 3; omega)) (fun z => absurd z (by omega))
          have okR := ok_pE (kl := kl) (kn := kn) (ln := ln) hb hk6 hl8 n 2 (ar + 1) (nx q.1, q.2) (by omega) (by omega) hnd hin1
          have eq1 : pNt X L (pE X L kl kn ln n) ar q = ((pE X L kl kn ln n 2 (ar + 1) (nx q.1, q.2)).1, (pE X L kl kn ln n 2 (ar + 1) (nx q.1, q.2)).2.1 ++ [(113, 0)], (pE X L kl kn ln n 2 (ar + 1) (nx q.1, q.2)).2.2) := if_neg h7
          have R0 : ∃ r, r = pE X L kl kn ln n 2 (ar + 1) (nx q.1, q.2) := ⟨_, rfl⟩
          obtain ⟨r, hrr⟩ := R0
          rw [← hrr] at sR okR eq1
          rw [eq1] at okq ⊢
          have sR : Com X L kl kn ln 2 ((3, 113) :: st) (ar + 1) (idx (nx q.1)) r (true, (3, 113) :: st, (nx q.1, q.2), ar + 1) := sR
          have mm1 : mR X L kl kn ln 1 (true, st, q, ar) = (true, (3, 113) :: st, (nx q.1, q.2), ar + 1) := by show mS X L kl kn ln (true, st, q, ar) = _; rw [m1, em]
          refine ⟨fun hgr => ?_, fun hgr => ?_⟩
          · have hgr : gd r.1 = true := hgr
            obtain ⟨t, t1, p, c, e2, ec, hp, hnx⟩ := sR.1 hgr
            have k2 : idx (nx q.1) < idx r.1 := (okR hgr).2.1
            refine ⟨1 + t, by show 1 + t ≤ idx r.1 - idx q.1; omega, p ++ [(3, 113)], c, ?_, ?_, fun e he => ?_, ?_⟩
            · rw [mR_add, mm1, e2]
              have e3 : p ++ ((3, 113) :: st) = (p ++ [(3, 113)]) ++ st := by simp
              have e4 : ar + 1 + ntE p = ar + ntE (p ++ [(3, 113)]) := by
                rw [ntE_app]
                show ar + 1 + ntE p = ar + (ntE p + ((if (3 : Nat) = 3 then 1 else 0) + 0))
                rw [if_pos rfl]
                omega
              rw [e3, e4]
            · show r.2.1 ++ [(113, 0)] = c ++ cdE (p ++ [(3, 113)])
              rw [ec]
              unfold cdE
              simp
            · rcases List.mem_append.mp he with h | h
              · exact hp e h
              · have : e = (3, 113) := by simpa using h
                rw [this]
                exact ⟨by show 3 ≤ 3; omega, by show 3 ≤ 6; omega⟩
            · rcases hnx with z | z
              · exact Or.inl z
              · exact Or.inr ⟨z.1, cmpd_app p _ z.2⟩
          · have hgr : gd r.1 = false := hgr
            obtain ⟨t, t1, t2⟩ := sR.2 hgr
            exact ⟨1 + t, by omega, by rw [mR_add, mm1, t2]⟩
      · have ep : pE X L kl kn ln (n + 1) lv ar q = pLp X L (pE X L kl kn ln n) lv ar 1200 (pE X L kl kn ln n (lv + 1) ar q) := by
          show (if 5 ≤ lv then _ else if lv = 2 ∧ sTy X L q.1 = 113 then _ else _) = _
          rw [if_neg hlv, if_neg hnt]
        rw [ep]
        have hnd : nd (lv + 1) ar ≤ n := by unfold nd at *; omega
        have sR := ih (lv + 1) ar (by omega) h2 hnd q st hg hin hu hs (by
          rcases htop with z | z
          · left
            unfold tRk at *
            split at z <;> split <;> omega
          · exact Or.inr z) (fun z zt => by
          rcases Nat.lt_or_ge lv 3 with y | y
          · exact absurd ⟨by omega, zt⟩ hnt
          · exact h113 y zt)
        have okR := ok_pE (kl := kl) (kn := kn) (ln := ln) hb hk6 hl8 n (lv + 1) ar q (by omega) h2 hnd hin
        have R0 : ∃ r, r = pE X L kl kn ln n (lv + 1) ar q := ⟨_, rfl⟩
        obtain ⟨r, hrr⟩ := R0
        rw [← hrr] at sR okR ⊢
        cases hgr : gd r.1 with
        | false =>
          rw [lp_bad (by omega) hgr]
          obtain ⟨t, t1, t2⟩ := sR.2 hgr
          exact com_bad t (by omega) hgr t2
        | true =>
          obtain ⟨t, t1, p, c, e2, ec, hp, hnx⟩ := sR.1 hgr
          obtain ⟨_, k2, k3, k4, _⟩ := okR hgr
          have hlo1 : loR lv ≤ loR (lv + 1) ∧ rkL lv ≤ loR (lv + 1) := by unfold loR rkL; split <;> split <;> (try split) <;> omega
          have lp := simL (st := st) hb hk6 hl8 (by omega) h2 hnd (ih (lv + 1) ar (by omega) h2 hnd) hs htop 1200 r p c hgr (fun _ => k3) (k4 hu) (by omega) ec (fun e he => ⟨by have := (hp e he).1; omega, (hp e he).2⟩) (fun z e he => by
            have h5 := (hp e he).1
            rw [z] at h5
            exact h5) (fun e he => by have := (hp e he).1; omega) hnx
          exact com_step t e2 (by omega) (by omega) (fun hgg => idx_lp hb hk6 hl8 (by omega) h2 hnd 1200 r (fun _ => k3) hgg) lp
end SI2
