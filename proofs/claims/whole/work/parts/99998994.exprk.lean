/-! expressions: the reference -/
theorem f188_L19_eq {N n : Nat} {K : Int32 → mM Unit} {x : Int32} : f188_L19 N K (n + 1) x = (mb (f155 N) fun v4 => if v4 = 0 then K x else (mb (gI 131 40) fun v6 => if v6 ≤ 0 then K x else (if x = 0 then (mb (f194 N) fun v8 => f188_L19 N K n v8) else (mb (f190 N) fun v10 => f188_L19 N K n v10)))) := rfl
section EXK
variable {N : Nat} {X : Nat → Int32} {L : Nat} {line c0 b : Nat} {kl : Bool} {kn ln : List (List Int32)}
theorem stopK {K : Int32 → mM Unit} {n : Nat} {m : Mx} {x : Int32} {S : ms_S} (hn : 0 < n) (hst : gd m.2.2.1.1 = false ∨ m.2.1 = []) (hm : MS S X L m.2.2.1.1) (hg : gd m.2.2.1.1 = true → PK S m.2.1) : f188_L19 N K n x S = K x S := by
  obtain ⟨n, rfl⟩ : ∃ q, n = q + 1 := ⟨n - 1, by omega⟩
  rw [f188_L19_eq, E155 hm]
  cases h : gd m.2.2.1.1 with
  | false => rw [if_neg (show ¬ (false = true) by decide), if_pos rfl]
  | true =>
    have hs : m.2.1 = [] := by
      rcases hst with z | z
      · rw [h] at z; cases z
      · exact z
    have p := (hg h).1
    rw [hs] at p
    have p : ms_I S 131 40 = 0 := p
    rw [if_pos (show true = true from rfl), if_neg (by decide)]
    simp only [mE, p]
    rw [if_pos (by decide)]
theorem loopK {K : Int32 → mM Unit} (hN : 1300 ≤ N) (hb : TxB X L) (hb2 : b < 2) (hk : kn.length ≤ 6) (hln : ln.length ≤ 8) (hl : line ≤ 14) (hkl : kl = decide (line < 6)) : ∀ t n (m : Mx) (x : Int32) (S : ms_S), t < n → (gd (mR X L kl kn ln t m).2.2.1.1 = false ∨ (mR X L kl kn ln t m).2.1 = []) → NK S b kn ln → ms_I S 131 41 = Int32.ofNat line → MS S X L m.2.2.1.1 → (gd m.2.2.1.1 = true → IvM X L c0 m ∧ x = (if m.1 = true then 1 else 0) ∧ PK S m.2.1 ∧ CK S line c0 m.2.2.1.2.1 m.2.2.1.2.2 m.2.2.2) → ∃ x1 S1, f188_L19 N K n x S = K x1 S1 ∧ MS S1 X L (mR X L kl kn ln t m).2.2.1.1 ∧ (gd (mR X L kl kn ln t m).2.2.1.1 = true → CK S1 line c0 (mR X L kl kn ln t m).2.2.1.2.1 (mR X L kl kn ln t m).2.2.1.2.2 (mR X L kl kn ln t m).2.2.2) ∧ offK c0 S S1 := by
  intro t
  induction t with
  | zero =>
    intro n m x S hn hst hnk h41 hm hg
    exact ⟨x, S, stopK hn hst hm (fun z => (hg z).2.2.1), hm, fun z => (hg z).2.2.2, offK.rf⟩
  | succ t ih =>
    intro n m x S hn hst hnk h41 hm hg
    by_cases hsp : gd m.2.2.1.1 = false ∨ m.2.1 = []
    · have e : mR X L kl kn ln (t + 1) m = m := mR_stop hsp (t + 1)
      rw [e]
      exact ⟨x, S, stopK (by omega) hsp hm (fun z => (hg z).2.2.1), hm, fun z => (hg z).2.2.2, offK.rf⟩
    · have hgd : gd m.2.2.1.1 = true := by
        cases h : gd m.2.2.1.1 with
        | true => rfl
        | false => exact absurd (Or.inl h) hsp
      have hs : m.2.1 ≠ [] := fun z => hsp (Or.inr z)
      obtain ⟨hi, hx, hp, hc⟩ := hg hgd
      obtain ⟨j, hj⟩ := gdI hgd
      obtain ⟨w, st, ⟨σ, c, u⟩, d⟩ := m
      have hj : σ = .inr j := hj
      subst hj
      have hs : st ≠ [] := hs
      have hp : PK S st := hp
      have hc : CK S line c0 c u d := hc
      have hm : MS S X L (.inr j) := hm
      have hx : x = if w = true then 1 else 0 := hx
      obtain ⟨n, rfl⟩ : ∃ q, n = q + 1 := ⟨n - 1, by omega⟩
      have hl40 : ms_I S 131 40 = Int32.ofNat st.length := hp.1
      have d1 : d = dpE st := hi.2.1
      have d2 : d ≤ 7 := hi.2.2.1
      have hlen : st.length ≤ 56 := wfs_60 (st := st) hi.1 (by omega)
      have hl0 : st.length ≠ 0 := fun z => hs (List.length_eq_zero_iff.1 z)
      have hpos : ¬ Int32.ofNat st.length ≤ 0 := fun z => by have := (ofN_le (i := st.length) (j := 0) (by omega) (by omega)).1 z; omega
      have head : f188_L19 N K (n + 1) x S = (if x = 0 then (mb (f194 N) fun v8 => f188_L19 N K n v8) else (mb (f190 N) fun v10 => f188_L19 N K n v10)) S := by
        rw [f188_L19_eq, E155 hm, show gd (.inr j) = true from rfl, if_pos (show true = true from rfl), if_neg (by decide)]
        simp only [mE, hl40]
        rw [if_neg hpos]
      cases w with
      | true =>
        have hx1 : x = 1 := by rw [hx]; rfl
        have h0 : ¬ x = 0 := by rw [hx1]; decide
        rw [if_neg h0] at head
        obtain ⟨v, S1, e1, m1, g1, o1⟩ := unitK (N := N) (c0 := c0) (line := line) (kl := kl) hN hb hb2 hnk hk hln h41 hl hkl hm hi hs hp hc
        have em : mS X L kl kn ln (true, st, (.inr j, c, u), d) = mU X L kl kn ln st (.inr j, c, u) d := mS_u rfl hs
        rw [← em] at m1 g1
        obtain ⟨x2, S2, e2, r1, r2, r3⟩ := ih n (mS X L kl kn ln (true, st, (.inr j, c, u), d)) v S1 (by omega) hst (NK_k hnk o1) (by rw [o1.1 41 (by omega) (by omega)]; exact h41) m1 (fun hgn => ⟨iv_S hb hi hgn, g1 hgn⟩)
        have m190 : ∀ {β : Type} {f' : Int32 → mM β}, mb (f190 N) f' S = f' v S1 := by intro β f'; simp only [mb, e1]
        exact ⟨x2, S2, by rw [head, m190]; exact e2, r1, r2, o1.tr r3⟩
      | false =>
        have hx0 : x = 0 := by rw [hx]; rfl
        rw [if_pos hx0] at head
        obtain ⟨v, S1, e1, m1, g1, o1⟩ := behK (N := N) (c0 := c0) (line := line) hN hb hm hi hs hp hc
        have em : mS X L kl kn ln (false, st, (.inr j, c, u), d) = mB X L st (.inr j, c, u) d := mS_b rfl hs
        rw [← em] at m1 g1
        obtain ⟨x2, S2, e2, r1, r2, r3⟩ := ih n (mS X L kl kn ln (false, st, (.inr j, c, u), d)) v S1 (by omega) hst (NK_k hnk o1) (by rw [o1.1 41 (by omega) (by omega)]; exact h41) m1 (fun hgn => ⟨iv_S hb hi hgn, g1 hgn⟩)
        have m194 : ∀ {β : Type} {f' : Int32 → mM β}, mb (f194 N) f' S = f' v S1 := by intro β f'; simp only [mb, e1]
        exact ⟨x2, S2, by rw [head, m194]; exact e2, r1, r2, o1.tr r3⟩
theorem rk_59 {ty : Nat} (h : rkT ty = 4) : ty ≠ 59 := by
  intro z
  rw [z] at h
  exact absurd h (by decide)
/-- the reference reads an expression -/
theorem q188 {S : ms_S} {σ : Sg} {u : Nat} (hN : 1300 ≤ N) (hb : TxB X L) (hb2 : b < 2) (hnk : NK S b kn ln) (hk : kn.length ≤ 6) (hln : ln.length ≤ 8) (h41 : ms_I S 131 41 = Int32.ofNat line) (hl : line ≤ 14) (hkl : kl = decide (line < 6)) (hm : MS S X L σ) (hg : gd σ = true) (hu : u ≤ 100) (hci : c0 ≤ idx σ) (h37 : ms_I S 131 37 = Int32.ofNat c0) (h38 : ms_I S 131 38 = Int32.ofNat u) : ∃ σ1 S1, f188 N S = some ((), S1) ∧ MS S1 X L σ1 ∧ dm X L 59 σ1 = dm X L 59 (pE X L kl kn ln 100 0 0 (σ, [], u)).1 ∧ (gd σ1 = true → σ1 = (pE X L kl kn ln 100 0 0 (σ, [], u)).1 ∧ CK S1 line c0 (pE X L kl kn ln 100 0 0 (σ, [], u)).2.1 (pE X L kl kn ln 100 0 0 (σ, [], u)).2.2 0) ∧ offK c0 S S1 := by
  obtain ⟨j, rfl⟩ := gdI hg
  have hjl : j < tkN X L := hm.2.1
  have hn := tkN_le hb
  have hci : c0 ≤ j := hci
  have Y0 : ∃ Y, Y = ms_setI (ms_setI S 131 40 0) 131 39 0 := ⟨_, rfl⟩
  obtain ⟨Y, hY⟩ := Y0
  have oY : offK c0 S Y := by rw [hY]; exact (offK.wI (by omega)).tr (offK.wI (by omega))
  have yI : ∀ k, k ≠ 39 → k ≠ 40 → ms_I Y 131 k = ms_I S 131 k := fun k h1 h2 => by rw [hY]; simp only [mG, true_and, if_neg h1, if_neg h2]
  have pY : PK Y [] := ⟨by rw [hY]; show _ = (0 : Int32); simp [mG], trivial⟩
  have cY : CK Y line c0 [] u 0 := ⟨by rw [yI 37 (by decide) (by decide), h37]; rfl, by rw [yI 38 (by decide) (by decide)]; exact h38, by rw [hY]; show _ = (0 : Int32); simp [mG], fun i hi => absurd hi (Nat.not_lt_zero i)⟩
  have mY : MS Y X L (.inr j) := by rw [hY]; exact MS_I (MS_I hm (by omega)) (by omega)
  obtain ⟨S1, e1, p1, m1, k1, o1⟩ := q187 (N := N) (X := X) (L := L) (line := line) (c0 := c0) (e := (8, 0)) (v := 0) pY (by show 0 < 80; omega) (fun z => absurd z (by decide))
  have e1 : f187 N 8 0 Y = some ((), S1) := e1
  have sim := sim_all (kl := kl) (kn := kn) (ln := ln) hb hk hln 100 0 0 (by omega) (by omega) (by decide) (.inr j, [], u) [(8, 0)] rfl (fun _ => hjl) hu (by simp) (Or.inr (by show 7 ≤ 8; omega)) (fun z => absurd z (by omega))
  have okR := ok_pE (kl := kl) (kn := kn) (ln := ln) hb hk hln 100 0 0 (.inr j, [], u) (by omega) (by omega) (by decide) (fun _ => hjl)
  have iv0 : IvM X L c0 (true, [(8, 0)], (.inr j, [], u), 0) := ⟨⟨fun _ => rfl, fun z => absurd rfl z, trivial⟩, rfl, by show 0 ≤ 7; omega, hu, fun _ => ⟨hjl, by show c0 + 0 + 1 ≤ j + 1; omega⟩⟩
  have R0 : ∃ r, r = pE X L kl kn ln 100 0 0 (.inr j, [], u) := ⟨_, rfl⟩
  obtain ⟨r, hr⟩ := R0
  rw [← hr] at sim okR ⊢
  have go : ∀ t, t < N → (gd (mR X L kl kn ln t (true, [(8, 0)], (.inr j, [], u), 0)).2.2.1.1 = false ∨ (mR X L kl kn ln t (true, [(8, 0)], (.inr j, [], u), 0)).2.1 = []) → ∃ S2, f188 N S = some ((), S2) ∧ MS S2 X L (mR X L kl kn ln t (true, [(8, 0)], (.inr j, [], u), 0)).2.2.1.1 ∧ (gd (mR X L kl kn ln t (true, [(8, 0)], (.inr j, [], u), 0)).2.2.1.1 = true → CK S2 line c0 (mR X L kl kn ln t (true, [(8, 0)], (.inr j, [], u), 0)).2.2.1.2.1 (mR X L kl kn ln t (true, [(8, 0)], (.inr j, [], u), 0)).2.2.1.2.2 (mR X L kl kn ln t (true, [(8, 0)], (.inr j, [], u), 0)).2.2.2) ∧ offK c0 S S2 := by
    intro t ht hst
    obtain ⟨x2, S2, e2, a1, a2, a3⟩ := loopK (N := N) (K := fun (x1 : Int32) => (mret ())) (c0 := c0) hN hb hb2 hk hln hl hkl t N (true, [(8, 0)], (.inr j, [], u), 0) 1 S1 ht hst (NK_k (NK_k hnk oY) o1) (by rw [o1.1 41 (by omega) (by omega), yI 41 (by decide) (by decide)]; exact h41) (m1 mY) (fun _ => ⟨iv0, rfl, p1, k1 cY⟩)
    refine ⟨S2, ?_, a1, a2, (oY.tr o1).tr a3⟩
    have m187 : ∀ {β : Type} {f' : Unit → mM β}, mb (f187 N 8 0) f' Y = f' () S1 := by intro β f'; simp only [mb, e1]
    unfold f188
    simp only [mE, ← hY]
    rw [m187]
    exact e2
  cases hgr : gd r.1 with
  | false =>
    obtain ⟨t, t1, t2⟩ := sim.2 hgr
    obtain ⟨S2, e2, a1, a2, a3⟩ := go t (by omega) (Or.inl (by rw [t2]; exact hgr))
    exact ⟨r.1, S2, e2, by rw [← t2]; exact a1, rfl, (fun z => by rw [hgr] at z; cases z), a3⟩
  | true =>
    obtain ⟨t, t1, p, c, e2, ec, hp, hnx⟩ := sim.1 hgr
    have k3 := (okR hgr).2.2.1
    have mm : mR X L kl kn ln (t + 1) (true, [(8, 0)], (.inr j, [], u), 0) = mB X L (p ++ [(8, 0)]) (r.1, c, r.2.2) (0 + ntE p) := by
      rw [mR_add, e2]
      exact mS_b (q := (r.1, c, r.2.2)) hgr (app_ne (by simp))
    by_cases h4 : rkT (sTy X L r.1) = 4 ∧ cmpd (p ++ [(8, 0)]) = true
    · have em2 : mB X L (p ++ [(8, 0)]) (r.1, c, r.2.2) (0 + ntE p) = (true, p ++ [(8, 0)], (rf X L 2 r.1, c, r.2.2), 0 + ntE p) := if_pos h4
      obtain ⟨S2, e3, a1, a2, a3⟩ := go (t + 1) (by omega) (Or.inl (by rw [mm, em2]; exact gd_rf))
      rw [mm, em2] at a1
      have a1 : MS S2 X L (rf X L 2 r.1) := a1
      have edm : dm X L 59 r.1 = rf X L 2 r.1 := by
        unfold dm
        rw [if_neg (show ¬ isT X L 59 r.1 = true from fun z => rk_59 h4.1 (of_decide_eq_true z))]
      refine ⟨rf X L 2 r.1, S2, e3, a1, ?_, (fun z => by rw [show gd (rf X L 2 r.1) = false from gd_rf] at z; cases z), a3⟩
      rw [edm, dm_bad gd_rf]
    · have hr0 : rkT (sTy X L r.1) = 0 := by
        rcases hnx with z | z
        · have z : rkT (sTy X L r.1) < 1 := z
          omega
        · exact absurd ⟨z.1, cmpd_app p _ z.2⟩ h4
      have hred : redu 0 (p ++ [(8, 0)]) c (0 + ntE p) = ([(8, 0)], r.2.1, 0) := by
        rw [redu_all p [(8, 0)] c (0 + ntE p) (fun e he => ⟨Nat.zero_le _, (hp e he).2⟩) (fun z => absurd z.1 (by show ¬ 8 ≤ 6; omega)) (by omega), ← ec]
        rw [show 0 + ntE p - ntE p = 0 by omega]
      have em2 : mB X L (p ++ [(8, 0)]) (r.1, c, r.2.2) (0 + ntE p) = (false, [], (r.1, r.2.1, r.2.2), 0) := by
        show (if rkT (sTy X L r.1) = 4 ∧ cmpd (p ++ [(8, 0)]) = true then _ else if 0 < rkT (sTy X L r.1) then _ else _) = _
        rw [if_neg h4, if_neg (by omega)]
        show (match (redu 0 (p ++ [(8, 0)]) c (0 + ntE p)).1 with
          | [] => _
          | e :: s => if e.1 = 7 then _ else (false, s, (r.1, (redu 0 (p ++ [(8, 0)]) c (0 + ntE p)).2.1, r.2.2), (redu 0 (p ++ [(8, 0)]) c (0 + ntE p)).2.2)) = _
        rw [hred]
        rfl
      obtain ⟨S2, e3, a1, a2, a3⟩ := go (t + 1) (by omega) (Or.inr (by rw [mm, em2]))
      rw [mm, em2] at a1 a2
      exact ⟨r.1, S2, e3, a1, rfl, fun z => ⟨rfl, a2 z⟩, a3⟩
end EXK
