/-! expressions: the class, whole -/
section EX3
variable {N : Nat} {X : Nat → Int32} {L : Nat} {a st c0 : Nat} {as0 : Int32} {kl : Bool} {kn ln : List (List Int32)}
theorem q12 {S : ms_S} {ty : Nat} (h : ty < 1000) : f12 N (Int32.ofNat ty) S = some (if lvT ty < 9 then Int32.ofNat (lvT ty) else -1, S) := by
  have ne : ∀ k, k < 1000 → (Int32.ofNat ty = Int32.ofNat k ↔ ty = k) := fun k hk => ofN_eq (by omega) (by omega)
  have n42 : (Int32.ofNat ty = 42) ↔ ty = 42 := ne 42 (by omega)
  have n43 : (Int32.ofNat ty = 43) ↔ ty = 43 := ne 43 (by omega)
  have n45 : (Int32.ofNat ty = 45) ↔ ty = 45 := ne 45 (by omega)
  have n60 : (Int32.ofNat ty = 60) ↔ ty = 60 := ne 60 (by omega)
  have n61 : (Int32.ofNat ty = 61) ↔ ty = 61 := ne 61 (by omega)
  have n62 : (Int32.ofNat ty = 62) ↔ ty = 62 := ne 62 (by omega)
  have n114 : (Int32.ofNat ty = 114) ↔ ty = 114 := ne 114 (by omega)
  have n115 : (Int32.ofNat ty = 115) ↔ ty = 115 := ne 115 (by omega)
  unfold f12 lvT
  simp only [mE, n42, n43, n45, n60, n61, n62, n114, n115]
  by_cases h1 : ty = 42
  · subst h1; rfl
  · by_cases h2 : ty = 43
    · subst h2; rfl
    · by_cases h3 : ty = 45
      · subst h3; rfl
      · by_cases h4 : ty = 60
        · subst h4; rfl
        · by_cases h5 : ty = 61
          · subst h5; rfl
          · by_cases h6 : ty = 62
            · subst h6; rfl
            · by_cases h7 : ty = 114
              · subst h7; rfl
              · by_cases h8 : ty = 115
                · subst h8; rfl
                · simp only [h1, h2, h3, h4, h5, h6, h7, h8, if_false, or_self]
                  rfl
theorem q15 {S : ms_S} {ty : Nat} (h : ty < 1000) : f15 N (Int32.ofNat ty) S = some (if bgU ty = true then 1 else 0, S) := by
  have n3 : (Int32.ofNat ty = 3) ↔ ty = 3 := ofN_eq (j := 3) (by omega) (by omega)
  have n40 : (Int32.ofNat ty = 40) ↔ ty = 40 := ofN_eq (j := 40) (by omega) (by omega)
  have l100 : (Int32.ofNat ty < 100) ↔ ty < 100 := ofN_lt (j := 100) (by omega) (by omega)
  have g112 : (Int32.ofNat ty > 112) ↔ 112 < ty := ofN_lt (i := 112) (by omega) (by omega)
  unfold f15 bgU
  simp only [mE, true_or, or_true, decide_eq_true_eq, n3, n40, l100, g112]
  by_cases h1 : ty = 3
  · rw [if_pos h1, if_pos (Or.inl h1)]
  · rw [if_neg h1]
    by_cases h2 : ty = 40
    · rw [if_pos h2, if_pos (Or.inr (Or.inl h2))]
    · rw [if_neg h2]
      by_cases h3 : ty < 100
      · rw [if_pos h3, if_neg (by omega)]
      · rw [if_neg h3]
        by_cases h4 : 112 < ty
        · rw [if_pos h4, if_neg (by omega)]
        · rw [if_neg h4, if_pos (by omega)]
/-- what is known of a state of reading, of the class -/
def KC (S : ms_S) (X : Nat → Int32) (L a c0 : Nat) (as0 : Int32) (kl : Bool) (q : Px) : Prop := gd q.1 = true → CE S a c0 as0 kl q ∧ Pot X L 0 c0 q ∧ q.2.2 ≤ 100
def ResC (f : mM Unit) (S : ms_S) (X : Nat → Int32) (L a st c0 : Nat) (as0 : Int32) (kl : Bool) (kn ln : List (List Int32)) (q' : Px) : Prop := ∃ S1, f S = some ((), S1) ∧ CS S1 X L q'.1 ∧ RC S1 a st kl kn ln ∧ (gd q'.1 = true → CE S1 a c0 as0 kl q') ∧ offE a S S1
theorem CE_off {S S1 : ms_S} {q : Px} {σ : Sg} (oa : o_cv a) (h : CE S a c0 as0 kl q) (o : offX S S1) : CE S1 a c0 as0 kl (σ, q.2) := by
  have ha : a ≠ 6 ∧ a + 1 ≠ 6 := by rcases oa with rfl | rfl | rfl | rfl | rfl <;> decide
  obtain ⟨k1, k2, k3, k4⟩ := h
  exact ⟨by rw [(o.2 a ha.1).1]; exact k1, fun i hi => by rw [(o.2 (a + 1) ha.2).2.2.2.1]; exact k2 i hi, by rw [(o.2 38 (by decide)).1]; exact k3, by rw [(o.2 a ha.1).1]; exact k4⟩
theorem RC_x {S S1 : ms_S} (oa : o_cv a) (ost : o_st st) (h : RC S a st kl kn ln) (o : offX S S1) : RC S1 a st kl kn ln := by
  have ha : a ≠ 6 ∧ a + 1 ≠ 6 := by rcases oa with rfl | rfl | rfl | rfl | rfl <;> decide
  exact RC_off oa ost h (o.e ha.1 ha.2) (by rw [(o.2 38 (by decide)).1]; exact h.2.2.2.2.2.2.2.2.2)
theorem emitC {S : ms_S} {q : Px} {ty : Nat} (oa : o_cv a) (ost : o_st st) (hty : ty < 100 ∨ 111 ≤ ty) (hr : RC S a st kl kn ln) (h : CS S X L q.1) (hc : gd q.1 = true → CE S a c0 as0 kl q ∧ c0 + q.2.1.length < 512) : ∃ S1, f2 N a (Int32.ofNat ty) 0 S = some ((), S1) ∧ CS S1 X L q.1 ∧ RC S1 a st kl kn ln ∧ (gd q.1 = true → CE S1 a c0 as0 kl (q.1, q.2.1 ++ [(ty, 0)], q.2.2)) ∧ offE a S S1 := by
  obtain ⟨S1, e1, c1, o1, k38, k6, k1⟩ := q2 (N := N) (X := X) (L := L) (ty := ty) (v := 0) oa h hr.2.2.2.1
  refine ⟨S1, e1, c1, RC_off oa ost hr o1 (by rw [k38]; exact hr.2.2.2.2.2.2.2.2.2), fun hg => ?_, o1⟩
  obtain ⟨hE, hlen⟩ := hc hg
  obtain ⟨kI, kA⟩ := k1 (c0 + q.2.1.length) hlen hE.1
  refine CE_app hE o1 hlen kI kA (by rw [k38]; exact hE.2.2.1) ?_
  have eA : askOf (q.2.1 ++ [(ty, 0)]) = askOf q.2.1 := by
    rw [askOf_app]
    exact if_neg (by show ¬ (100 ≤ ty ∧ ty < 111); omega)
  rw [eA, k6]
  exact hE.2.2.2
theorem pot_nx {q : Px} (h : Pot X L 0 c0 q) : Pot X L 0 c0 (nx q.1, q.2) := by
  unfold Pot at *
  show c0 + q.2.1.length + 0 ≤ 2 * q.2.2 + ntk X L (idx (nx q.1))
  have : idx q.1 ≤ idx (nx q.1) := by cases h : q.1 with | inl e => exact Nat.le_refl _ | inr j => exact Nat.le_succ j
  have := ntk_le (X := X) (L := L) this
  omega
theorem room {q q' : Px} {lv ar : Nat} (hb : TxB X L) (ho : Ok X L kl kn lv ar q q') (hp : gd q.1 = true → Pot X L 0 c0 q ∧ q.2.2 ≤ 100) (hg : gd q'.1 = true) : c0 + q'.2.1.length < 512 ∧ Pot X L 0 c0 q' ∧ q'.2.2 ≤ 100 := by
  obtain ⟨k1, k2, k3, k4, _, k6⟩ := ho hg
  obtain ⟨p1, p2⟩ := hp k1
  have p3 := k6 0 c0 p1
  have hn := ntk_bd hb (j := idx q'.1) (by omega)
  have h4 := k4 p2
  unfold Pot at *
  exact ⟨by omega, by omega, h4⟩
theorem lvT_lt {t : Nat} : lvT t < 10 := by
  unfold lvT
  repeat' split
  all_goals omega
section LPC
variable {n lv ar : Nat}
/-- one level down -/
def DnC (N : Nat) (X : Nat → Int32) (L a st c0 : Nat) (as0 : Int32) (kl : Bool) (kn ln : List (List Int32)) (n lv ar : Nat) : Prop := ∀ (q : Px) (S : ms_S), InT X L q.1 → RC S a st kl kn ln → CS S X L q.1 → KC S X L a c0 as0 kl q → ResC (f11 N n (Int32.ofNat lv) (Int32.ofNat ar)) S X L a st c0 as0 kl kn ln (pE X L kl kn ln n lv ar q)
theorem lpC (hN : 1300 ≤ N) (hb : TxB X L) (oa : o_cv a) (ost : o_st st) (hk6 : kn.length ≤ 6) (hl8 : ln.length ≤ 8) (hlv : lv < 5) (har : ar ≤ 7) (hnd : nd (lv + 1) ar ≤ n) (hD : DnC N X L a st c0 as0 kl kn ln n (lv + 1) ar) : ∀ f i fu (q : Px) (S : ms_S), f + i = 1200 → f < fu → InT X L q.1 → RC S a st kl kn ln → CS S X L q.1 → KC S X L a c0 as0 kl q → ResC (f11_L44 N (f11 N n) (fun _ _ _ _ => mret ()) (fun _ _ _ => mret ()) fu (Int32.ofNat lv) (Int32.ofNat ar) (Int32.ofNat i)) S X L a st c0 as0 kl kn ln (pLp X L (pE X L kl kn ln n) lv ar f q) := by
  have ha : a ≠ 6 ∧ a + 1 ≠ 6 := by rcases oa with rfl | rfl | rfl | rfl | rfl <;> decide
  intro f
  induction f with
  | zero =>
    intro i fu q S hi hfu hin hr hc hk
    obtain ⟨fu, rfl⟩ : ∃ p, fu = p + 1 := ⟨fu - 1, by omega⟩
    have e : i = 1200 := by omega
    subst e
    refine ⟨S, ?_, hc, hr, fun hg => (hk hg).1, offE.rf⟩
    rw [f11_L44, if_pos (by decide)]
    rfl
  | succ f ih =>
    intro i fu q S hi hfu hin hr hc hk
    obtain ⟨fu, rfl⟩ : ∃ p, fu = p + 1 := ⟨fu - 1, by omega⟩
    have htb := sTy_bd hb hc.2.2.1
    have m12 : ∀ {β : Type} {f' : Int32 → mM β} {S' : ms_S}, mb (f12 N (Int32.ofNat (sTy X L q.1))) f' S' = f' (if lvT (sTy X L q.1) < 9 then Int32.ofNat (lvT (sTy X L q.1)) else -1) S' := by intro β f' S'; simp only [mb, q12 (N := N) htb]
    have hlt : ∀ t, lvT t < 10 := fun t => lvT_lt
    have iff1 : ((if lvT (sTy X L q.1) < 9 then Int32.ofNat (lvT (sTy X L q.1)) else -1) = Int32.ofNat lv) ↔ lvT (sTy X L q.1) = lv := by
      by_cases h9 : lvT (sTy X L q.1) < 9
      · rw [if_pos h9]; exact ofN_eq (by omega) (by omega)
      · rw [if_neg h9]
        refine ⟨fun z => ?_, fun z => by omega⟩
        have := i32_of lv (by omega)
        clear hk hc hr m12 ih hD
        grind
    have e1200 : ¬ Int32.ofNat i ≥ 1200 := fun z => by have := (ofN_le (i := 1200) (j := i) (by omega) (by omega)).1 z; omega
    unfold ResC
    rw [f11_L44, if_neg e1200, EgRo hr.1 isA6, E98 hb hc, m12]
    unfold pLp
    by_cases hl : lvT (sTy X L q.1) = lv
    · rw [if_neg (fun z => z (iff1.2 hl)), if_pos hl]
      obtain ⟨o1, o2, o3, o4⟩ := lv_op hl hlv
      obtain ⟨j, hj, hjl, hj0⟩ := sTy_0 hb hc.2.2.1 o4
      have hc' : CS S X L (.inr j) := by rw [← hj]; exact hc
      obtain ⟨S1, e1, c1, x1⟩ := q100 (N := N) hb hc' hj0
      have m100 : ∀ {β : Type} {f' : Unit → mM β}, mb (f100 N) f' S = f' () S1 := by intro β f'; simp only [mb, e1]
      have c1 : CS S1 X L (nx q.1) := by rw [hj]; exact c1
      have hr1 := RC_x oa ost hr x1
      have hin1 : InT X L (nx q.1) := inT_nx hb hin o4
      obtain ⟨S2, e2, c2, r2, k2, x2⟩ := hD (nx q.1, q.2) S1 hin1 hr1 c1 (fun hg => by
        have hg : gd (nx q.1) = true := hg
        rw [gd_nx] at hg
        obtain ⟨w1, w2, w3⟩ := hk hg
        exact ⟨CE_off oa w1 x1, pot_nx w2, w3⟩)
      have m11 : ∀ {β : Type} {f' : Unit → mM β}, mb (f11 N n (Int32.ofNat lv + 1) (Int32.ofNat ar)) f' S1 = f' () S2 := by intro β f'; rw [ofN_s]; simp only [mb, e2]
      have okR := ok_pE (kl := kl) (kn := kn) (ln := ln) hb hk6 hl8 n (lv + 1) ar (nx q.1, q.2) (by omega) har hnd hin1
      have rm := room (c0 := c0) hb okR (fun hg => by
        have hg : gd (nx q.1) = true := hg
        rw [gd_nx] at hg
        obtain ⟨w1, w2, w3⟩ := hk hg
        exact ⟨pot_nx w2, w3⟩)
      obtain ⟨S3, e3, c3, r3, k3, x3⟩ := emitC (N := N) (X := X) (L := L) (c0 := c0) (as0 := as0) (ty := sTy X L q.1) oa ost (by
        unfold isOp at o1
        simp at o1
        omega) r2 c2 (fun hg => ⟨k2 hg, (rm hg).1⟩)
      have m2 : ∀ {β : Type} {f' : Unit → mM β}, mb (f2 N a (Int32.ofNat (sTy X L q.1)) 0) f' S2 = f' () S3 := by intro β f'; simp only [mb, e3]
      have hr2 : ms_R S2 38 2 = some a := r2.2.2.1
      have xx : offE a S S3 := ((x1.e ha.1 ha.2).tr x2).tr x3
      have ef : pOp X L (pE X L kl kn ln n) lv ar q = ((pE X L kl kn ln n (lv + 1) ar (nx q.1, q.2)).1, (pE X L kl kn ln n (lv + 1) ar (nx q.1, q.2)).2.1 ++ [(sTy X L q.1, 0)], (pE X L kl kn ln n (lv + 1) ar (nx q.1, q.2)).2.2) := rfl
      have hcore : CS S3 X L (pOp X L (pE X L kl kn ln n) lv ar q).1 ∧ RC S3 a st kl kn ln ∧ (gd (pOp X L (pE X L kl kn ln n) lv ar q).1 = true → CE S3 a c0 as0 kl (pOp X L (pE X L kl kn ln n) lv ar q)) := ⟨c3, r3, k3⟩
      rw [EgRo hr.1 isA6, E98 hb hc, EgRo hr.1 isA6, m100, m11, EgRo hr2 (isCv_o oa), m2]
      by_cases h2 : lv = 2
      · rw [if_pos h2, if_neg (fun z => z (by rw [h2]; rfl))]
        exact ⟨S3, rfl, hcore.1, hcore.2.1, hcore.2.2, xx⟩
      · have hne : Int32.ofNat lv ≠ 2 := fun z => h2 ((ofN_eq (j := 2) (by omega) (by omega)).1 z)
        rw [if_neg h2, if_pos hne, ofN_s]
        have okq : gd q.1 = true → Pot X L 0 c0 q ∧ q.2.2 ≤ 100 := fun hg => ⟨(hk hg).2.1, (hk hg).2.2⟩
        obtain ⟨S4, e4, c4, r4, k4, x4⟩ := ih (i + 1) fu (pOp X L (pE X L kl kn ln n) lv ar q) S3 (by omega) (by omega) (fun hg => (okR hg).2.2.1) hcore.2.1 hcore.1 (fun hg => ⟨hcore.2.2 hg, by
          obtain ⟨g1, g2, g3, g4, _, g6⟩ := okR hg
          have g1 : gd (nx q.1) = true := g1
          rw [gd_nx] at g1
          have p3 := g6 0 c0 (pot_nx (okq g1).1)
          unfold Pot at *
          show c0 + ((pE X L kl kn ln n (lv + 1) ar (nx q.1, q.2)).2.1 ++ [(sTy X L q.1, 0)]).length + 0 ≤ _
          rw [List.length_append]
          show c0 + ((pE X L kl kn ln n (lv + 1) ar (nx q.1, q.2)).2.1.length + 1) + 0 ≤ 2 * (pE X L kl kn ln n (lv + 1) ar (nx q.1, q.2)).2.2 + ntk X L (idx (pE X L kl kn ln n (lv + 1) ar (nx q.1, q.2)).1)
          omega, (rm hg).2.2⟩)
        exact ⟨S4, e4, c4, r4, k4, xx.tr x4⟩
    · rw [if_pos (fun z => hl (iff1.1 z)), if_neg hl]
      exact ⟨S, rfl, hc, hr, fun hg => (hk hg).1, offE.rf⟩
end LPC
end EX3
