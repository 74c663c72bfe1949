/-! the class cuts a text -/
section LX2
variable {N : Nat} {X : Nat → Int32} {L : Nat}
def TxC (S : ms_S) (X : Nat → Int32) (L : Nat) : Prop := (∀ i, i < L → ms_A S 5 i = X i) ∧ ms_L S 7 = pkW
def TxB (X : Nat → Int32) (L : Nat) : Prop := L ≤ 1200 ∧ ∀ i, i < L → 0 ≤ X i ∧ X i ≤ 255
theorem TxC_off {S S1 : ms_S} (h : TxC S X L) (o : offL S S1) : TxC S1 X L := by
  unfold TxC at *
  rw [(o.2 5 (by decide) (by decide)).2.2.2.1, (o.2 7 (by decide) (by decide)).2.2.2.2.1]
  exact h
theorem pk5_s {l : List Int32} {c : Int32} : pk5 (l ++ [c]) = pk5 l * 32 + Int32.toInt64 (c - 97 + 1) := by unfold pk5; rw [List.foldl_append]; rfl
theorem numV_s {l : List Int32} {c : Int32} : numV (l ++ [c]) = numV l * 10 + (c - 48) := by unfold numV; rw [List.foldl_append]; rfl
theorem wordL {S : ms_S} {a : Nat} {K : Int32 → Int32 → Int32 → Int64 → mM Int32} (hb : TxB X L) (h : TxC S X L) (ha : a ≤ L) : ∀ m p n, m + p = rnE isLt X L a → a ≤ p → m < n → f93_L6 N K n (Int32.ofNat a) (Int32.ofNat L) (Int32.ofNat p) (pk5 (subL X a (p - a))) S = K (Int32.ofNat a) (Int32.ofNat L) (Int32.ofNat (rnE isLt X L a)) (pk5 (subL X a (rnE isLt X L a - a))) S := by
  have hL := hb.1
  have hle := rnE_le (P := isLt) (X := X) ha
  intro m
  induction m with
  | zero =>
    intro p n hp hap hn
    obtain ⟨n, rfl⟩ : ∃ q, n = q + 1 := ⟨n - 1, by omega⟩
    have e : p = rnE isLt X L a := by omega
    rw [f93_L6]
    by_cases hlt : p < L
    · have i1 : inR (Int32.ofNat p) 1200 := ofN_inR (by omega) (by omega)
      have i2 := ofN_cl (i := p) (by omega)
      rw [if_neg (fun q => by have := (ofN_le (i := L) (j := p) (by omega) (by omega)).1 q; omega)]
      simp only [mE, i1, i2, h.1 p hlt]
      have hs := rnE_st (P := isLt) (X := X) (L := L) (i := a) (by omega)
      have hv : (if isLt (X p) = true then (1 : Int32) else 0) = 0 := by rw [e, hs]; rfl
      rw [E96, hv, if_pos rfl, e]
    · rw [if_pos ((ofN_le (by omega) (by omega)).2 (by omega)), e]
  | succ m ih =>
    intro p n hp hap hn
    obtain ⟨n, rfl⟩ : ∃ q, n = q + 1 := ⟨n - 1, by omega⟩
    have hlt : p < L := by omega
    have i1 : inR (Int32.ofNat p) 1200 := ofN_inR (by omega) (by omega)
    have i2 := ofN_cl (i := p) (by omega)
    have hin := rnE_in (P := isLt) (X := X) (L := L) (i := a) (j := p) hap (by omega)
    have nx := ih (p + 1) n (by omega) (by omega) (by omega)
    rw [show p + 1 - a = (p - a) + 1 by omega, subL_s, pk5_s, show a + (p - a) = p by omega] at nx
    rw [f93_L6, if_neg (fun q => by have := (ofN_le (i := L) (j := p) (by omega) (by omega)).1 q; omega)]
    simp only [mE, i1, i2, h.1 p hlt]
    rw [E96, if_pos hin, if_neg (by decide)]
    simp only [mE, i1, i2, h.1 p hlt]
    have m88 : ∀ {v : Int64} {c : Int32} {β : Type} {f' : Int64 → mM β}, mb (f88 N v c) f' S = f' (v * 32 + Int32.toInt64 (c - 97 + 1)) S := by intro v c β f'; rfl
    rw [m88, ofN_s]
    exact nx
theorem numL {S : ms_S} {a : Nat} {K : Int32 → Int32 → Int32 → Int32 → mM Int32} (hb : TxB X L) (h : TxC S X L) (ha : a ≤ L) : ∀ m p n, m + p = rnE isDg X L a → a ≤ p → m < n → f94_L6 N K n (Int32.ofNat a) (Int32.ofNat L) (Int32.ofNat p) (numV (subL X a (p - a))) S = K (Int32.ofNat a) (Int32.ofNat L) (Int32.ofNat (rnE isDg X L a)) (numV (subL X a (rnE isDg X L a - a))) S := by
  have hL := hb.1
  have hle := rnE_le (P := isDg) (X := X) ha
  intro m
  induction m with
  | zero =>
    intro p n hp hap hn
    obtain ⟨n, rfl⟩ : ∃ q, n = q + 1 := ⟨n - 1, by omega⟩
    have e : p = rnE isDg X L a := by omega
    rw [f94_L6]
    by_cases hlt : p < L
    · have i1 : inR (Int32.ofNat p) 1200 := ofN_inR (by omega) (by omega)
      have i2 := ofN_cl (i := p) (by omega)
      rw [if_neg (fun q => by have := (ofN_le (i := L) (j := p) (by omega) (by omega)).1 q; omega)]
      simp only [mE, i1, i2, h.1 p hlt]
      have hs := rnE_st (P := isDg) (X := X) (L := L) (i := a) (by omega)
      have hv : (if isDg (X p) = true then (1 : Int32) else 0) = 0 := by rw [e, hs]; rfl
      rw [E97, hv, if_pos rfl, e]
    · rw [if_pos ((ofN_le (by omega) (by omega)).2 (by omega)), e]
  | succ m ih =>
    intro p n hp hap hn
    obtain ⟨n, rfl⟩ : ∃ q, n = q + 1 := ⟨n - 1, by omega⟩
    have hlt : p < L := by omega
    have i1 : inR (Int32.ofNat p) 1200 := ofN_inR (by omega) (by omega)
    have i2 := ofN_cl (i := p) (by omega)
    have hin := rnE_in (P := isDg) (X := X) (L := L) (i := a) (j := p) hap (by omega)
    have nx := ih (p + 1) n (by omega) (by omega) (by omega)
    rw [show p + 1 - a = (p - a) + 1 by omega, subL_s, numV_s, show a + (p - a) = p by omega] at nx
    rw [f94_L6, if_neg (fun q => by have := (ofN_le (i := L) (j := p) (by omega) (by omega)).1 q; omega)]
    simp only [mE, i1, i2, h.1 p hlt]
    rw [E97, if_pos hin, if_neg (by decide)]
    simp only [mE, i1, i2, h.1 p hlt, ofN_s]
    exact nx
theorem q92 {S : ms_S} {dn : List Tk} {a : Nat} (hN : 1300 ≤ N) (hb : TxB X L) (h : TxC S X L) (ha : a < L) (ht : TC S dn) (hl : dn.length ≤ a) : ∃ S1, f92 N (Int32.ofNat a) (Int32.ofNat L) S = some (Int32.ofNat (tEn (tokA X L a)), S1) ∧ TC S1 (dn ++ [tokA X L a]) ∧ offL S S1 := by
  have hL := hb.1
  have a1 : inR (Int32.ofNat a) 1200 := ofN_inR (by omega) (by omega)
  have a2 := ofN_cl (i := a) (by omega)
  have xa := h.1 a ha
  obtain ⟨b1, b2⟩ := hb.2 a ha
  unfold f92
  simp only [mE, a1, a2, xa]
  rw [E96]
  by_cases hlet : isLt (X a) = true
  · rw [if_pos hlet, if_neg (by decide)]
    have hle := rnE_le (P := isLt) (X := X) (L := L) (i := a) (by omega)
    have hge := rnE_ge (P := isLt) (X := X) (L := L) (i := a)
    have et : tokA X L a = (if 8 < rnE isLt X L a - a then 1 else wF (pk5 (subL X a (rnE isLt X L a - a))), a, rnE isLt X L a, subL X a (rnE isLt X L a - a), 0) := by unfold tokA; rw [if_pos hlet]
    have key : ∃ S1, f93 N (Int32.ofNat a) (Int32.ofNat L) S = some (Int32.ofNat (tEn (tokA X L a)), S1) ∧ TC S1 (dn ++ [tokA X L a]) ∧ offL S S1 := by
      have w := wordL (N := N) (S := S) (a := a) hb h (by omega) (rnE isLt X L a - a) a N (by omega) (Nat.le_refl _) (by omega) (K := fun (x2 : Int32) (x3 : Int32) (x4 : Int32) (x5 : Int64) => (mlet (fun (x2 : Int32) (x3 : Int32) (x4 : Int32) (x5 : Int64) (y1 : Int32) => (mb (f91 N y1 x2 x5) fun _ => mret x4)) fun J59 => if (x4 - x2) ≤ 8 then (mb (f95 N x5) fun v10 => J59 x2 x3 x4 x5 v10) else (J59 x2 x3 x4 x5 1)))
      rw [Nat.sub_self] at w
      unfold f93
      have w : f93_L6 N _ N (Int32.ofNat a) (Int32.ofNat L) (Int32.ofNat a) 0 S = _ := w
      simp only [mE] at w ⊢
      rw [w, ofN_sub hge]
      by_cases h8 : 8 < rnE isLt X L a - a
      · rw [if_neg (fun q => by have := (ofN_le (i := rnE isLt X L a - a) (j := 8) (by omega) (by omega)).1 q; omega)]
        rw [if_pos h8] at et
        obtain ⟨S1, e1, t1, o1⟩ := q91 (N := N) (S := S) (dn := dn) (t := tokA X L a) (ty := 1) (at' := Int32.ofNat a) (v := pk5 (subL X a (rnE isLt X L a - a))) ht (by omega) (by rw [et]; rfl) (by rw [et]; rfl) (by rw [et]; exact ⟨fun q => absurd q (by show ¬ ((1 : Nat) = 3); decide), fun q => absurd q (by show ¬ ((1 : Nat) = 2 ∨ 100 ≤ 1); decide)⟩)
        have m91 : ∀ {β : Type} {f' : Unit → mM β}, mb (f91 N 1 (Int32.ofNat a) (pk5 (subL X a (rnE isLt X L a - a)))) f' S = f' () S1 := by intro β f'; simp only [mb, e1]
        refine ⟨S1, ?_, t1, o1⟩
        rw [m91, et]
        rfl
      · rw [if_pos (show Int32.ofNat (rnE isLt X L a - a) ≤ 8 from (ofN_le (j := 8) (by omega) (by omega)).2 (by omega))]
        rw [if_neg h8] at et
        have m95 : ∀ {β : Type} {f' : Int32 → mM β}, mb (f95 N (pk5 (subL X a (rnE isLt X L a - a)))) f' S = f' (Int32.ofNat (wF (pk5 (subL X a (rnE isLt X L a - a))))) S := by intro β f'; simp only [mb, q95 (N := N) (S := S) (by omega) h.2]
        rw [m95]
        obtain ⟨S1, e1, t1, o1⟩ := q91 (N := N) (S := S) (dn := dn) (t := tokA X L a) (ty := Int32.ofNat (wF (pk5 (subL X a (rnE isLt X L a - a))))) (at' := Int32.ofNat a) (v := pk5 (subL X a (rnE isLt X L a - a))) ht (by omega) (by rw [et]; rfl) (by rw [et]; rfl) (by
          rw [et]
          refine ⟨fun q => ?_, fun _ => rfl⟩
          have q : wF (pk5 (subL X a (rnE isLt X L a - a))) = 3 := q
          rcases wF_ge (v := pk5 (subL X a (rnE isLt X L a - a))) with w | w <;> omega)
        have m91 : ∀ {β : Type} {f' : Unit → mM β}, mb (f91 N (Int32.ofNat (wF (pk5 (subL X a (rnE isLt X L a - a))))) (Int32.ofNat a) (pk5 (subL X a (rnE isLt X L a - a)))) f' S = f' () S1 := by intro β f'; simp only [mb, e1]
        refine ⟨S1, ?_, t1, o1⟩
        rw [m91, et]
        rfl
    obtain ⟨S1, e1, t1, o1⟩ := key
    have m93 : ∀ {β : Type} {f' : Int32 → mM β}, mb (f93 N (Int32.ofNat a) (Int32.ofNat L)) f' S = f' (Int32.ofNat (tEn (tokA X L a))) S1 := by intro β f'; simp only [mb, e1]
    refine ⟨S1, ?_, t1, o1⟩
    rw [m93]
    rfl
  · rw [if_neg hlet, if_pos rfl]
    simp only [mE, a1, a2, xa]
    rw [E97]
    by_cases hdig : isDg (X a) = true
    · rw [if_pos hdig, if_neg (by decide)]
      have hle := rnE_le (P := isDg) (X := X) (L := L) (i := a) (by omega)
      have hge := rnE_ge (P := isDg) (X := X) (L := L) (i := a)
      have et : tokA X L a = (if 4 < rnE isDg X L a - a ∨ (rnE isDg X L a < L ∧ isLt (X (rnE isDg X L a)) = true) then 1 else 3, a, rnE isDg X L a, [], numV (subL X a (rnE isDg X L a - a))) := by unfold tokA; rw [if_neg hlet, if_pos hdig]
      have key : ∃ S1, f94 N (Int32.ofNat a) (Int32.ofNat L) S = some (Int32.ofNat (tEn (tokA X L a)), S1) ∧ TC S1 (dn ++ [tokA X L a]) ∧ offL S S1 := by
        have w := numL (N := N) (S := S) (a := a) hb h (by omega) (rnE isDg X L a - a) a N (by omega) (Nat.le_refl _) (by omega) (K := fun (x2 : Int32) (x3 : Int32) (x4 : Int32) (x5 : Int32) => (mlet (fun (x2 : Int32) (x3 : Int32) (x4 : Int32) (x5 : Int32) (y0 : Int32) => (mlet (fun (x2 : Int32) (x3 : Int32) (x4 : Int32) (x5 : Int32) (x6 : Int32) (y1 : Int32) => (mb (f91 N y1 x2 (Int32.toInt64 x5)) fun _ => mret x4)) fun J85 => mlet (fun (x2 : Int32) (x3 : Int32) (x4 : Int32) (x5 : Int32) (x6 : Int32) => (J85 x2 x3 x4 x5 x6 1)) fun J80 => if (x4 - x2) > 4 then J80 x2 x3 x4 x5 y0 else (if y0 = 0 then (J85 x2 x3 x4 x5 y0 3) else J80 x2 x3 x4 x5 y0))) fun J64 => mlet (fun (x2 : Int32) (x3 : Int32) (x4 : Int32) (x5 : Int32) => (J64 x2 x3 x4 x5 0)) fun J63 => if x4 ≥ x3 then J63 x2 x3 x4 x5 else (mb (lA 5 1200 x4) fun v8 => mb (f96 N v8) fun v10 => if v10 = 0 then J63 x2 x3 x4 x5 else (J64 x2 x3 x4 x5 1))))
        rw [Nat.sub_self] at w
        unfold f94
        have w : f94_L6 N _ N (Int32.ofNat a) (Int32.ofNat L) (Int32.ofNat a) 0 S = _ := w
        simp only [mE] at w ⊢
        rw [w]
        have E0 : ∃ e, e = rnE isDg X L a := ⟨_, rfl⟩
        obtain ⟨e, he⟩ := E0
        rw [← he] at et hle hge ⊢
        rw [ofN_sub hge]
        have hgt : (Int32.ofNat (e - a) > 4) ↔ 4 < e - a := ofN_lt (i := 4) (by omega) (by omega)
        have bad : (4 < e - a ∨ (e < L ∧ isLt (X e) = true)) → ∃ S1, (mb (f91 N 1 (Int32.ofNat a) (Int32.toInt64 (numV (subL X a (e - a))))) fun _ => mret (Int32.ofNat e)) S = some (Int32.ofNat (tEn (tokA X L a)), S1) ∧ TC S1 (dn ++ [tokA X L a]) ∧ offL S S1 := by
          intro hc
          rw [if_pos hc] at et
          obtain ⟨S1, e1, t1, o1⟩ := q91 (N := N) (S := S) (dn := dn) (t := tokA X L a) (ty := 1) (at' := Int32.ofNat a) (v := Int32.toInt64 (numV (subL X a (e - a)))) ht (by omega) (by rw [et]; rfl) (by rw [et]; rfl) (by rw [et]; exact ⟨fun q => absurd q (by show ¬ ((1 : Nat) = 3); decide), fun q => absurd q (by show ¬ ((1 : Nat) = 2 ∨ 100 ≤ 1); decide)⟩)
          refine ⟨S1, ?_, t1, o1⟩
          simp only [mb, e1, et]
          rfl
        have good : ¬ (4 < e - a ∨ (e < L ∧ isLt (X e) = true)) → ∃ S1, (mb (f91 N 3 (Int32.ofNat a) (Int32.toInt64 (numV (subL X a (e - a))))) fun _ => mret (Int32.ofNat e)) S = some (Int32.ofNat (tEn (tokA X L a)), S1) ∧ TC S1 (dn ++ [tokA X L a]) ∧ offL S S1 := by
          intro hc
          rw [if_neg hc] at et
          obtain ⟨S1, e1, t1, o1⟩ := q91 (N := N) (S := S) (dn := dn) (t := tokA X L a) (ty := 3) (at' := Int32.ofNat a) (v := Int32.toInt64 (numV (subL X a (e - a)))) ht (by omega) (by rw [et]; rfl) (by rw [et]; rfl) (by rw [et]; exact ⟨fun _ => rfl, fun q => absurd q (by show ¬ ((3 : Nat) = 2 ∨ 100 ≤ 3); decide)⟩)
          refine ⟨S1, ?_, t1, o1⟩
          simp only [mb, e1, et]
          rfl
        by_cases hel : e < L
        · have e1 : inR (Int32.ofNat e) 1200 := ofN_inR (by omega) (by omega)
          have e2 := ofN_cl (i := e) (by omega)
          rw [if_neg (fun q => by have := (ofN_le (i := L) (j := e) (by omega) (by omega)).1 q; omega)]
          simp only [mE, e1, e2, h.1 e hel]
          rw [E96]
          by_cases hle2 : isLt (X e) = true
          · rw [if_pos hle2, if_neg (by decide)]
            simp only [mE]
            by_cases h4 : 4 < e - a
            · rw [if_pos (hgt.2 h4)]; exact bad (Or.inl h4)
            · rw [if_neg (fun q => h4 (hgt.1 q)), if_neg (by decide)]; exact bad (Or.inr ⟨hel, hle2⟩)
          · rw [if_neg hle2, if_pos rfl]
            simp only [mE]
            by_cases h4 : 4 < e - a
            · rw [if_pos (hgt.2 h4)]; exact bad (Or.inl h4)
            · rw [if_neg (fun q => h4 (hgt.1 q)), if_pos trivial]; exact good (fun q => q.elim h4 (fun q => hle2 q.2))
        · rw [if_pos ((ofN_le (by omega) (by omega)).2 (by omega))]
          by_cases h4 : 4 < e - a
          · rw [if_pos (hgt.2 h4)]; exact bad (Or.inl h4)
          · rw [if_neg (fun q => h4 (hgt.1 q)), if_pos trivial]; exact good (fun q => q.elim h4 (fun q => hel q.1))
      obtain ⟨S1, e1, t1, o1⟩ := key
      have m94 : ∀ {β : Type} {f' : Int32 → mM β}, mb (f94 N (Int32.ofNat a) (Int32.ofNat L)) f' S = f' (Int32.ofNat (tEn (tokA X L a))) S1 := by intro β f'; simp only [mb, e1]
      refine ⟨S1, ?_, t1, o1⟩
      rw [m94]
      rfl
    · rw [if_neg hdig, if_pos rfl]
      have et : tokA X L a = (if isSg (X a) = true then (X a).toNatClampNeg else 1, a, a + 1, [], 0) := by unfold tokA; rw [if_neg hlet, if_neg hdig]
      have sg := sgX b1 b2
      simp only [mE, a1, a2, xa]
      have bad : isSg (X a) = false → ∃ S1, (mb (f91 N 1 (Int32.ofNat a) 0) fun _ => mret (Int32.ofNat a + 1)) S = some (Int32.ofNat (tEn (tokA X L a)), S1) ∧ TC S1 (dn ++ [tokA X L a]) ∧ offL S S1 := by
        intro hc
        rw [if_neg (by rw [hc]; decide)] at et
        obtain ⟨S1, e1, t1, o1⟩ := q91 (N := N) (S := S) (dn := dn) (t := tokA X L a) (ty := 1) (at' := Int32.ofNat a) (v := 0) ht (by omega) (by rw [et]; rfl) (by rw [et]; rfl) (by rw [et]; exact ⟨fun q => absurd q (by show ¬ ((1 : Nat) = 3); decide), fun q => absurd q (by show ¬ ((1 : Nat) = 2 ∨ 100 ≤ 1); decide)⟩)
        refine ⟨S1, ?_, t1, o1⟩
        simp only [mb, e1, et, ofN_s]
        rfl
      by_cases hs : isSg (X a) = true
      · have hn : ¬ (X a ≥ 128 ∨ mv_ixf (UInt32.toInt32 (Int32.toUInt32 (X a) % 65536)) (mv_tx 3) 0 < 0) := fun q => by rw [sg.1 q] at hs; cases hs
        rw [if_neg (fun q => hn (Or.inl q)), if_neg (fun q => hn (Or.inr q)), if_neg (by decide)]
        rw [if_pos hs] at et
        obtain ⟨c, hc, ec⟩ := i32_nat (x := X a) (n := 256) b1 (by omega) (by generalize X a = z at b1 b2; clear sg hn; grind)
        have hc2 : c < 100 ∧ c ≠ 2 ∧ c ≠ 3 := by
          have hs := of_decide_eq_true hs
          rw [ec] at hs
          have eqn : ∀ k, k < 256 → (Int32.ofNat c = Int32.ofNat k) → c = k := fun k hk q => (ofN_eq (by omega) (by omega)).1 q
          rcases hs with q | q | q | q | q | q | q | q | q
          · have := eqn 59 (by omega) q; omega
          · have := eqn 40 (by omega) q; omega
          · have := eqn 41 (by omega) q; omega
          · have := eqn 60 (by omega) q; omega
          · have := eqn 62 (by omega) q; omega
          · have := eqn 61 (by omega) q; omega
          · have := eqn 43 (by omega) q; omega
          · have := eqn 45 (by omega) q; omega
          · have := eqn 42 (by omega) q; omega
        have ecl : (X a).toNatClampNeg = c := by rw [ec]; exact ofN_cl (by omega)
        obtain ⟨S1, e1, t1, o1⟩ := q91 (N := N) (S := S) (dn := dn) (t := tokA X L a) (ty := X a) (at' := Int32.ofNat a) (v := 0) ht (by omega) (by rw [et]; show X a = Int32.ofNat (X a).toNatClampNeg; rw [ecl]; exact ec) (by rw [et]; rfl) (by
          rw [et]
          refine ⟨fun q => ?_, fun q => ?_⟩
          · have q : (X a).toNatClampNeg = 3 := q
            omega
          · have q : (X a).toNatClampNeg = 2 ∨ 100 ≤ (X a).toNatClampNeg := q
            omega)
        refine ⟨S1, ?_, t1, o1⟩
        simp only [mb, e1, et, ofN_s]
        rfl
      · have hs0 : isSg (X a) = false := by cases h : isSg (X a) with | true => exact absurd h hs | false => rfl
        by_cases h128 : X a ≥ 128
        · rw [if_pos h128, if_pos trivial]
          exact bad hs0
        · rw [if_neg h128, if_pos ((sg.2 hs0).resolve_left h128), if_pos trivial]
          exact bad hs0
theorem tkL_sp {p n : Nat} (hp : p < L) (hs : isSp (X p) = true) (hn : L - p < n) : tkL X L n p = tkL X L n (p + 1) := by
  obtain ⟨n, rfl⟩ : ∃ q, n = q + 1 := ⟨n - 1, by omega⟩
  unfold tkL
  rw [rnE_y hp hs]
theorem tkL_tk {p n : Nat} (hp : p < L) (hs : isSp (X p) = false) : tkL X L (n + 1) p = if tTy (tokA X L p) = 1 then [tokA X L p, tEnd L] else tokA X L p :: tkL X L n (tEn (tokA X L p)) := by
  have e : rnE isSp X L p = p := rnE_n (fun q => by rw [hs] at q; cases q.2)
  show (if rnE isSp X L p < L then _ else _) = _
  rw [e, if_pos hp]
theorem tkL_ed {p n : Nat} (hp : L ≤ p) : tkL X L (n + 1) p = [tEnd L] := by
  have e : rnE isSp X L p = p := rnE_n (fun q => by omega)
  show (if rnE isSp X L p < L then _ else _) = _
  rw [e, if_neg (by omega)]
def lastBad (dn : List Tk) : Bool := decide (0 < dn.length ∧ tTy (dn.getD (dn.length - 1) (tEnd 0)) = 1)
theorem ty_bd {a : Nat} (hb : TxB X L) (ha : a < L) : tTy (tokA X L a) < 1000 := by
  unfold tokA
  split
  · show (if _ then _ else _) < 1000
    split
    · omega
    · rcases wF_ge (v := pk5 (subL X a (rnE isLt X L a - a))) with w | w <;> omega
  · split
    · show (if _ then _ else _) < 1000
      split <;> omega
    · show (if _ then _ else _) < 1000
      split
      · obtain ⟨b1, b2⟩ := hb.2 a ha
        obtain ⟨c, hc, ec⟩ := i32_nat (x := X a) (n := 256) b1 (by omega) (by generalize X a = z at b1 b2; grind)
        rw [ec, ofN_cl (by omega)]
        omega
      · omega
theorem q90 {S : ms_S} {dn : List Tk} (ht : TC S dn) (hl : dn.length ≤ 1200) (hty : ∀ t ∈ dn, tTy t < 1000) : f90 N S = some (if lastBad dn = true then 1 else 0, S) := by
  obtain ⟨h4, hA⟩ := ht
  unfold f90 lastBad
  simp only [mE, h4, true_or, or_true, decide_eq_true_eq]
  by_cases h0 : 0 < dn.length
  · rw [if_neg (fun q => by have := (ofN_le (j := 0) (by omega) (by omega)).1 q; omega)]
    rw [show Int32.ofNat dn.length - 1 = Int32.ofNat (dn.length - 1) from ofN_sub (j := 1) (by omega)]
    have i1 : inR (Int32.ofNat (dn.length - 1)) 1201 := ofN_inR (by omega) (by omega)
    have i2 := ofN_cl (i := dn.length - 1) (by omega)
    simp only [mE, i1, i2, (hA _ (show dn.length - 1 < dn.length by omega)).1]
    have hm : tTy (dn.getD (dn.length - 1) (tEnd 0)) < 1000 := by
      rw [List.getD_eq_getElem?_getD, List.getElem?_eq_getElem (by omega)]
      exact hty _ (List.getElem_mem _)
    by_cases h1 : tTy (dn.getD (dn.length - 1) (tEnd 0)) = 1
    · rw [if_neg (fun q => q (by rw [h1]; rfl)), if_pos ⟨h0, h1⟩]
      simp only [mE, or_true]
    · have hne : Int32.ofNat (tTy (dn.getD (dn.length - 1) (tEnd 0))) ≠ 1 := fun q => h1 ((ofN_eq (j := 1) (by omega) (by omega)).1 q)
      rw [if_pos hne, if_neg (fun q => h1 q.2)]
      simp only [mE, true_or]
  · have hle : Int32.ofNat dn.length ≤ 0 := (ofN_le (j := 0) (by omega) (by omega)).2 (by omega)
    rw [if_pos hle, if_neg (fun q => h0 q.1)]
theorem lastBad_app {dn : List Tk} {t : Tk} : lastBad (dn ++ [t]) = decide (tTy t = 1) := by
  unfold lastBad
  rw [tgetD_app, List.length_append]
  simp
theorem readL {K : Int32 → Int32 → Int32 → mM Unit} (hN : 1300 ≤ N) (hb : TxB X L) : ∀ g p i n m (dn : List Tk) (S : ms_S), L - p < g → p ≤ L → i ≤ p → L - p < n → L - p < m → TxC S X L → TC S dn → dn.length ≤ p → (∀ t ∈ dn, tTy t < 1000) → lastBad dn = false → ∃ dn2 S1 x3 x4, f89_L25 N K n (Int32.ofNat L) (Int32.ofNat p) (Int32.ofNat i) S = K (Int32.ofNat L) x3 x4 S1 ∧ TC S1 dn2 ∧ dn2 ++ [tEnd L] = dn ++ tkL X L m p ∧ dn2.length ≤ L ∧ offL S S1 := by
  have hL := hb.1
  intro g
  induction g with
  | zero => intro p i n m dn S hg; omega
  | succ g ih =>
    intro p i n m dn S hg hpl hip hn hm hx ht hl hty hbad
    obtain ⟨n, rfl⟩ : ∃ q, n = q + 1 := ⟨n - 1, by omega⟩
    obtain ⟨m, rfl⟩ : ∃ q, m = q + 1 := ⟨m - 1, by omega⟩
    by_cases hp : p < L
    · have i1 : inR (Int32.ofNat p) 1200 := ofN_inR (by omega) (by omega)
      have i2 := ofN_cl (i := p) (by omega)
      have m90 : ∀ {β : Type} {f' : Int32 → mM β}, mb (f90 N) f' S = f' 0 S := by
        intro β f'
        simp only [mb, q90 (N := N) ht (by omega) hty]
        rw [hbad]; rfl
      have pre : f89_L25 N K (n + 1) (Int32.ofNat L) (Int32.ofNat p) (Int32.ofNat i) S = (if X p = 32 then f89_L25 N K n (Int32.ofNat L) (Int32.ofNat p + 1) (Int32.ofNat i + 1) S else if X p ≠ 10 then (mb (f92 N (Int32.ofNat p) (Int32.ofNat L)) fun v11 => f89_L25 N K n (Int32.ofNat L) v11 (Int32.ofNat i + 1)) S else f89_L25 N K n (Int32.ofNat L) (Int32.ofNat p + 1) (Int32.ofNat i + 1) S) := by
        rw [f89_L25, if_neg (fun q => by have := (ofN_le (i := L) (j := i) (by omega) (by omega)).1 q; omega), if_neg (fun q => by have := (ofN_le (i := L) (j := p) (by omega) (by omega)).1 q; omega), m90, if_neg (fun q => q rfl)]
        simp only [mE, i1, i2, hx.1 p hp]
      rw [pre]
      by_cases hs : isSp (X p) = true
      · have nx := ih (p + 1) (i + 1) n (m + 1) dn S (by omega) (by omega) (by omega) (by omega) (by omega) hx ht (by omega) hty hbad
        rw [← tkL_sp hp hs (by omega)] at nx
        have e : (if X p = 32 then f89_L25 N K n (Int32.ofNat L) (Int32.ofNat p + 1) (Int32.ofNat i + 1) S else if X p ≠ 10 then (mb (f92 N (Int32.ofNat p) (Int32.ofNat L)) fun v11 => f89_L25 N K n (Int32.ofNat L) v11 (Int32.ofNat i + 1)) S else f89_L25 N K n (Int32.ofNat L) (Int32.ofNat p + 1) (Int32.ofNat i + 1) S) = f89_L25 N K n (Int32.ofNat L) (Int32.ofNat p + 1) (Int32.ofNat i + 1) S := by
          rcases of_decide_eq_true hs with q | q
          · rw [if_pos q]
          · by_cases h32 : X p = 32
            · rw [if_pos h32]
            · rw [if_neg h32, if_neg (fun z => z q)]
        rw [e, ofN_s, ofN_s]
        exact nx
      · have hs0 : isSp (X p) = false := by cases h : isSp (X p) with | true => exact absurd h hs | false => rfl
        have hs1 := of_decide_eq_false hs0
        rw [if_neg (fun q => hs1 (Or.inl q)), if_pos (fun q => hs1 (Or.inr q))]
        obtain ⟨S1, e1, t1, o1⟩ := q92 (N := N) (S := S) (dn := dn) hN hb hx hp ht hl
        have m92 : ∀ {β : Type} {f' : Int32 → mM β}, mb (f92 N (Int32.ofNat p) (Int32.ofNat L)) f' S = f' (Int32.ofNat (tEn (tokA X L p))) S1 := by intro β f'; simp only [mb, e1]
        rw [m92, ofN_s]
        obtain ⟨en1, en2, en3⟩ := tokA_en (X := X) hp
        have hty1 : ∀ t ∈ dn ++ [tokA X L p], tTy t < 1000 := fun t ht => by
          rcases List.mem_append.mp ht with h | h
          · exact hty t h
          · have h : t = tokA X L p := by simpa using h
            rw [h]; exact ty_bd hb hp
        rw [tkL_tk hp hs0]
        by_cases hbd : tTy (tokA X L p) = 1
        · rw [if_pos hbd]
          refine ⟨dn ++ [tokA X L p], S1, Int32.ofNat (tEn (tokA X L p)), Int32.ofNat (i + 1), ?_, t1, by simp, by simp; omega, o1⟩
          obtain ⟨n', rfl⟩ : ∃ q, n = q + 1 := ⟨n - 1, by omega⟩
          have m90b : ∀ {β : Type} {f' : Int32 → mM β}, mb (f90 N) f' S1 = f' 1 S1 := by
            intro β f'
            simp only [mb, q90 (N := N) t1 (by simp; omega) hty1]
            rw [lastBad_app, decide_eq_true hbd]; rfl
          rw [f89_L25]
          simp only [mE]
          by_cases c1 : Int32.ofNat (i + 1) ≥ Int32.ofNat L
          · rw [if_pos c1]
          · rw [if_neg c1]
            by_cases c2 : Int32.ofNat (tEn (tokA X L p)) ≥ Int32.ofNat L
            · rw [if_pos c2]
            · rw [if_neg c2, m90b, if_pos (by decide)]
        · rw [if_neg hbd]
          obtain ⟨dn2, S2, x3, x4, e2, t2, q2, l2, o2⟩ := ih (tEn (tokA X L p)) (i + 1) n m (dn ++ [tokA X L p]) S1 (by omega) en2 (by omega) (by omega) (by omega) (TxC_off hx o1) t1 (by simp; omega) hty1 (by rw [lastBad_app, decide_eq_false hbd])
          exact ⟨dn2, S2, x3, x4, e2, t2, by rw [q2]; simp, l2, o1.tr o2⟩
    · have e : p = L := by omega
      subst e
      refine ⟨dn, S, Int32.ofNat p, Int32.ofNat i, ?_, ht, by rw [tkL_ed (Nat.le_refl _)], by omega, offL.rf⟩
      rw [f89_L25]
      simp only [mE]
      by_cases c1 : Int32.ofNat i ≥ Int32.ofNat p
      · rw [if_pos c1]
      · rw [if_neg c1, if_pos ((ofN_le (by omega) (by omega)).2 (Nat.le_refl _))]
/-- the class's tokens, read -/
theorem q89 {S : ms_S} (hN : 1300 ≤ N) (hb : TxB X L) (hx : TxC S X L) : ∃ S1, f89 N (Int32.ofNat L) S = some ((), S1) ∧ TC S1 (tkA X L) ∧ ms_I S1 6 5 = 0 ∧ ms_I S1 6 6 = 0 ∧ ms_I S1 6 7 = -1 ∧ ∀ b, b ≠ 6 → ¬ (8 ≤ b ∧ b ≤ 10) → Eqc S S1 b := by
  have hL := hb.1
  have X0 : ∃ Y, Y = ms_setI (ms_setI (ms_setI (ms_setI S 6 4 0) 6 5 0) 6 6 0) 6 7 (-1) := ⟨_, rfl⟩
  obtain ⟨Y, hY⟩ := X0
  have oY : ∀ b, b ≠ 6 → Eqc S Y b := fun b h => by rw [hY]; exact (((Eqc_I h).tr (Eqc_I h)).tr (Eqc_I h)).tr (Eqc_I h)
  have hxY : TxC Y X L := ⟨fun i hi => by rw [(oY 5 (by decide)).2.2.2.1]; exact hx.1 i hi, by rw [(oY 7 (by decide)).2.2.2.2.1]; exact hx.2⟩
  obtain ⟨dn, S1, x3, x4, e1, t1, q1, l1, o1⟩ := readL (N := N) (X := X) (L := L) (K := fun (x2 : Int32) (x3 : Int32) (x4 : Int32) => (mb (f91 N 0 x2 0) fun _ => mret ())) hN hb (L + 1) 0 0 N (L + 1) [] Y (by omega) (by omega) (by omega) (by omega) (by omega) hxY ⟨by rw [hY]; simp [mG], fun j hj => absurd hj (by simp)⟩ (by simp) (fun t ht => by cases ht) (by simp [lastBad])
  obtain ⟨S2, e2, t2, o2⟩ := q91 (N := N) (S := S1) (dn := dn) (t := tEnd L) (ty := 0) (at' := Int32.ofNat L) (v := 0) t1 (by omega) rfl rfl ⟨fun q => absurd q (by show ¬ ((0 : Nat) = 3); decide), fun q => absurd q (by show ¬ ((0 : Nat) = 2 ∨ 100 ≤ 0); decide)⟩
  rw [q1] at t2
  have o3 := o1.tr o2
  refine ⟨S2, ?_, t2, by rw [o3.1 5 (by decide), hY]; simp [mG], by rw [o3.1 6 (by decide), hY]; simp [mG], by rw [o3.1 7 (by decide), hY]; simp [mG], fun b h1 h2 => (oY b h1).tr (o3.2 b h1 h2)⟩
  unfold f89
  simp only [mE, ← hY]
  refine e1.trans ?_
  simp only [mb, e2]
  rfl
end LX2
