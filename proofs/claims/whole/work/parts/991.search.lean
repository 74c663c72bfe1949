/-! the class's search for an order -/
theorem b_tst0 : ∀ t : Fin 256, ∀ p : Fin 8, decide (((Int32.ofNat t.1 >>> (Int32.ofNat p.1 &&& 31)) &&& 1) = 0) = !(Nat.testBit t.1 p.1) := by decide +kernel
theorem b_set0 : ∀ t : Fin 256, ∀ p : Fin 8, decide (Int32.ofNat t.1 ||| (1 <<< (Int32.ofNat p.1 &&& 31)) = Int32.ofNat (t.1 ||| 2 ^ p.1) ∧ t.1 ||| 2 ^ p.1 < 256) = true := by decide +kernel
theorem b_tst {t p : Nat} (ht : t < 256) (hp : p < 8) : (((Int32.ofNat t >>> (Int32.ofNat p &&& 31)) &&& 1) = 0) ↔ Nat.testBit t p = false := by
  have := b_tst0 ⟨t, ht⟩ ⟨p, hp⟩
  simp only at this
  cases hb : Nat.testBit t p with
  | true => rw [hb] at this; exact ⟨fun q => by rw [decide_eq_true q] at this; exact absurd this (by decide), fun q => by cases q⟩
  | false => rw [hb] at this; exact ⟨fun _ => rfl, fun _ => of_decide_eq_true this⟩
theorem b_set {t p : Nat} (ht : t < 256) (hp : p < 8) : Int32.ofNat t ||| (1 <<< (Int32.ofNat p &&& 31)) = Int32.ofNat (t ||| 2 ^ p) ∧ t ||| 2 ^ p < 256 := of_decide_eq_true (b_set0 ⟨t, ht⟩ ⟨p, hp⟩)
def TB (t : Nat) (l : Pl) : Prop := t < 256 ∧ ∀ p, p < 8 → (Nat.testBit t p = false ↔ fr l p = true)
theorem TB_set {P : PP} {t p : Nat} {l : Pl} (h : TB t l) (hp : p < 8) : TB (t ||| 2 ^ p) (stp P l p) := by
  refine ⟨(b_set h.1 hp).2, fun q hq => ?_⟩
  unfold stp
  rw [fr_cons, ← h.2 q hq, Nat.testBit_or, Nat.testBit_two_pow]
  cases Nat.testBit t q <;> simp
def begF : Pl → Nat → Int32
  | [], _ => 0
  | x :: l, p => if p = x.1 then Int32.ofNat x.2 else begF l p
def plF : Pl → Nat → Int32
  | [], p => Int32.ofNat p
  | x :: l, p => if p = x.1 then Int32.ofNat l.length else plF l p
def NDl : Pl → Prop
  | [] => True
  | x :: l => fr l x.1 = true ∧ NDl l
theorem begF_mem : ∀ {l : Pl} {x : Nat × Nat}, NDl l → x ∈ l → begF l x.1 = Int32.ofNat x.2 := by
  intro l
  induction l with
  | nil => intro x _ hx; cases hx
  | cons y l ih =>
    intro x hn hx
    unfold begF
    rcases List.mem_cons.mp hx with rfl | hx
    · rw [if_pos rfl]
    · have := fr_iff.1 hn.1 x hx
      rw [if_neg this]
      exact ih hn.2 hx
theorem nfr_mem {l : Pl} {p : Nat} (h : fr l p = false) : ∃ x ∈ l, x.1 = p := by
  by_cases hc : ∃ x ∈ l, x.1 = p
  · exact hc
  · have : fr l p = true := fr_iff.2 (fun x hx e => hc ⟨x, hx, e⟩)
    rw [h] at this; cases this
def PrC (S : ms_S) (P : PP) : Prop := ms_I S 64 6 = Int32.ofNat (pC P) ∧ ms_I S 64 5 = Int32.ofNat (pGp P) ∧ ∀ p, p < pC P → ms_A S 66 p = pNo P p ∧ ms_A S 67 p = Int32.ofNat (pRd P p) ∧ ms_A S 68 p = Int32.ofNat (pTh P p)
def TrC (S : ms_S) (l : Pl) : Prop := ∀ p, fr l p = false → ms_A S 71 p = begF l p ∧ ms_A S 72 p = plF l p
def BsC (S : ms_S) (P : PP) (st : Bs) : Prop := ms_I S 64 7 = Int32.ofNat st.1 ∧ st.1 ≤ 2147483647 ∧ ∀ p, p < pC P → ms_A S 69 p = begF st.2 p ∧ ms_A S 70 p = plF st.2 p
def offQ (S S1 : ms_S) : Prop := (∀ j, j ≠ 7 → ms_I S1 64 j = ms_I S 64 j) ∧ ∀ b, b ≠ 64 → ¬ (69 ≤ b ∧ b ≤ 72) → Eqc S S1 b
theorem offQ.rf {S : ms_S} : offQ S S := ⟨fun _ _ => rfl, fun _ _ _ => Eqc.rf⟩
theorem offQ.tr {S S1 S2 : ms_S} (h : offQ S S1) (k : offQ S1 S2) : offQ S S2 := ⟨fun j hj => (k.1 j hj).trans (h.1 j hj), fun b h1 h2 => (h.2 b h1 h2).tr (k.2 b h1 h2)⟩
theorem PrC_off {S S1 : ms_S} {P : PP} (h : PrC S P) (ho : offQ S S1) : PrC S1 P := by
  unfold PrC at *
  rw [ho.1 6 (by decide), ho.1 5 (by decide), (ho.2 66 (by decide) (by decide)).2.2.2.1, (ho.2 67 (by decide) (by decide)).2.2.2.1, (ho.2 68 (by decide) (by decide)).2.2.2.1]
  exact h
theorem mx32 {a b : Nat} (ha : a < 1000000) (hb : b < 1000000) : (if Int32.ofNat a < Int32.ofNat b then Int32.ofNat b else Int32.ofNat a) = Int32.ofNat (max a b) := by
  by_cases h : a < b
  · rw [if_pos ((ofN_lt (by omega) (by omega)).2 h), Nat.max_eq_right (by omega)]
  · rw [if_neg (fun q => h ((ofN_lt (by omega) (by omega)).1 q)), Nat.max_eq_left (by omega)]
theorem mx32s {a e t : Nat} (ha : a < 1000000) (he : e < 1000000) (ht : t < 1000000) : (if Int32.ofNat a < Int32.ofNat e - Int32.ofNat t then Int32.ofNat e - Int32.ofNat t else Int32.ofNat a) = Int32.ofNat (max a (e - t)) := by
  by_cases h : t ≤ e
  · rw [ofN_sub h, mx32 ha (by omega)]
  · have h2 : ¬ Int32.ofNat a < Int32.ofNat e - Int32.ofNat t := by
      have := i32_of a (by omega)
      have := i32_of e (by omega)
      have := i32_of t (by omega)
      grind
    rw [if_neg h2, Nat.max_eq_left (by omega)]
section SRC
variable {N : Nat} {S : ms_S} {P : PP}
theorem earL {t p w : Nat} {l : Pl} (hP : PB P) (pr : PrC S P) (nd : NDl l) (bd : Bd P l w) (hl : l.length ≤ 8) (tr : TrC S l) (tb : TB t l) (hp : p < pC P) : ∀ k i n v, k + i = pC P → k < n → (∀ z, v ≤ z ↔ pRd P p ≤ z ∧ ∀ x ∈ l, x.1 < i → need P x p ≤ z) → f66_L10 N (fun _ _ x3 _ => mret x3) n (Int32.ofNat p) (Int32.ofNat t) (Int32.ofNat v) (Int32.ofNat i) S = some (Int32.ofNat (ear P l p), S) := by
  have hc := hP.1
  obtain ⟨r6, r5, rA⟩ := pr
  have hear := ear_bd hP bd hp
  intro k
  induction k with
  | zero =>
    intro i n v hi hn hv
    obtain ⟨n, rfl⟩ : ∃ q, n = q + 1 := ⟨n - 1, by omega⟩
    have e : i = pC P := by omega
    subst e
    rw [f66_L10]
    simp only [mE, r6]
    rw [if_pos ((ofN_le (by omega) (by omega)).2 (Nat.le_refl _))]
    have e1 : v ≤ ear P l p := (hv _).2 ⟨ear_rd, fun x hx _ => (ear_le.1 (Nat.le_refl _)).2 x hx⟩
    have e2 : ear P l p ≤ v := ear_le.2 ⟨((hv v).1 (Nat.le_refl _)).1, fun x hx => ((hv v).1 (Nat.le_refl _)).2 x hx (bd.1 x hx).1⟩
    rw [Nat.le_antisymm e1 e2]
  | succ k ih =>
    intro i n v hi hn hv
    obtain ⟨n, rfl⟩ : ∃ q, n = q + 1 := ⟨n - 1, by omega⟩
    have hil : i < pC P := by omega
    have e1 : v ≤ ear P l p := (hv _).2 ⟨ear_rd, fun x hx _ => (ear_le.1 (Nat.le_refl _)).2 x hx⟩
    have hge : ¬ Int32.ofNat i ≥ Int32.ofNat (pC P) := fun q => by have := (ofN_le (i := pC P) (j := i) (by omega) (by omega)).1 q; omega
    have i1 : inR (Int32.ofNat i) 8 := ofN_inR (by omega) (by omega)
    have i2 := ofN_cl (i := i) (by omega)
    have j1 : inR (Int32.ofNat p) 8 := ofN_inR (by omega) (by omega)
    have j2 := ofN_cl (i := p) (by omega)
    rw [f66_L10]
    simp only [mE, r6, if_neg hge]
    by_cases hf : fr l i = true
    · rw [if_pos ((b_tst tb.1 (show i < 8 by omega)).2 ((tb.2 i (by omega)).2 hf)), ofN_s]
      refine ih (i + 1) n v (by omega) (by omega) (fun z => ?_)
      rw [hv z]
      refine ⟨fun h => ⟨h.1, fun x hx hlt => ?_⟩, fun h => ⟨h.1, fun x hx hlt => h.2 x hx (by omega)⟩⟩
      have := fr_iff.1 hf x hx
      exact h.2 x hx (by omega)
    · have hff : fr l i = false := by cases h : fr l i with | true => exact absurd h hf | false => rfl
      rw [if_neg (fun q => hf ((tb.2 i (by omega)).1 ((b_tst tb.1 (show i < 8 by omega)).1 q)))]
      obtain ⟨x, hx, hxi⟩ := nfr_mem hff
      obtain ⟨bx1, bx2⟩ := bd.1 x hx
      have a71 : ms_A S 71 i = Int32.ofNat x.2 := by rw [(tr i hff).1, ← hxi]; exact begF_mem nd hx
      obtain ⟨a66, a67, a68⟩ := rA i hil
      obtain ⟨p66, p67, p68⟩ := rA p hp
      have thi := (hP.2.2 i hil).2
      have thp := (hP.2.2 p hp).2
      have hgp := hP.2.1
      simp only [mE, i1, i2, a71, a68, a66, j1, j2, p66]
      have fin : ∀ y, y < 1000000 → y = need P x p → f66_L10 N (fun _ _ x3 _ => mret x3) n (Int32.ofNat p) (Int32.ofNat t) (if Int32.ofNat v < Int32.ofNat y then Int32.ofNat y else Int32.ofNat v) (Int32.ofNat (i + 1)) S = some (Int32.ofNat (ear P l p), S) := by
        intro y hy he
        rw [mx32 (by omega) hy]
        refine ih (i + 1) n _ (by omega) (by omega) (fun z => ?_)
        rw [Nat.max_le, hv z, he]
        refine ⟨fun h => ⟨h.1.1, fun x' hx' hlt => ?_⟩, fun h => ⟨⟨h.1, fun x' hx' hlt => h.2 x' hx' (by omega)⟩, h.2 x hx (by omega)⟩⟩
        by_cases he' : x'.1 = i
        · have q1 := begF_mem nd hx'
          have q2 := begF_mem nd hx
          rw [he'] at q1
          rw [hxi] at q2
          have := (bd.1 x' hx').2
          have q3 : x'.2 = x.2 := (ofN_eq (by omega) (by omega)).1 (q1.symm.trans q2)
          have q4 : x' = x := Prod.ext (he'.trans hxi.symm) q3
          rw [q4]
          exact h.2
        · exact h.1.2 x' hx' (by omega)
      by_cases hno : pNo P i = pNo P p
      · rw [if_neg (fun q => q hno), if_neg (by decide)]
        simp only [mE, i1, i2, a71, r5, j1, j2, p68, ofN_add]
        rw [mx32s (by omega) (by omega) (by omega), ofN_s]
        refine fin _ (by rw [Nat.max_def]; split <;> omega) ?_
        unfold need
        rw [hxi, if_pos hno]
      · rw [if_pos hno, if_pos trivial, ofN_add, ofN_s]
        refine fin _ (by omega) ?_
        unfold need
        rw [hxi, if_neg hno]
theorem q66 {t p w : Nat} {l : Pl} (hN : 20 ≤ N) (hP : PB P) (pr : PrC S P) (nd : NDl l) (bd : Bd P l w) (hl : l.length ≤ 8) (tr : TrC S l) (tb : TB t l) (hp : p < pC P) : f66 N (Int32.ofNat p) (Int32.ofNat t) S = some (Int32.ofNat (ear P l p), S) := by
  have hc := hP.1
  have j1 : inR (Int32.ofNat p) 8 := ofN_inR (by omega) (by omega)
  have j2 := ofN_cl (i := p) (by omega)
  unfold f66
  simp only [mE, j1, j2, (pr.2.2 p hp).2.1]
  exact earL hP pr nd bd hl tr tb hp (pC P) 0 N (pRd P p) (by omega) (by omega) (fun z => ⟨fun h => ⟨h, fun x _ hlt => absurd hlt (by omega)⟩, fun h => h.1⟩)
theorem lst_bd {w : Nat} {l : Pl} (hP : PB P) (bd : Bd P l w) (hl : l.length ≤ 8) : ∀ i, i ≤ pC P → lst P l i ≤ 5000 * i := by
  intro i
  induction i with
  | zero => intro _; simp [lst]
  | succ i ih =>
    intro hi
    have := ih (by omega)
    have := ear_bd hP bd (show i < pC P by omega)
    unfold lst
    split <;> omega
theorem q65 {t w : Nat} {l : Pl} (hN : 20 ≤ N) (hP : PB P) (pr : PrC S P) (nd : NDl l) (bd : Bd P l w) (hl : l.length ≤ 8) (tr : TrC S l) (tb : TB t l) : f65 N (Int32.ofNat t) S = some (Int32.ofNat (lst P l (pC P)), S) := by
  have hc := hP.1
  have L : ∀ k i n, k + i = pC P → k < n → f65_L4 N (fun _ x2 _ => mret x2) n (Int32.ofNat t) (Int32.ofNat (lst P l i)) (Int32.ofNat i) S = some (Int32.ofNat (lst P l (pC P)), S) := by
    intro k
    induction k with
    | zero =>
      intro i n hi hn
      obtain ⟨n, rfl⟩ : ∃ q, n = q + 1 := ⟨n - 1, by omega⟩
      have e : i = pC P := by omega
      subst e
      rw [f65_L4]
      simp only [mE, pr.1]
      rw [if_pos ((ofN_le (by omega) (by omega)).2 (Nat.le_refl _))]
    | succ k ih =>
      intro i n hi hn
      obtain ⟨n, rfl⟩ : ∃ q, n = q + 1 := ⟨n - 1, by omega⟩
      have hil : i < pC P := by omega
      have hge : ¬ Int32.ofNat i ≥ Int32.ofNat (pC P) := fun q => by have := (ofN_le (i := pC P) (j := i) (by omega) (by omega)).1 q; omega
      have i1 : inR (Int32.ofNat i) 8 := ofN_inR (by omega) (by omega)
      have i2 := ofN_cl (i := i) (by omega)
      have nx := ih (i + 1) n (by omega) (by omega)
      rw [show lst P l (i + 1) = lst P l i + (if fr l i = true then ear P l i - pRd P i else 0) from rfl] at nx
      rw [f65_L4]
      simp only [mE, pr.1, if_neg hge]
      by_cases hf : fr l i = true
      · rw [if_neg (fun q => q ((b_tst tb.1 (show i < 8 by omega)).2 ((tb.2 i (by omega)).2 hf)))]
        have m66 : ∀ {β : Type} {f' : Int32 → mM β}, mb (f66 N (Int32.ofNat i) (Int32.ofNat t)) f' S = f' (Int32.ofNat (ear P l i)) S := by intro β f'; simp only [mb, q66 hN hP pr nd bd hl tr tb hil]
        rw [m66]
        simp only [mE, i1, i2, (pr.2.2 i hil).2.1]
        rw [if_pos hf] at nx
        rw [ofN_sub ear_rd, ofN_add, ofN_s]
        exact nx
      · rw [if_pos (fun q => hf ((tb.2 i (by omega)).1 ((b_tst tb.1 (show i < 8 by omega)).1 q))), ofN_s]
        rw [if_neg hf] at nx
        exact nx
  exact L (pC P) 0 N (by omega) (by omega)
theorem q67 {t p : Nat} {l : Pl} (hN : 20 ≤ N) (hP : PB P) (pr : PrC S P) (tb : TB t l) (hp : p < pC P) : (f67 N (Int32.ofNat p) (Int32.ofNat t) S = some (1, S) ∧ ∃ q, q < p ∧ fr l q = true ∧ alk P p q) ∨ f67 N (Int32.ofNat p) (Int32.ofNat t) S = some (0, S) := by
  have hc := hP.1
  have j1 : inR (Int32.ofNat p) 8 := ofN_inR (by omega) (by omega)
  have j2 := ofN_cl (i := p) (by omega)
  obtain ⟨p66, p67, p68⟩ := pr.2.2 p hp
  have L : ∀ k i n, k + i = p → k < n → (f67_L2 N (fun _ _ _ _ => mretZ 1) (fun _ _ _ => mretZ 0) n (Int32.ofNat p) (Int32.ofNat t) (Int32.ofNat i) S = some (1, S) ∧ ∃ q, q < p ∧ fr l q = true ∧ alk P p q) ∨ f67_L2 N (fun _ _ _ _ => mretZ 1) (fun _ _ _ => mretZ 0) n (Int32.ofNat p) (Int32.ofNat t) (Int32.ofNat i) S = some (0, S) := by
    intro k
    induction k with
    | zero =>
      intro i n hi hn
      obtain ⟨n, rfl⟩ : ∃ q, n = q + 1 := ⟨n - 1, by omega⟩
      have e : i = p := by omega
      subst e
      right
      rw [f67_L2, if_pos ((ofN_le (by omega) (by omega)).2 (Nat.le_refl _))]
      simp only [mE, true_or]
    | succ k ih =>
      intro i n hi hn
      obtain ⟨n, rfl⟩ : ∃ q, n = q + 1 := ⟨n - 1, by omega⟩
      have hil : i < pC P := by omega
      have hge : ¬ Int32.ofNat i ≥ Int32.ofNat p := fun q => by have := (ofN_le (i := p) (j := i) (by omega) (by omega)).1 q; omega
      have i1 : inR (Int32.ofNat i) 8 := ofN_inR (by omega) (by omega)
      have i2 := ofN_cl (i := i) (by omega)
      have nx := ih (i + 1) n (by omega) (by omega)
      obtain ⟨a66, a67, a68⟩ := pr.2.2 i hil
      have r1 := (hP.2.2 i hil)
      have r2 := (hP.2.2 p hp)
      rw [f67_L2]
      simp only [mE, if_neg hge]
      by_cases hf : fr l i = true
      · rw [if_neg (fun q => q ((b_tst tb.1 (show i < 8 by omega)).2 ((tb.2 i (by omega)).2 hf))), if_neg (by decide)]
        simp only [mE, i1, i2, a66, j1, j2, p66]
        by_cases h1 : pNo P i = pNo P p
        · rw [if_neg (fun q => q h1)]
          simp only [mE, i1, i2, a67, j1, j2, p67]
          by_cases h2 : pRd P i = pRd P p
          · rw [if_neg (fun q => q (by rw [h2]))]
            simp only [mE, i1, i2, a68, j1, j2, p68]
            by_cases h3 : pTh P i = pTh P p
            · rw [if_neg (fun q => q (by rw [h3]))]
              left
              exact ⟨by simp only [mE, or_true], i, by omega, hf, h1, h2, h3⟩
            · rw [if_pos (fun q => h3 ((ofN_eq (by omega) (by omega)).1 q)), ofN_s]
              exact nx
          · rw [if_pos (fun q => h2 ((ofN_eq (by omega) (by omega)).1 q)), ofN_s]
            exact nx
        · rw [if_pos h1, ofN_s]
          exact nx
      · rw [if_pos (fun q => hf ((tb.2 i (by omega)).1 ((b_tst tb.1 (show i < 8 by omega)).1 q))), if_pos trivial, ofN_s]
        exact nx
  exact L p 0 N (by omega) (by omega)
theorem q64 {w : Nat} {l : Pl} (hN : 20 ≤ N) (hP : PB P) (pr : PrC S P) (tr : TrC S l) (hall : ∀ p, p < pC P → fr l p = false) (hw : w ≤ 2147483647) : ∃ S1, f64 N (Int32.ofNat w) S = some ((), S1) ∧ BsC S1 P (w, l) ∧ TrC S1 l ∧ offQ S S1 := by
  have hc := hP.1
  have L : ∀ k i n (S' : ms_S), k + i = pC P → k < n → ms_I S' 64 6 = Int32.ofNat (pC P) → ms_A S' 71 = ms_A S 71 → ms_A S' 72 = ms_A S 72 → (∀ p, p < i → ms_A S' 69 p = begF l p ∧ ms_A S' 70 p = plF l p) → ∃ S1, f64_L7 N (fun _ _ => mret ()) n (Int32.ofNat w) (Int32.ofNat i) S' = some ((), S1) ∧ (∀ p, p < pC P → ms_A S1 69 p = begF l p ∧ ms_A S1 70 p = plF l p) ∧ ∀ b, b ≠ 69 → b ≠ 70 → Eqc S' S1 b := by
    intro k
    induction k with
    | zero =>
      intro i n S' hi hn h6 h71 h72 hd
      obtain ⟨n, rfl⟩ : ∃ q, n = q + 1 := ⟨n - 1, by omega⟩
      have e : i = pC P := by omega
      subst e
      refine ⟨S', ?_, hd, fun _ _ _ => Eqc.rf⟩
      rw [f64_L7]
      simp only [mE, h6]
      rw [if_pos ((ofN_le (by omega) (by omega)).2 (Nat.le_refl _))]
    | succ k ih =>
      intro i n S' hi hn h6 h71 h72 hd
      obtain ⟨n, rfl⟩ : ∃ q, n = q + 1 := ⟨n - 1, by omega⟩
      have hil : i < pC P := by omega
      have hge : ¬ Int32.ofNat i ≥ Int32.ofNat (pC P) := fun q => by have := (ofN_le (i := pC P) (j := i) (by omega) (by omega)).1 q; omega
      have i1 : inR (Int32.ofNat i) 8 := ofN_inR (by omega) (by omega)
      have i2 := ofN_cl (i := i) (by omega)
      obtain ⟨t1, t2⟩ := tr i (hall i hil)
      have a71 : ms_A S' 71 i = begF l i := by rw [h71]; exact t1
      have a72 : ms_A (ms_setA S' 69 i (begF l i)) 72 i = plF l i := by rw [(Eqc_A (by decide)).2.2.2.1, h72]; exact t2
      rw [f64_L7]
      simp only [mE, h6, if_neg hge, i1, i2, a71, a72, ofN_s]
      obtain ⟨S1, e1, d1, o1⟩ := ih (i + 1) n (ms_setA (ms_setA S' 69 i (begF l i)) 70 i (plF l i)) (by omega) (by omega) (by simp only [mGo]; exact h6) (by rw [(Eqc_A (by decide)).2.2.2.1, (Eqc_A (by decide)).2.2.2.1]; exact h71) (by rw [(Eqc_A (by decide)).2.2.2.1, (Eqc_A (by decide)).2.2.2.1]; exact h72) (fun p hp => by
        simp only [mG, true_and, show ¬ ((69 : Nat) = 70) by decide, show ¬ ((70 : Nat) = 69) by decide, false_and, if_false]
        by_cases e : p = i
        · subst e; rw [if_pos rfl, if_pos rfl]; exact ⟨rfl, rfl⟩
        · rw [if_neg e, if_neg e]; exact hd p (by omega))
      exact ⟨S1, e1, d1, fun b h1 h2 => ((Eqc_A h1).tr (Eqc_A h2)).tr (o1 b h1 h2)⟩
  obtain ⟨S1, e1, d1, o1⟩ := L (pC P) 0 N (ms_setI S 64 7 (Int32.ofNat w)) (by omega) (by omega) (by simp [mG]; exact pr.1) (by simp only [mGo]) (by simp only [mGo]) (fun p hp => absurd hp (by omega))
  refine ⟨S1, e1, ⟨by rw [(o1 64 (by decide) (by decide)).1]; simp [mG], hw, d1⟩, fun p hp => ?_, ⟨fun j hj => ?_, fun b h1 h2 => (Eqc_I h1).tr (o1 b (by omega) (by omega))⟩⟩
  · rw [(o1 71 (by decide) (by decide)).2.2.2.1, (o1 72 (by decide) (by decide)).2.2.2.1]
    simp only [mGo]
    exact tr p hp
  · rw [(o1 64 (by decide) (by decide)).1]
    simp only [mG, true_and, if_neg hj]
end SRC
