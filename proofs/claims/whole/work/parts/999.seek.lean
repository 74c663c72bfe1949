/-! the reference's search for an order -/
def PrM (S : ms_S) (P : PP) : Prop := ms_I S 131 90 = Int32.ofNat (pC P) ∧ ms_I S 131 94 = Int32.ofNat (pGp P) ∧ ∀ p, p < pC P → ms_A S 188 p = pNo P p ∧ ms_A S 181 p = Int32.ofNat (pRd P p) ∧ ms_A S 182 p = Int32.ofNat (pTh P p)
def OrM (S : ms_S) : Pl → Prop
  | [] => True
  | x :: l => ms_A S 185 l.length = Int32.ofNat x.1 ∧ ms_A S 186 l.length = Int32.ofNat x.2 ∧ OrM S l
def UsM (S : ms_S) (P : PP) (l : Pl) : Prop := ∀ p, p < pC P → ms_A S 189 p = if fr l p = true then 0 else 1
def BsM (S : ms_S) (P : PP) (st : Bs) : Prop := ms_I S 131 91 = Int32.ofNat st.1 ∧ st.1 ≤ 1000000 ∧ ∀ p, p < pC P → ms_A S 183 p = begF st.2 p ∧ ms_A S 184 p = plF st.2 p
def offSk (S S1 : ms_S) : Prop := (∀ j, j ≠ 91 → ms_I S1 131 j = ms_I S 131 j) ∧ ∀ b, b ≠ 131 → ¬ (183 ≤ b ∧ b ≤ 186) → b ≠ 189 → Eqc S S1 b
theorem offSk.rf {S : ms_S} : offSk S S := ⟨fun _ _ => rfl, fun _ _ _ _ => Eqc.rf⟩
theorem offSk.tr {S S1 S2 : ms_S} (h : offSk S S1) (k : offSk S1 S2) : offSk S S2 := ⟨fun j hj => (k.1 j hj).trans (h.1 j hj), fun b h1 h2 h3 => (h.2 b h1 h2 h3).tr (k.2 b h1 h2 h3)⟩
theorem PrM_off {S S1 : ms_S} {P : PP} (h : PrM S P) (ho : offSk S S1) : PrM S1 P := by
  unfold PrM at *
  rw [ho.1 90 (by decide), ho.1 94 (by decide), (ho.2 181 (by decide) (by decide) (by decide)).2.2.2.1, (ho.2 182 (by decide) (by decide) (by decide)).2.2.2.1, (ho.2 188 (by decide) (by decide) (by decide)).2.2.2.1]
  exact h
theorem OrM_fr {S S1 : ms_S} : ∀ {l : Pl}, OrM S l → (∀ j, j < l.length → ms_A S1 185 j = ms_A S 185 j ∧ ms_A S1 186 j = ms_A S 186 j) → OrM S1 l := by
  intro l
  induction l with
  | nil => intro _ _; exact True.intro
  | cons x l ih =>
    intro h hj
    have := hj l.length (by simp)
    exact ⟨by rw [this.1]; exact h.1, by rw [this.2]; exact h.2.1, ih h.2.2 (fun j hl => hj j (by simp; omega))⟩
theorem OrM_drop {S : ms_S} : ∀ (k : Nat) {l : Pl}, OrM S l → OrM S (l.drop k) := by
  intro k
  induction k with
  | zero => intro l h; exact h
  | succ k ih =>
    intro l h
    cases l with
    | nil => exact h
    | cons x l => exact ih h.2.2
theorem mx32t {a e t : Nat} (ha : a < 1000000) (he : e < 1000000) (ht : t < 1000000) : (if Int32.ofNat a ≤ Int32.ofNat e - Int32.ofNat t then Int32.ofNat e - Int32.ofNat t else Int32.ofNat a) = Int32.ofNat (max a (e - t)) := by
  by_cases h : t ≤ e
  · rw [ofN_sub h]
    by_cases h2 : a ≤ e - t
    · rw [if_pos ((ofN_le (by omega) (by omega)).2 h2), Nat.max_eq_right (by omega)]
    · rw [if_neg (fun q => h2 ((ofN_le (by omega) (by omega)).1 q)), Nat.max_eq_left (by omega)]
  · have h2 : ¬ Int32.ofNat a ≤ Int32.ofNat e - Int32.ofNat t := by
      have := i32_of a (by omega)
      have := i32_of e (by omega)
      have := i32_of t (by omega)
      grind
    rw [if_neg h2, Nat.max_eq_left (by omega)]
theorem drop_ex {l : Pl} {k i : Nat} (h : k + 1 + i = l.length) : ∃ x r, l.drop k = x :: r ∧ l.drop (k + 1) = r ∧ r.length = i ∧ x ∈ l := by
  have hk : k < l.length := by omega
  refine ⟨l[k], l.drop (k + 1), List.drop_eq_getElem_cons hk, rfl, by rw [List.length_drop]; omega, List.getElem_mem hk⟩
section SEK
variable {N : Nat} {P : PP}
theorem earM {S : ms_S} {l : Pl} {w p : Nat} (hP : PB P) (pr : PrM S P) (orr : OrM S l) (bd : Bd P l w) (hl : l.length < 8) (hp : p < pC P) : ∀ k i n, k + i = l.length → k < n → f236_L17 N (fun (x1 : Int32) (x2 : Int32) (x3 : Int32) (x4 : Int32) => (mret x3)) n (Int32.ofNat l.length) (Int32.ofNat p) (Int32.ofNat (ear P (l.drop k) p)) (Int32.ofNat i) S = some (Int32.ofNat (ear P l p), S) := by
  have hc := hP.1
  obtain ⟨r90, r94, rA⟩ := pr
  have hear := ear_bd hP bd hp
  have j1 : inR (Int32.ofNat p) 8 := ofN_inR (by omega) (by omega)
  have j2 := ofN_cl (i := p) (by omega)
  obtain ⟨p188, p181, p182⟩ := rA p hp
  have thp := (hP.2.2 p hp).2
  have hgp := hP.2.1
  intro k
  induction k with
  | zero =>
    intro i n hi hn
    obtain ⟨n, rfl⟩ : ∃ q, n = q + 1 := ⟨n - 1, by omega⟩
    have e : i = l.length := by omega
    subst e
    rw [f236_L17, if_pos ((ofN_le (by omega) (by omega)).2 (Nat.le_refl _))]
    rfl
  | succ k ih =>
    intro i n hi hn
    obtain ⟨n, rfl⟩ : ∃ q, n = q + 1 := ⟨n - 1, by omega⟩
    have nx := ih (i + 1) n (by omega) (by omega)
    obtain ⟨x, r, d1, d2, hr, hx⟩ := drop_ex (l := l) (k := k) (i := i) (by omega)
    have o2 := OrM_drop (S := S) k orr
    rw [d1] at o2 nx
    rw [d2]
    obtain ⟨a185, a186, _⟩ := o2
    rw [hr] at a185 a186
    obtain ⟨bx1, bx2⟩ := bd.1 x hx
    have thx := (hP.2.2 x.1 bx1).2
    have her : ear P r p ≤ ear P l p := by
      rw [ear_le]
      refine ⟨ear_rd, fun y hy => (ear_le.1 (Nat.le_refl _)).2 y ?_⟩
      have : y ∈ l.drop k := by rw [d1]; simp [hy]
      exact List.mem_of_mem_drop this
    have i1 : inR (Int32.ofNat i) 8 := ofN_inR (by omega) (by omega)
    have i2 := ofN_cl (i := i) (by omega)
    have x1 : inR (Int32.ofNat x.1) 8 := ofN_inR (by omega) (by omega)
    have x2 := ofN_cl (i := x.1) (by omega)
    obtain ⟨x188, x181, x182⟩ := rA x.1 bx1
    have fin : ∀ y, y < 1000000 → y = need P x p → (if Int32.ofNat y ≤ Int32.ofNat (ear P r p) then f236_L17 N (fun (x1 : Int32) (x2 : Int32) (x3 : Int32) (x4 : Int32) => (mret x3)) n (Int32.ofNat l.length) (Int32.ofNat p) (Int32.ofNat (ear P r p)) (Int32.ofNat i + 1) S else f236_L17 N (fun (x1 : Int32) (x2 : Int32) (x3 : Int32) (x4 : Int32) => (mret x3)) n (Int32.ofNat l.length) (Int32.ofNat p) (Int32.ofNat y) (Int32.ofNat i + 1) S) = some (Int32.ofNat (ear P l p), S) := by
      intro y hy he
      rw [ofN_s]
      rw [show ear P (x :: r) p = max (need P x p) (ear P r p) from rfl, ← he] at nx
      by_cases hle : y ≤ ear P r p
      · rw [if_pos ((ofN_le (by omega) (by omega)).2 hle)]
        rw [Nat.max_eq_right hle] at nx
        exact nx
      · rw [if_neg (fun q => hle ((ofN_le (by omega) (by omega)).1 q))]
        rw [Nat.max_eq_left (by omega)] at nx
        exact nx
    rw [f236_L17, if_neg (fun q => by have := (ofN_le (i := l.length) (j := i) (by omega) (by omega)).1 q; omega)]
    simp only [mE, i1, i2, a185, a186, x1, x2, x182, x188, j1, j2, p188]
    by_cases hno : pNo P x.1 = pNo P p
    · rw [if_pos hno]
      simp only [mE, i1, i2, a186, r94, j1, j2, p182, ofN_add]
      have hm := mx32t (a := x.2 + pGp P) (e := x.2 + pTh P x.1) (t := pTh P p) (by omega) (by omega) (by omega)
      have f3 := fin (max (x.2 + pGp P) (x.2 + pTh P x.1 - pTh P p)) (by rw [Nat.max_def]; split <;> omega) (by unfold need; rw [if_pos hno])
      by_cases hq : Int32.ofNat (x.2 + pGp P) ≤ Int32.ofNat (x.2 + pTh P x.1) - Int32.ofNat (pTh P p)
      · rw [if_pos hq] at hm ⊢
        rw [hm]
        exact f3
      · rw [if_neg hq] at hm ⊢
        rw [hm]
        exact f3
    · rw [if_neg hno, ofN_add]
      exact fin _ (by omega) (by unfold need; rw [if_neg hno])
theorem q236 {S : ms_S} {l : Pl} {w p : Nat} (hN : 20 ≤ N) (hP : PB P) (pr : PrM S P) (orr : OrM S l) (bd : Bd P l w) (hl : l.length < 8) (hp : p < pC P) (h185 : ms_A S 185 l.length = Int32.ofNat p) : f236 N (Int32.ofNat l.length) S = some (Int32.ofNat (ear P l p), S) := by
  have hc := hP.1
  have i1 : inR (Int32.ofNat l.length) 8 := ofN_inR (by omega) (by omega)
  have i2 := ofN_cl (i := l.length) (by omega)
  have j1 : inR (Int32.ofNat p) 8 := ofN_inR (by omega) (by omega)
  have j2 := ofN_cl (i := p) (by omega)
  have := earM (N := N) hP pr orr bd hl hp l.length 0 N (by omega) (by omega)
  rw [List.drop_length] at this
  unfold f236
  simp only [mE, i1, i2, h185, j1, j2, (pr.2.2 p hp).2.1]
  exact this
theorem whL {S0 : ms_S} {l : Pl} {x1 x2 x3 x5 : Int32} {z : Nat} (hP : PB P) (hz : z < 8) (h90 : ms_I S0 131 90 = Int32.ofNat (pC P)) (us : UsM S0 P l) : ∀ k i n (S : ms_S), k + i = pC P → k < n → (∀ b, b ≠ 185 → Eqc S0 S b) → ms_A S 185 z = Int32.ofNat i → ∃ p S1, i ≤ p ∧ p ≤ pC P ∧ (∀ q, i ≤ q → q < p → fr l q = false) ∧ (p < pC P → fr l p = true) ∧ (∀ K, f237_L154 N K n x1 x2 x3 (Int32.ofNat z) x5 S = K x1 x2 x3 (Int32.ofNat z) x5 S1) ∧ ms_A S1 185 z = Int32.ofNat p ∧ (∀ q, q ≠ z → ms_A S1 185 q = ms_A S 185 q) ∧ ∀ b, b ≠ 185 → Eqc S0 S1 b := by
  have hc := hP.1
  have z1 : inR (Int32.ofNat z) 8 := ofN_inR (by omega) (by omega)
  have z2 := ofN_cl (i := z) (by omega)
  intro k
  induction k with
  | zero =>
    intro i n S hi hn hE h185
    obtain ⟨n, rfl⟩ : ∃ q, n = q + 1 := ⟨n - 1, by omega⟩
    refine ⟨i, S, Nat.le_refl _, by omega, fun q h1 h2 => absurd h2 (by omega), fun h => absurd h (by omega), fun K => ?_, h185, fun _ _ => rfl, hE⟩
    rw [f237_L154]
    simp only [mE, z1, z2, h185, (hE 131 (by decide)).1, h90]
    rw [if_pos ((ofN_le (by omega) (by omega)).2 (by omega))]
  | succ k ih =>
    intro i n S hi hn hE h185
    obtain ⟨n, rfl⟩ : ∃ q, n = q + 1 := ⟨n - 1, by omega⟩
    have hil : i < pC P := by omega
    have i1 : inR (Int32.ofNat i) 8 := ofN_inR (by omega) (by omega)
    have i2 := ofN_cl (i := i) (by omega)
    have hge : ¬ Int32.ofNat i ≥ Int32.ofNat (pC P) := fun q => by have := (ofN_le (i := pC P) (j := i) (by omega) (by omega)).1 q; omega
    have a189 : ms_A S 189 i = if fr l i = true then 0 else 1 := by rw [(hE 189 (by decide)).2.2.2.1]; exact us i hil
    have st : ∀ K, f237_L154 N K (n + 1) x1 x2 x3 (Int32.ofNat z) x5 S = if (if fr l i = true then (0 : Int32) else 1) = 0 then K x1 x2 x3 (Int32.ofNat z) x5 S else f237_L154 N K n x1 x2 x3 (Int32.ofNat z) x5 (ms_setA S 185 z (Int32.ofNat i + 1)) := by
      intro K
      rw [f237_L154]
      simp only [mE, z1, z2, h185, (hE 131 (by decide)).1, h90, if_neg hge, i1, i2, a189]
    by_cases hf : fr l i = true
    · refine ⟨i, S, Nat.le_refl _, by omega, fun q h1 h2 => absurd h2 (by omega), fun _ => hf, fun K => ?_, h185, fun _ _ => rfl, hE⟩
      rw [st, if_pos hf, if_pos rfl]
    · rw [if_neg hf, ofN_s] at st
      have hff : fr l i = false := by cases h : fr l i with | true => exact absurd h hf | false => rfl
      obtain ⟨p, S1, r1, r2, r3, r4, e1, t1, t2, o1⟩ := ih (i + 1) n (ms_setA S 185 z (Int32.ofNat (i + 1))) (by omega) (by omega) (fun b hb => (hE b hb).tr (Eqc_A hb)) (by simp [mG])
      refine ⟨p, S1, by omega, r2, fun q h1 h2 => ?_, r4, fun K => by rw [st, if_neg (by decide)]; exact e1 K, t1, fun q hq => ?_, o1⟩
      · by_cases e : q = i
        · subst e; exact hff
        · exact r3 q (by omega) h2
      · rw [t2 q hq]; simp [mG, hq]
theorem recL {x1 x2 x3 x4 x5 x6 : Int32} {S0 : ms_S} {l : Pl} {w : Nat} (hP : PB P) (pr : PrM S0 P) (orr : OrM S0 l) (bd : Bd P l w) (hl : l.length = pC P) : ∀ k i n (S : ms_S), k + i = l.length → k < n → (∀ b, b ≠ 183 → b ≠ 184 → Eqc S0 S b) → (∀ q, fr (l.drop k) q = false → ms_A S 183 q = begF (l.drop k) q ∧ ms_A S 184 q = plF (l.drop k) q) → ∃ S1, (∀ K, f237_L318 N K n x1 x2 x3 x4 x5 x6 (Int32.ofNat i) S = K x1 x2 x3 x4 x5 x6 (Int32.ofNat (pC P)) S1) ∧ (∀ q, fr l q = false → ms_A S1 183 q = begF l q ∧ ms_A S1 184 q = plF l q) ∧ ∀ b, b ≠ 183 → b ≠ 184 → Eqc S0 S1 b := by
  have hc := hP.1
  intro k
  induction k with
  | zero =>
    intro i n S hi hn hE hd
    obtain ⟨n, rfl⟩ : ∃ q, n = q + 1 := ⟨n - 1, by omega⟩
    have e : i = pC P := by omega
    subst e
    refine ⟨S, fun K => ?_, hd, hE⟩
    rw [f237_L318]
    simp only [mE, (hE 131 (by decide) (by decide)).1, pr.1]
    rw [if_pos ((ofN_le (by omega) (by omega)).2 (Nat.le_refl _))]
  | succ k ih =>
    intro i n S hi hn hE hd
    obtain ⟨n, rfl⟩ : ∃ q, n = q + 1 := ⟨n - 1, by omega⟩
    obtain ⟨x, r, d1, d2, hr, hx⟩ := drop_ex (l := l) (k := k) (i := i) (by omega)
    have o2 := OrM_drop (S := S0) k orr
    rw [d1] at o2
    rw [d2] at hd
    obtain ⟨a185, a186, _⟩ := o2
    rw [hr] at a185 a186
    obtain ⟨bx1, bx2⟩ := bd.1 x hx
    have i1 : inR (Int32.ofNat i) 8 := ofN_inR (by omega) (by omega)
    have i2 := ofN_cl (i := i) (by omega)
    have j1 : inR (Int32.ofNat x.1) 8 := ofN_inR (by omega) (by omega)
    have j2 := ofN_cl (i := x.1) (by omega)
    have b185 : ms_A S 185 i = Int32.ofNat x.1 := by rw [(hE 185 (by decide) (by decide)).2.2.2.1]; exact a185
    have c185 : ms_A (ms_setA S 184 x.1 (Int32.ofNat i)) 185 i = Int32.ofNat x.1 := by rw [(Eqc_A (by decide)).2.2.2.1]; exact b185
    have c186 : ms_A (ms_setA S 184 x.1 (Int32.ofNat i)) 186 i = Int32.ofNat x.2 := by rw [(Eqc_A (by decide)).2.2.2.1, (hE 186 (by decide) (by decide)).2.2.2.1]; exact a186
    obtain ⟨S1, e1, r1, o1⟩ := ih (i + 1) n (ms_setA (ms_setA S 184 x.1 (Int32.ofNat i)) 183 x.1 (Int32.ofNat x.2)) (by omega) (by omega) (fun b h1 h2 => ((hE b h1 h2).tr (Eqc_A h2)).tr (Eqc_A h1)) (by
      rw [d1]
      intro q hq
      unfold begF plF
      simp only [mG, true_and, show ¬ ((183 : Nat) = 184) by decide, show ¬ ((184 : Nat) = 183) by decide, false_and, if_false]
      by_cases e : q = x.1
      · rw [if_pos e, if_pos e, if_pos e, if_pos e, hr]; exact ⟨rfl, rfl⟩
      · rw [if_neg e, if_neg e, if_neg e, if_neg e]
        refine hd q ?_
        cases h : fr r q with
        | false => rfl
        | true => have := (fr_cons (x := x) (l := r) (p := q)).2 ⟨fun q' => e q'.symm, h⟩; rw [hq] at this; cases this)
    refine ⟨S1, fun K => ?_, r1, o1⟩
    rw [f237_L318]
    simp only [mE, (hE 131 (by decide) (by decide)).1, pr.1]
    rw [if_neg (fun q => by have := (ofN_le (i := pC P) (j := i) (by omega) (by omega)).1 q; omega)]
    simp only [mE, i1, i2, b185, j1, j2, c185, c186, ofN_s]
    exact e1 K
end SEK
