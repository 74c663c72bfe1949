/-! the class's search, whole -/
section SR2
variable {N : Nat} {P : PP}
theorem TrC_stp {S S1 : ms_S} {l : Pl} {p : Nat} (tr : TrC S l) (hf : fr l p = true) (h71 : ∀ q, ms_A S1 71 q = if q = p then Int32.ofNat (ear P l p) else ms_A S 71 q) (h72 : ∀ q, ms_A S1 72 q = if q = p then Int32.ofNat l.length else ms_A S 72 q) : TrC S1 (stp P l p) := by
  intro q hq
  unfold stp at *
  unfold begF plF
  rw [h71, h72]
  by_cases e : q = p
  · rw [if_pos e, if_pos e, if_pos e, if_pos e]; exact ⟨rfl, rfl⟩
  · rw [if_neg e, if_neg e, if_neg e, if_neg e]
    refine tr q ?_
    cases h : fr l q with
    | false => rfl
    | true => have := (fr_cons (x := (p, ear P l p)) (l := l) (p := q)).2 ⟨fun q' => e q'.symm, h⟩; rw [hq] at this; cases this
theorem TrC_tail {S : ms_S} {l : Pl} {p : Nat} (hf : fr l p = true) (tr : TrC S (stp P l p)) : TrC S l := by
  intro q hq
  have e : q ≠ p := fun e => by subst e; rw [hf] at hq; cases hq
  have h1 : fr (stp P l p) q = false := by
    cases h : fr (stp P l p) q with
    | false => rfl
    | true => have := (fr_cons.1 h).2; rw [hq] at this; cases this
  have := tr q h1
  unfold stp begF plF at this
  rw [if_neg e, if_neg e] at this
  exact this
def SE63 (N m : Nat) (P : PP) : Prop := ∀ (l : Pl) (w t n : Nat) (st : Bs) (S : ms_S), m < n → l.length + m = pC P → nfr l (pC P) = m → NDl l → Bd P l w → TB t l → PrC S P → TrC S l → BsC S P st → ∃ S1, f63 N n (Int32.ofNat l.length) (Int32.ofNat t) (Int32.ofNat w) S = some ((), S1) ∧ BsC S1 P (node P m l w st) ∧ TrC S1 l ∧ offQ S S1
set_option maxHeartbeats 1000000 in
theorem srchL {m : Nat} (hN : 20 ≤ N) (hP : PB P) (ih : SE63 N m P) {l : Pl} {w t n0 : Nat} (hn0 : m < n0) (hl : l.length + (m + 1) = pC P) (hf : nfr l (pC P) = m + 1) (nd : NDl l) (bd : Bd P l w) (tb : TB t l) {K : Int32 → Int32 → Int32 → Int32 → mM Unit} : ∀ k i n (st : Bs) (S : ms_S), k + i = pC P → k < n → PrC S P → TrC S l → BsC S P st → (∀ q, q < i → fr l q = true → ∀ W, Cmp P m (stp P l q) (wai P l w q) W → st.1 ≤ W) → ∃ S1, f63_L32 N (f63 N n0) K n (Int32.ofNat l.length) (Int32.ofNat t) (Int32.ofNat w) (Int32.ofNat i) S = K (Int32.ofNat l.length) (Int32.ofNat t) (Int32.ofNat w) (Int32.ofNat (pC P)) S1 ∧ BsC S1 P ((List.range' i k).foldl (brn P m l w) st) ∧ TrC S1 l ∧ offQ S S1 := by
  have hc := hP.1
  intro k
  induction k with
  | zero =>
    intro i n st S hi hn pr tr bs hq
    obtain ⟨n, rfl⟩ : ∃ q, n = q + 1 := ⟨n - 1, by omega⟩
    have e : i = pC P := by omega
    subst e
    refine ⟨S, ?_, bs, tr, offQ.rf⟩
    rw [f63_L32]
    simp only [mE, pr.1]
    rw [if_pos ((ofN_le (by omega) (by omega)).2 (Nat.le_refl _))]
  | succ k ihk =>
    intro i n st S hi hn pr tr bs hq
    obtain ⟨n, rfl⟩ : ∃ q, n = q + 1 := ⟨n - 1, by omega⟩
    have hil : i < pC P := by omega
    have hge : ¬ Int32.ofNat i ≥ Int32.ofNat (pC P) := fun q => by have := (ofN_le (i := pC P) (j := i) (by omega) (by omega)).1 q; omega
    have i1 : inR (Int32.ofNat i) 8 := ofN_inR (by omega) (by omega)
    have i2 := ofN_cl (i := i) (by omega)
    rw [List.range'_succ, List.foldl_cons, f63_L32]
    simp only [mE, pr.1, if_neg hge]
    have skip : brn P m l w st i = st → (∀ q, q < i + 1 → fr l q = true → ∀ W, Cmp P m (stp P l q) (wai P l w q) W → st.1 ≤ W) → ∃ S1, f63_L32 N (f63 N n0) K n (Int32.ofNat l.length) (Int32.ofNat t) (Int32.ofNat w) (Int32.ofNat i + 1) S = K (Int32.ofNat l.length) (Int32.ofNat t) (Int32.ofNat w) (Int32.ofNat (pC P)) S1 ∧ BsC S1 P ((List.range' (i + 1) k).foldl (brn P m l w) (brn P m l w st i)) ∧ TrC S1 l ∧ offQ S S1 := by
      intro e1 h
      rw [e1, ofN_s]
      exact ihk (i + 1) n st S (by omega) (by omega) pr tr bs h
    by_cases hfi : fr l i = true
    · rw [if_neg (fun q => q ((b_tst tb.1 (show i < 8 by omega)).2 ((tb.2 i (by omega)).2 hfi)))]
      rcases q67 (N := N) hN hP pr tb hil with ⟨e67, q, hqi, hfq, hal⟩ | e67
      · have m67 : ∀ {β : Type} {f' : Int32 → mM β}, mb (f67 N (Int32.ofNat i) (Int32.ofNat t)) f' S = f' 1 S := by intro β f'; simp only [mb, e67]
        rw [m67, if_pos (by decide)]
        have hall : ∀ W, Cmp P m (stp P l i) (wai P l w i) W → st.1 ≤ W := fun W hW => hq q hqi hfq W (twn hal hil (by omega) hfi hfq hW)
        refine skip ?_ ?_
        · unfold brn
          rw [if_pos hfi]
          exact ni _ _ _ _ hall
        · intro r hr hfr W hW
          by_cases e : r = i
          · subst e; exact hall W hW
          · exact hq r (by omega) hfr W hW
      · have m67 : ∀ {β : Type} {f' : Int32 → mM β}, mb (f67 N (Int32.ofNat i) (Int32.ofNat t)) f' S = f' 0 S := by intro β f'; simp only [mb, e67]
        have m66 : ∀ {β : Type} {f' : Int32 → mM β}, mb (f66 N (Int32.ofNat i) (Int32.ofNat t)) f' S = f' (Int32.ofNat (ear P l i)) S := by intro β f'; simp only [mb, q66 hN hP pr nd bd (by omega) tr tb hil]
        rw [m67, if_neg (fun q => q rfl), m66]
        have X0 : ∃ X, X = ms_setA (ms_setA S 71 i (Int32.ofNat (ear P l i))) 72 i (Int32.ofNat l.length) := ⟨_, rfl⟩
        obtain ⟨X, hX⟩ := X0
        have oX : ∀ b, b ≠ 71 → b ≠ 72 → Eqc S X b := fun b h1 h2 => by rw [hX]; exact (Eqc_A h1).tr (Eqc_A h2)
        have oQ : offQ S X := ⟨fun j _ => by rw [(oX 64 (by decide) (by decide)).1], fun b h1 h2 => oX b (by omega) (by omega)⟩
        have aX71 : ∀ q, ms_A X 71 q = if q = i then Int32.ofNat (ear P l i) else ms_A S 71 q := by intro q; rw [hX]; simp only [mG, true_and, show ¬ ((71 : Nat) = 72) by decide, false_and, if_false]
        have aX72 : ∀ q, ms_A X 72 q = if q = i then Int32.ofNat l.length else ms_A S 72 q := by intro q; rw [hX]; simp only [mG, true_and, show ¬ ((72 : Nat) = 71) by decide, false_and, if_false]
        have x71 : ms_A X 71 i = Int32.ofNat (ear P l i) := by rw [aX71, if_pos rfl]
        have x67 : ms_A X 67 i = Int32.ofNat (pRd P i) := by rw [(oX 67 (by decide) (by decide)).2.2.2.1]; exact (pr.2.2 i hil).2.1
        simp only [mE, i1, i2]
        rw [← hX, x71, x67]
        have ew : Int32.ofNat w + Int32.ofNat (ear P l i) - Int32.ofNat (pRd P i) = Int32.ofNat (wai P l w i) := by
          have := ear_rd (P := P) (l := l) (p := i)
          rw [ofN_add, ofN_sub (by omega)]
          congr 1
          unfold wai
          omega
        rw [ew, (b_set tb.1 (show i < 8 by omega)).1, ofN_s]
        obtain ⟨S1, e1, bs1, tr1, o1⟩ := ih (stp P l i) (wai P l w i) (t ||| 2 ^ i) n0 st X hn0 (by show l.length + 1 + m = _; omega) (nfr_stp hfi hil hf) ⟨hfi, nd⟩ (stp_bd hP bd hil (by omega)) (TB_set tb (by omega)) (PrC_off pr oQ) (TrC_stp tr hfi aX71 aX72) ⟨by rw [(oX 64 (by decide) (by decide)).1]; exact bs.1, bs.2.1, fun p hp => by rw [(oX 69 (by decide) (by decide)).2.2.2.1, (oX 70 (by decide) (by decide)).2.2.2.1]; exact bs.2.2 p hp⟩
        have m63 : ∀ {β : Type} {f' : Unit → mM β}, mb (f63 N n0 (Int32.ofNat (l.length + 1)) (Int32.ofNat (t ||| 2 ^ i)) (Int32.ofNat (wai P l w i))) f' X = f' () S1 := by
          intro β f'
          have e1' : f63 N n0 (Int32.ofNat (l.length + 1)) (Int32.ofNat (t ||| 2 ^ i)) (Int32.ofNat (wai P l w i)) X = some ((), S1) := e1
          simp only [mb, e1']
        rw [m63, ofN_s]
        have o2 := oQ.tr o1
        have eb : brn P m l w st i = node P m (stp P l i) (wai P l w i) st := if_pos hfi
        have hlo := lo (P := P) m (stp P l i) (wai P l w i) st
        obtain ⟨S2, e2, bs2, tr2, o3⟩ := ihk (i + 1) n (node P m (stp P l i) (wai P l w i) st) S1 (by omega) (by omega) (PrC_off pr o2) (TrC_tail hfi tr1) bs1 (fun r hr hfr W hW => by
          by_cases e : r = i
          · subst e; exact hlo.2 W hW
          · exact Nat.le_trans hlo.1 (hq r (by omega) hfr W hW))
        rw [eb]
        exact ⟨S2, e2, bs2, tr2, o2.tr o3⟩
    · rw [if_pos (fun q => hfi ((tb.2 i (by omega)).1 ((b_tst tb.1 (show i < 8 by omega)).1 q)))]
      refine skip (if_neg hfi) (fun r hr hfr W hW => ?_)
      by_cases e : r = i
      · subst e; exact absurd hfr hfi
      · exact hq r (by omega) hfr W hW
theorem q63 (hN : 20 ≤ N) (hP : PB P) : ∀ m, SE63 N m P := by
  have hc := hP.1
  intro m
  induction m with
  | zero =>
    intro l w t n st S hn hl hf nd bd tb pr tr bs
    obtain ⟨n, rfl⟩ : ∃ q, n = q + 1 := ⟨n - 1, by omega⟩
    have m65 : ∀ {β : Type} {f' : Int32 → mM β}, mb (f65 N (Int32.ofNat t)) f' S = f' (Int32.ofNat (lst P l (pC P))) S := by intro β f'; simp only [mb, q65 hN hP pr nd bd (by omega) tr tb]
    have hlb := lst_bd hP bd (by omega) (pC P) (Nat.le_refl _)
    have hz := lst_zero (P := P) _ hf
    have hw := bd.2
    have hst := bs.2.1
    rw [f63]
    unfold f63b
    rw [m65]
    simp only [mE, pr.1, bs.1, ofN_add]
    rw [hz]
    unfold node
    by_cases hlt : w < st.1
    · rw [if_pos ((ofN_lt (by omega) (by omega)).2 (by omega)), if_neg (fun q => by have := (ofN_lt (i := l.length) (j := pC P) (by omega) (by omega)).1 q; omega), if_pos hlt]
      obtain ⟨S1, e1, b1, t1, o1⟩ := q64 (N := N) (S := S) (P := P) (w := w) (l := l) hN hP pr tr (nfr_no _ hf) (by omega)
      have m64 : ∀ {β : Type} {f' : Unit → mM β}, mb (f64 N (Int32.ofNat w)) f' S = f' () S1 := by intro β f'; simp only [mb, e1]
      rw [m64]
      exact ⟨S1, rfl, b1, t1, o1⟩
    · rw [if_neg (fun q => hlt (by have := (ofN_lt (i := w + 0) (j := st.1) (by omega) (by omega)).1 q; omega)), if_neg hlt]
      exact ⟨S, rfl, bs, tr, offQ.rf⟩
  | succ m ih =>
    intro l w t n st S hn hl hf nd bd tb pr tr bs
    obtain ⟨n, rfl⟩ : ∃ q, n = q + 1 := ⟨n - 1, by omega⟩
    have m65 : ∀ {β : Type} {f' : Int32 → mM β}, mb (f65 N (Int32.ofNat t)) f' S = f' (Int32.ofNat (lst P l (pC P))) S := by intro β f'; simp only [mb, q65 hN hP pr nd bd (by omega) tr tb]
    have hlb := lst_bd hP bd (by omega) (pC P) (Nat.le_refl _)
    have hw := bd.2
    have hst := bs.2.1
    rw [f63]
    unfold f63b
    rw [m65]
    simp only [mE, pr.1, bs.1, ofN_add]
    by_cases hlt : w + lst P l (pC P) < st.1
    · rw [if_pos ((ofN_lt (by omega) (by omega)).2 hlt), if_pos ((ofN_lt (by omega) (by omega)).2 (by omega))]
      obtain ⟨S1, e1, b1, t1, o1⟩ := srchL (N := N) (P := P) (m := m) hN hP ih (l := l) (w := w) (t := t) (n0 := n) (by omega) hl hf nd bd tb (K := fun _ _ _ _ => mret ()) (pC P) 0 N st S (by omega) (by omega) pr tr bs (fun q hq => absurd hq (by omega))
      exact ⟨S1, e1, b1, t1, o1⟩
    · rw [if_neg (fun q => hlt ((ofN_lt (by omega) (by omega)).1 q)), ni _ _ _ _ (fun W hW => by have := cmp_lst _ _ _ _ hf hW; omega)]
      exact ⟨S, rfl, bs, tr, offQ.rf⟩
end SR2
