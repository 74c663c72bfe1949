/-! feed, end; sight of the reference; ship -/
/-- the bytes of a number, of five numbers -/
def bt (x : Int32) (k : Nat) : Int32 := (x >>> (Int32.ofNat (24 - 8 * k) &&& 31)) &&& 255
def bt5 (a b c d e : Int32) (k : Nat) : Int32 := bt (if k < 4 then a else if k < 8 then b else if k < 12 then c else if k < 16 then d else e) (k % 4)
def fedX (A : Ab) (a b c d e : Int32) : Ab := (fun k => if k = 0 then aN A 0 + 20 else aN A k, fun q j => if q = 0 ∧ aN A 0 ≤ j ∧ j < aN A 0 + 20 then bt5 a b c d e (j - aN A 0) else aX A q j, aM A, aE A)
def ansFeed (A : Ab) : Int32 := if aN A 0 + 20 ≤ 1200 then Int32.ofNat (aN A 0 + 20) else -1
def nxtFeed (A : Ab) (a b c d e : Int32) : Ab := if aN A 0 + 20 ≤ 1200 then fedX A a b c d e else A
def ansEnd (A : Ab) (n : Int32) : Int32 := if 0 ≤ n ∧ n ≤ Int32.ofNat (aN A 0) then n else -1
def nxtEnd (A : Ab) (n : Int32) : Ab := if 0 ≤ n ∧ n ≤ Int32.ofNat (aN A 0) then setN A 0 n.toNatClampNeg else A
theorem fedX_q {A : Ab} {a b c d e : Int32} : AbQ (fun q => q = 0) (fun k => k = 0) A (fedX A a b c d e) := by
  refine ⟨fun k hk => if_neg hk, fun q hq => ?_, rfl, rfl⟩
  funext j
  exact if_neg (fun h => hq h.1)
theorem setN_q {A : Ab} {c v : Nat} : AbQ (fun _ => False) (fun k => k = c) A (setN A c v) := ⟨fun k hk => if_neg hk, fun _ _ => rfl, rfl, rfl⟩
theorem bt_b (x : Int32) (k : Nat) : 0 ≤ bt x k ∧ bt x k ≤ 255 := by
  unfold bt
  generalize x >>> (Int32.ofNat (24 - 8 * k) &&& 31) = y
  have h : (y &&& 255).toInt = (y.toBitVec &&& 255#32).toInt := rfl
  have h2 : (y.toBitVec &&& 255#32).toNat ≤ 255 := by
    rw [BitVec.toNat_and]
    exact Nat.and_le_right
  have h3 : (y.toBitVec &&& 255#32).toInt = ((y.toBitVec &&& 255#32).toNat : Int) := by
    rw [BitVec.toInt_eq_toNat_cond]
    omega
  constructor
  · rw [Int32.le_iff_toInt_le, h, h3]
    exact Int.natCast_nonneg _
  · rw [Int32.le_iff_toInt_le, h, h3]
    show _ ≤ (255 : Int)
    omega
theorem byte_nar (y : Int32) : vp_nar .byte (Int8.toInt32 (Int32.toInt8 y)) = vp_nar .byte (y &&& 255) := by
  rw [vp_nar_byte, vp_nar_byte]
  congr 1
  rw [Int32.toInt8_and]
  have : Int32.toInt8 255 = -1 := by decide
  rw [this]
  simp
section TAP
variable {N : Nat} {S : ms_S} {A : Ab}
/-- what four bytes more are -/
def put4 (S S1 : ms_S) (t : Nat) (x : Int32) : Prop := ms_I S1 4 1 = Int32.ofNat (t + 4) ∧ (∀ j, ms_A S1 5 j = if t ≤ j ∧ j < t + 4 then bt x (j - t) else ms_A S 5 j) ∧ (∀ k, k ≠ 1 → ms_I S1 4 k = ms_I S 4 k) ∧ ms_R S1 4 = ms_R S 4 ∧ ∀ b, b ≠ 4 → b ≠ 5 → Eqc S S1 b
theorem put1 {t : Nat} {x y : Int32} {n : Nat} {K : Int32 → Int32 → mM Unit} (ht : t < 1200) (hc : ms_I S 4 1 = Int32.ofNat t) (hy : ¬ y < 0) : f110_L3 N K (n + 1) x y S = f110_L3 N K n x (y + (-8)) (ms_setI (ms_setA S 5 t ((x >>> (y &&& 31)) &&& 255)) 4 1 (Int32.ofNat (t + 1))) := by
  have h1 : inR (Int32.ofNat t) 1200 := ofN_inR ht (by omega)
  have h2 := ofN_cl (i := t) (by omega)
  have h3 : ¬ Int32.ofNat t ≥ 1200 := fun q => by
    rw [show (1200 : Int32) = Int32.ofNat 1200 from rfl] at q
    have := (ofN_le (i := 1200) (j := t) (by omega) (by omega)).1 q
    omega
  rw [f110_L3]
  rw [if_neg hy]
  simp only [mE, hc, if_neg h3, h1, h2, mGo, ofN_s]
theorem q110 {t : Nat} {x : Int32} (hN : 10 ≤ N) (ht : t + 4 ≤ 1200) (hc : ms_I S 4 1 = Int32.ofNat t) : ∃ S1, f110 N x S = some ((), S1) ∧ put4 S S1 t x := by
  obtain ⟨n, rfl⟩ : ∃ q, N = q + 5 := ⟨N - 5, by omega⟩
  unfold f110
  rw [put1 (t := t) (by omega) hc (by decide)]
  rw [put1 (t := t + 1) (by omega) (by simp only [mG, and_self, if_true]) (by decide)]
  rw [put1 (t := t + 2) (by omega) (by simp only [mG, and_self, if_true]) (by decide)]
  rw [put1 (t := t + 3) (by omega) (by simp only [mG, and_self, if_true]) (by decide)]
  rw [f110_L3]
  refine ⟨_, by rw [if_pos (by decide)]; rfl, by simp only [mG, and_self, if_true], fun j => ?_, fun k hk => by simp [mG, mGo, hk], by simp [mGo], fun b h4 h5 => ?_⟩
  · simp only [mG, mGo]
    by_cases e0 : j = t
    · subst e0; simp [bt]
    · by_cases e1 : j = t + 1
      · subst e1; simp [bt]
      · by_cases e2 : j = t + 2
        · subst e2; simp [bt]
        · by_cases e3 : j = t + 3
          · subst e3; simp [bt]
          · have hno : ¬ (t ≤ j ∧ j < t + 4) := by omega
            simp only [e0, e1, e2, e3, and_false, if_false, if_neg hno]
  · exact (((((((Eqc_A h5).tr (Eqc_I h4)).tr (Eqc_A h5)).tr (Eqc_I h4)).tr (Eqc_A h5)).tr (Eqc_I h4)).tr (Eqc_A h5)).tr (Eqc_I h4)
theorem C_feed {a b c d e : Int32} (hN : 10 ≤ N) (h : cBase S A) (hw : WF0 A) : CP (f109 N a b c d e) S A (ansFeed A) (nxtFeed A a b c d e) := by
  have hb := h
  obtain ⟨⟨t1, t2⟩, _⟩ := h
  have hn0 : aN A 0 ≤ 1200 := hw.1.1
  have hq : (Int32.ofNat (aN A 0) + 20 ≤ 1200) ↔ (aN A 0 + 20 ≤ 1200) := by have := i32_of (aN A 0) (by omega); clear hw hb t2; grind
  unfold ansFeed nxtFeed
  by_cases hk : aN A 0 + 20 ≤ 1200
  · rw [if_pos hk, if_pos hk]
    obtain ⟨S1, e1, a1, a2, a3, a4, a5⟩ := q110 (N := N) (S := S) (x := a) hN (by omega) t1
    obtain ⟨S2, e2, b1, b2, b3, b4, b5⟩ := q110 (N := N) (S := S1) (x := b) hN (by omega) a1
    obtain ⟨S3, e3, c1, c2, c3, c4, c5⟩ := q110 (N := N) (S := S2) (x := c) hN (by omega) b1
    obtain ⟨S4, e4, d1, d2, d3, d4, d5⟩ := q110 (N := N) (S := S3) (x := d) hN (by omega) c1
    obtain ⟨S5, e5, g1, g2, g3, g4, g5⟩ := q110 (N := N) (S := S4) (x := e) hN (by omega) d1
    have hI : ∀ k, k ≠ 1 → ms_I S5 4 k = ms_I S 4 k := fun k hk => by rw [g3 k hk, d3 k hk, c3 k hk, b3 k hk, a3 k hk]
    have hE : ∀ q, q ≠ 4 → q ≠ 5 → Eqc S S5 q := fun q h4 h5 => ((((a5 q h4 h5).tr (b5 q h4 h5)).tr (c5 q h4 h5)).tr (d5 q h4 h5)).tr (g5 q h4 h5)
    refine ⟨S5, ?_, ?_, fun q h1 h2 => hE q (by omega) (by omega), Or.inl ⟨hI 20 (by omega), ?_⟩⟩
    · unfold f109
      simp only [mb, gI, t1, mif, if_pos (hq.2 hk), e1, e2, e3, e4, e5, mret, g1]
    · refine cB_tape hb hw.1.2.2.2.1 fedX_q hI (by rw [g4, d4, c4, b4, a4]) hE ⟨?_, fun i hi => ?_⟩
      · rw [g1]; rfl
      · have hi : i < aN A 0 + 20 := hi
        rw [g2, d2, c2, b2, a2]
        by_cases hi2 : aN A 0 ≤ i
        · obtain ⟨k, rfl⟩ : ∃ k, i = aN A 0 + k := ⟨i - aN A 0, by omega⟩
          have eR : aX (fedX A a b c d e) 0 (aN A 0 + k) = bt5 a b c d e k := by
            show (if 0 = 0 ∧ aN A 0 ≤ aN A 0 + k ∧ aN A 0 + k < aN A 0 + 20 then bt5 a b c d e (aN A 0 + k - aN A 0) else aX A 0 (aN A 0 + k)) = _
            rw [if_pos ⟨rfl, by omega, by omega⟩, Nat.add_sub_cancel_left]
          rw [eR]
          by_cases k4 : k < 4
          · rw [show bt5 a b c d e k = bt a (k % 4) by unfold bt5; rw [if_pos k4], if_neg (by omega), if_neg (by omega), if_neg (by omega), if_neg (by omega), if_pos (by omega), show aN A 0 + k - aN A 0 = k % 4 by omega]
          · by_cases k8 : k < 8
            · rw [show bt5 a b c d e k = bt b (k % 4) by unfold bt5; rw [if_neg k4, if_pos k8], if_neg (by omega), if_neg (by omega), if_neg (by omega), if_pos (by omega), show aN A 0 + k - (aN A 0 + 4) = k % 4 by omega]
            · by_cases k12 : k < 12
              · rw [show bt5 a b c d e k = bt c (k % 4) by unfold bt5; rw [if_neg k4, if_neg k8, if_pos k12], if_neg (by omega), if_neg (by omega), if_pos (by omega), show aN A 0 + k - (aN A 0 + 4 + 4) = k % 4 by omega]
              · by_cases k16 : k < 16
                · rw [show bt5 a b c d e k = bt d (k % 4) by unfold bt5; rw [if_neg k4, if_neg k8, if_neg k12, if_pos k16], if_neg (by omega), if_pos (by omega), show aN A 0 + k - (aN A 0 + 4 + 4 + 4) = k % 4 by omega]
                · rw [show bt5 a b c d e k = bt e (k % 4) by unfold bt5; rw [if_neg k4, if_neg k8, if_neg k12, if_neg k16], if_pos (by omega), show aN A 0 + k - (aN A 0 + 4 + 4 + 4 + 4) = k % 4 by omega]
        · have eR : aX (fedX A a b c d e) 0 i = aX A 0 i := if_neg (fun q => hi2 q.2.1)
          rw [eR, if_neg (by omega), if_neg (by omega), if_neg (by omega), if_neg (by omega), if_neg (by omega)]
          exact t2 i (by omega)
    · unfold core
      congr 1
      · funext q; by_cases hq0 : q = 0
        · simp [hq0]
        · rw [fedX_q.1 q hq0]
      · congr 1
        funext r i
        by_cases hr : r = 0
        · simp [hr]
        · rw [fedX_q.2.1 r hr]
  · rw [if_neg hk, if_neg hk]
    refine CP_same hb ?_
    unfold f109
    simp only [mb, gI, t1, mif, if_neg (fun q => hk (hq.1 q)), mret]
theorem C_end {n : Int32} (h : cBase S A) (hw : WF0 A) : CP (f111 N n) S A (ansEnd A n) (nxtEnd A n) := by
  have hb := h
  obtain ⟨⟨t1, t2⟩, _⟩ := h
  have hn0 : aN A 0 ≤ 1200 := hw.1.1
  unfold ansEnd nxtEnd
  by_cases hk : 0 ≤ n ∧ n ≤ Int32.ofNat (aN A 0)
  · rw [if_pos hk, if_pos hk]
    have hn : ∃ m, m ≤ aN A 0 ∧ n = Int32.ofNat m := by
      obtain ⟨m, hm, e⟩ := i32_nat (x := n) (n := aN A 0 + 1) hk.1 (by omega) (by have := hk.2; have := i32_of (aN A 0) (by omega); have := i32_of (aN A 0 + 1) (by omega); clear hw hb t2; grind)
      exact ⟨m, by omega, e⟩
    obtain ⟨m, hm, rfl⟩ := hn
    have h2 := ofN_cl (i := m) (by omega)
    refine ⟨ms_setI S 4 1 (Int32.ofNat m), ?_, ?_, fun b h1 h2 => Eqc_I (by omega), Or.inl ⟨by simp [mG], ?_⟩⟩
    · unfold f111
      simp only [mlet, mif, if_neg (ofN_nl (i := m) (by omega)), mb, gI, t1, if_pos hk.2, pI, mret]
    · rw [h2]
      refine cB_tape hb hw.1.2.2.2.1 (setN_q.mono (fun q hq => hq.elim) (fun k hk => hk)) (fun k hk => by simp [mG, hk]) (by simp [mGo]) (fun b h4 h5 => Eqc_I h4) ⟨by simp [mG, aG], fun i hi => ?_⟩
      have hi : i < m := by simpa [aG] using hi
      simp only [mGo, aG]
      exact t2 i (by omega)
    · unfold core
      simp only [aG]
      congr 1
      funext q; by_cases hq0 : q = 0
      · simp [hq0]
      · simp [hq0]
  · rw [if_neg hk, if_neg hk]
    refine CP_same hb ?_
    unfold f111
    by_cases h0 : n < 0
    · simp only [mlet, mif, if_pos h0, mret]
    · have h1 : ¬ n ≤ Int32.ofNat (aN A 0) := fun q => hk ⟨Int32.not_lt.mp h0, q⟩
      simp only [mlet, mif, if_neg h0, mb, gI, t1, if_neg h1, mret]
end TAP
