/-! both sides at one call: what holds of a whole state -/
/-- a cache's stamp: none, or a count of changes that has been -/
def stmp (x : Int32) (c : Nat) : Prop := x = -1 ∨ ∃ k, k ≤ c ∧ x = Int32.ofNat k
def Ca (S : ms_S) (A : Ab) (c : Nat) : Prop := (CLok S A ∧ CPok S A ∧ CTok S A) ∧ ms_I S 4 20 = Int32.ofNat c ∧ stmp (ms_I S 57 7) c ∧ stmp (ms_I S 64 3) c ∧ stmp (ms_I S 77 4) c
def InvA (S : ms_S) (A : Ab) (c : Nat) : Prop := cBase S A ∧ mBase S A ∧ WFa A ∧ Ca S A c
def CR {α : Type} (f : mM α) (S : ms_S) (v : α) (A1 : Ab) (c : Nat) : Prop := ∃ S1 c1, f S = some (v, S1) ∧ cBase S1 A1 ∧ (∀ b, 131 ≤ b → Eqc S S1 b) ∧ c1 ≤ c + 1 ∧ Ca S1 A1 c1
section STE
variable {S S1 : ms_S} {A A1 : Ab} {c : Nat} {x : Int32}
theorem stmp_up (h : stmp x c) : stmp x (c + 1) := by
  rcases h with h | ⟨k, hk, h⟩
  · exact Or.inl h
  · exact Or.inr ⟨k, by omega, h⟩
theorem stmp_ne (h : stmp x c) (hc : c < 1000000) : x ≠ Int32.ofNat (c + 1) := by
  rcases h with rfl | ⟨k, hk, rfl⟩
  · intro q
    have z := ofN_nl (i := c + 1) (by omega)
    rw [← q] at z
    exact z (by decide)
  · intro q
    have := (ofN_eq (i := k) (j := c + 1) (by omega) (by omega)).1 q
    omega
theorem ResP_e {a b : Nat} {r : Option T4} (h : ResP S A a b r) (hx : ms_I S1 77 = ms_I S 77) (hA : ms_A S1 78 = ms_A S 78) : ResP S1 A a b r := by
  unfold ResP at *
  rw [hx, hA]
  exact h
theorem CLok_e (h : CLok S A) (e : Eqc S S1 57) (hc : ms_I S1 4 20 = ms_I S 4 20) (hE : ∀ b, 58 ≤ b → b ≤ 61 → Eqc S S1 b) : CLok S1 A := by
  intro q
  rw [e.1, hc] at q
  obtain ⟨s, k, z⟩ := h q
  exact ⟨s, k, CLk_fr z (fun j _ => by rw [e.1]) e.2.2.1 (fun b h1 h2 => (hE b h1 h2).2.2.2.1)⟩
theorem CPok_e (h : CPok S A) (e : Eqc S S1 64) (hc : ms_I S1 4 20 = ms_I S 4 20) (hE : ∀ b, 65 ≤ b → b ≤ 70 → Eqc S S1 b) : CPok S1 A := by
  intro q
  rw [e.1, hc] at q
  obtain ⟨s, d, k, z⟩ := h q
  exact ⟨s, d, k, CPk_fr z (fun j _ => by rw [e.1]) (fun b h1 h2 => (hE b h1 h2).2.2.2.1)⟩
theorem CTok_e (h : CTok S A) (e : Eqc S S1 77) (hc : ms_I S1 4 20 = ms_I S 4 20) (hE : Eqc S S1 78) : CTok S1 A := by
  intro q
  rw [e.1, hc] at q
  obtain ⟨a, b, h1, h2, h3, h4, h5, h6⟩ := h q
  exact ⟨a, b, h1, h2, h3, by rw [e.1]; exact h4, by rw [e.1]; exact h5, ResP_e h6 e.1 hE.2.2.2.1⟩
theorem Ca_fr (h : Ca S A c) (hE : ∀ b, b < 131 → Eqc S S1 b) : Ca S1 A c := by
  obtain ⟨⟨hL, hP, hT⟩, h20, s1, s2, s3⟩ := h
  have e4 : ms_I S1 4 20 = ms_I S 4 20 := by rw [(hE 4 (by omega)).1]
  exact ⟨⟨CLok_e hL (hE 57 (by omega)) e4 (fun b _ _ => hE b (by omega)), CPok_e hP (hE 64 (by omega)) e4 (fun b _ _ => hE b (by omega)), CTok_e hT (hE 77 (by omega)) e4 (hE 78 (by omega))⟩, e4.trans h20, by rw [(hE 57 (by omega)).1]; exact s1, by rw [(hE 64 (by omega)).1]; exact s2, by rw [(hE 77 (by omega)).1]; exact s3⟩
theorem Ca_CP (h : Ca S A c) (hv : WFv A) (hc : c < 1000000) (hk : keepC S S1) (hg : chg S S1 A A1) : ∃ c1, c1 ≤ c + 1 ∧ Ca S1 A1 c1 := by
  obtain ⟨⟨hL, hP, hT⟩, h20, s1, s2, s3⟩ := h
  have e : ∀ b, 57 ≤ b → b < 79 → Eqc S S1 b := fun b h1 h2 => hk b h1 (Or.inl h2)
  have e57 := e 57 (by omega) (by omega)
  have e64 := e 64 (by omega) (by omega)
  have e77 := e 77 (by omega) (by omega)
  have e78 := e 78 (by omega) (by omega)
  rcases hg with ⟨g1, g2⟩ | g1
  · have g := CG_of g2
    refine ⟨c, by omega, ⟨fun q => ?_, fun q => ?_, fun q => ?_⟩, g1.trans h20, by rw [e57.1]; exact s1, by rw [e64.1]; exact s2, by rw [e77.1]; exact s3⟩
    · rw [e57.1, g1] at q
      obtain ⟨s, k, z⟩ := hL q
      exact ⟨s, k, CLk_fr (CLk_g g hv z) (fun j _ => by rw [e57.1]) e57.2.2.1 (fun b h1 h2 => (e b (by omega) (by omega)).2.2.2.1)⟩
    · rw [e64.1, g1] at q
      obtain ⟨s, d, k, z⟩ := hP q
      exact ⟨s, d, k, CPk_fr (CPk_g g hv z) (fun j _ => by rw [e64.1]) (fun b h1 h2 => (e b (by omega) (by omega)).2.2.2.1)⟩
    · rw [e77.1, g1] at q
      obtain ⟨a, b, h1, h2, h3, h4, h5, h6⟩ := hT q
      refine ⟨a, b, h1, h2, h3, by rw [e77.1]; exact h4, by rw [e77.1]; exact h5, ?_⟩
      rw [partM_g g]
      exact ResP_e (ResP_g g h6) e77.1 e78.2.2.2.1
  · have g20 : ms_I S1 4 20 = Int32.ofNat (c + 1) := by rw [g1, h20, ofN_s]
    refine ⟨c + 1, by omega, ⟨fun q => ?_, fun q => ?_, fun q => ?_⟩, g20, by rw [e57.1]; exact stmp_up s1, by rw [e64.1]; exact stmp_up s2, by rw [e77.1]; exact stmp_up s3⟩
    · rw [e57.1, g20] at q; exact absurd q (stmp_ne s1 hc)
    · rw [e64.1, g20] at q; exact absurd q (stmp_ne s2 hc)
    · rw [e77.1, g20] at q; exact absurd q (stmp_ne s3 hc)
theorem stmp_or {y : Int32} (h : stmp x c) (h1 : y = x ∨ y = Int32.ofNat c) : stmp y c := by
  rcases h1 with rfl | rfl
  · exact h
  · exact Or.inr ⟨c, Nat.le_refl _, rfl⟩
/-- a call of the class of each kind -/
theorem R_CP {α : Type} {f : mM α} {v : α} (hI : InvA S A c) (hc : c < 1000000) (h : CP f S A v A1) : CR f S v A1 c := by
  obtain ⟨S1, e, b, k, g⟩ := h
  obtain ⟨c1, l1, a1⟩ := Ca_CP hI.2.2.2 hI.2.2.1.2.2 hc k g
  exact ⟨S1, c1, e, b, fun d hd => k d (by omega) (Or.inr hd), l1, a1⟩
theorem R_eq {α : Type} {f : mM α} {v : α} (hI : InvA S A c) (h : f S = some (v, S)) : CR f S v A c := ⟨S, c, h, hI.1, fun _ _ => Eqc.rf, by omega, hI.2.2.2⟩
theorem R_CQ {α : Type} {f : mM α} {v : α} (hI : InvA S A c) (h : CQ f S A v) : CR f S v A c := by
  obtain ⟨S1, e, b, l, s, k⟩ := h
  obtain ⟨⟨hL, hP, hT⟩, h20, s1, s2, s3⟩ := hI.2.2.2
  have e4 : ms_I S1 4 20 = ms_I S 4 20 := by rw [(k 4 (by omega)).1]
  rw [h20] at s
  exact ⟨S1, c, e, b, fun d hd => k d (by omega), by omega, ⟨l, CPok_e hP (k 64 (by omega)) e4 (fun b _ _ => k b (by omega)), CTok_e hT (k 77 (by omega)) e4 (k 78 (by omega))⟩, e4.trans h20, stmp_or s1 s, by rw [(k 64 (by omega)).1]; exact s2, by rw [(k 77 (by omega)).1]; exact s3⟩
theorem R_CQ2 {α : Type} {f : mM α} {v : α} (hI : InvA S A c) (h : CQ2 f S A v) : CR f S v A c := by
  obtain ⟨S1, e, b, l, p, s, t, k⟩ := h
  obtain ⟨⟨hL, hP, hT⟩, h20, s1, s2, s3⟩ := hI.2.2.2
  have e4 : ms_I S1 4 20 = ms_I S 4 20 := by rw [(k 4 (by omega)).1]
  rw [h20] at s t
  exact ⟨S1, c, e, b, fun d hd => k d (by omega), by omega, ⟨l, p, CTok_e hT (k 77 (by omega)) e4 (k 78 (by omega))⟩, e4.trans h20, stmp_or s1 s, stmp_or s2 t, by rw [(k 77 (by omega)).1]; exact s3⟩
theorem R_part {f : mM Int32} {v : Int32} (hI : InvA S A c) (h : ∃ S1, f S = some (v, S1) ∧ cBase S1 A ∧ CTok S1 A ∧ (ms_I S1 77 4 = ms_I S 77 4 ∨ ms_I S1 77 4 = ms_I S 4 20) ∧ ∀ c, ¬ (54 ≤ c ∧ c ≤ 56) → ¬ (77 ≤ c ∧ c ≤ 78) → Eqc S S1 c) : CR f S v A c := by
  obtain ⟨S1, e, b, t, s, k⟩ := h
  obtain ⟨⟨hL, hP, hT⟩, h20, s1, s2, s3⟩ := hI.2.2.2
  have e4 : ms_I S1 4 20 = ms_I S 4 20 := by rw [(k 4 (by omega) (by omega)).1]
  rw [h20] at s
  exact ⟨S1, c, e, b, fun d hd => k d (by omega) (by omega), by omega, ⟨CLok_e hL (k 57 (by omega) (by omega)) e4 (fun b _ _ => k b (by omega) (by omega)), CPok_e hP (k 64 (by omega) (by omega)) e4 (fun b _ _ => k b (by omega) (by omega)), t⟩, e4.trans h20, by rw [(k 57 (by omega) (by omega)).1]; exact s1, by rw [(k 64 (by omega) (by omega)).1]; exact s2, stmp_or s3 s⟩
/-- one call on both sides -/
theorem both {α : Type} {fC fM : mM α} {v : α} (hI : InvA S A c) (hC : CR fC S v A1 c) (hM : ∀ S1, mBase S1 A → MP fM S1 v A1) (hw : WFa A1) : ∃ S1 S2 c2, fC S = some (v, S1) ∧ fM S1 = some (v, S2) ∧ InvA S2 A1 c2 ∧ c2 ≤ c + 1 := by
  obtain ⟨S1, c1, e1, b1, k1, l1, a1⟩ := hC
  have m1 : mBase S1 A := mBase_fr hI.2.1 (fun k _ => by rw [(k1 131 (by omega)).1]) (fun b hb _ => k1 b (by omega))
  obtain ⟨S2, e2, b2, k2⟩ := hM S1 m1
  refine ⟨S1, S2, c1, e1, e2, ⟨?_, b2, hw, Ca_fr a1 k2⟩, l1⟩
  exact cBase_fr b1 hw.1.1.2.2.2.1 (fun k _ => by rw [(k2 4 (by omega)).1]) ((k2 4 (by omega)).2.2.1) ⟨by rw [(k2 6 (by omega)).1], by rw [(k2 6 (by omega)).1]⟩ (fun b hb _ _ _ _ _ _ _ => k2 b hb)
/-! steps of the law, goal first -/
theorem tX {L : Nat} {xs : Nat → Int32} {i : Int32} {β : Type} {f : Int32 → mM β} {r : Option (β × ms_S)} (hi : mv_in i L) (k : f (xs i.toNatClampNeg) S = r) : mb (lX L xs i) f S = r := by
  rw [← k]
  simp only [mb, lX, if_pos hi]
theorem tB {α β : Type} {g : mM α} {v : α} {f : α → mM β} {r : Option (β × ms_S)} (h : g S = some (v, S1)) (k : f v S1 = r) : mb g f S = r := by
  rw [← k]
  simp only [mb, h]
theorem tY {β : Type} {p : Prop} {d : Decidable p} {a b : mM β} {r : Option (β × ms_S)} (h : p) (k : a S = r) : (@ite _ p d a b) S = r := by rw [if_pos h]; exact k
theorem tN {β : Type} {p : Prop} {d : Decidable p} {a b : mM β} {r : Option (β × ms_S)} (h : ¬ p) (k : b S = r) : (@ite _ p d a b) S = r := by rw [if_neg h]; exact k
theorem tL {β γ : Type} {b : γ} {f : γ → mM β} {r : Option (β × ms_S)} (k : f b S = r) : mlet b f S = r := k
def Go (g : mM Int32) (S : ms_S) (J : mM Int32) (c : Nat) : Prop := ∃ S2 A2 c2, g S = J S2 ∧ InvA S2 A2 c2 ∧ c2 ≤ c + 1
theorem go_if {p : Prop} {d : Decidable p} {a b J : mM Int32} (h1 : p → Go a S J c) (h2 : ¬ p → Go b S J c) : Go (@ite _ p d a b) S J c := by
  by_cases hp : p
  · rw [if_pos hp]; exact h1 hp
  · rw [if_neg hp]; exact h2 hp
theorem go_X {L : Nat} {xs : Nat → Int32} {i : Int32} {f : Int32 → mM Int32} {J : mM Int32} (hi : mv_in i L) (k : Go (f (xs i.toNatClampNeg)) S J c) : Go (mb (lX L xs i) f) S J c := by
  obtain ⟨S2, A2, c2, e, h1, h2⟩ := k
  exact ⟨S2, A2, c2, tX hi e, h1, h2⟩
end STE
/-- eight numbers -/
def v8 (a b c d e f g h : Int32) : Nat → Int32
  | 0 => a
  | 1 => b
  | 2 => c
  | 3 => d
  | 4 => e
  | 5 => f
  | 6 => g
  | _ => h
