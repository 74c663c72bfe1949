/-! the first state: an empty house on both sides -/
def A0 : Ab := (fun _ => 0, fun r i => if r = 40 then (if i = 1 then 10 else if i = 2 then 30 else if i = 4 then -1 else 0) else if 50 ≤ r ∧ r < 54 then (if i = 1 ∨ i = 2 then 9999 else if i = 3 then 99 else 0) else 0, fun _ => [], fun _ _ => [])
theorem a0_50 {s i : Nat} (hs : s < 4) : aX A0 (50 + s) i = if i = 1 ∨ i = 2 then 9999 else if i = 3 then 99 else 0 := by
  show (if 50 + s = 40 then _ else if 50 ≤ 50 + s ∧ 50 + s < 54 then _ else _) = _
  rw [if_neg (by omega), if_pos (by omega)]
theorem a0_wf : WFa A0 := by
  refine ⟨⟨⟨Nat.zero_le _, Nat.zero_le _, Nat.zero_le _, Nat.zero_le _, Nat.zero_le _, Nat.zero_le _⟩, by decide +kernel, fun i hi => absurd hi (Nat.not_lt_zero i), fun i hi => absurd hi (Nat.not_lt_zero i), fun i hi => absurd hi (Nat.not_lt_zero i), fun i hi => absurd hi (Nat.not_lt_zero i), fun i hi => absurd hi (Nat.not_lt_zero i), fun i hi => absurd hi (Nat.not_lt_zero i)⟩, fun d => Nat.zero_le _, fun s hs => ?_⟩
  rw [a0_50 hs, a0_50 hs, a0_50 hs, a0_50 hs]
  refine ⟨Nat.zero_le _, Nat.zero_le _, fun i hi => absurd hi (Nat.not_lt_zero i), fun i hi => absurd hi (Nat.not_lt_zero i), Or.inr rfl, (fun q hq => by cases hq), ?_⟩
  decide
def p0 (s : Nat) : Nat := if s < 4 then 79 + 8 * s else 30
theorem s1_cv : ∀ s, s < 4 → ((ms_I s1 (p0 s) 17 = 0 ∧ ms_I s1 (p0 s) 11 = 9999 ∧ ms_I s1 (p0 s) 12 = 9999 ∧ ms_I s1 (p0 s) 13 = 99 ∧ ms_I s1 (p0 s) 14 = 0) ∧ (ms_I s1 (p0 s) 5 = 0 ∧ ms_I s1 (p0 s) 10 = 0 ∧ ms_I s1 (p0 s) 6 = 0) ∧ ms_I s1 (p0 s) 15 = 0 ∧ ms_I s1 (p0 s) 16 = 0 ∧ ms_I s1 (p0 s) 1 = 0) ∧ ms_Q s1 29 s = some (p0 s) := by decide +kernel
theorem s1_sh : ∀ i, i < 20 → ms_Q s1 39 i = some (111 + i) := by decide +kernel
theorem s1_o : ∀ s, s < 5 → p0 s = 30 ∨ p0 s = 79 ∨ p0 s = 87 ∨ p0 s = 95 ∨ p0 s = 103 := by decide +kernel
theorem s1_inj : ∀ s, s < 5 → ∀ t, t < 5 → p0 s = p0 t → s = t := by decide +kernel
theorem s1_c : cBase s1 A0 := by
  refine ⟨⟨by decide +kernel, fun i hi => absurd hi (Nat.not_lt_zero i)⟩, ⟨by decide +kernel, by decide +kernel, by decide +kernel, by decide +kernel, by decide +kernel⟩, ⟨11, 20, by decide +kernel, by decide +kernel, Or.inl ⟨rfl, rfl⟩, ⟨by decide +kernel, by decide +kernel, by decide +kernel, fun i hi => absurd hi (Nat.not_lt_zero i), fun i hi => absurd hi (Nat.not_lt_zero i)⟩, by decide +kernel, by decide +kernel, fun i hi => absurd hi (Nat.not_lt_zero i)⟩, ⟨by decide +kernel, s1_sh, fun i hi => absurd hi (Nat.not_lt_zero i)⟩, ⟨by decide +kernel, fun i hi => absurd hi (Nat.not_lt_zero i)⟩, ⟨by decide +kernel, fun i hi => absurd hi (Nat.not_lt_zero i)⟩, ⟨p0, by decide +kernel, s1_o, fun s t hs ht => s1_inj s hs t ht, fun s hs => ⟨(s1_cv s hs).2, ?_⟩⟩, rfl⟩
  obtain ⟨⟨⟨k1, k2, k3, k4, k5⟩, ⟨k6, k7, k8⟩, k9, k10, k11⟩, _⟩ := s1_cv s hs
  refine ⟨by rw [k1, a0_50 hs]; rfl, by rw [k2, a0_50 hs]; rfl, by rw [k3, a0_50 hs]; rfl, by rw [k4, a0_50 hs]; rfl, by rw [k5, a0_50 hs]; rfl, by rw [k6]; rfl, by rw [k7]; rfl, by rw [k8]; rfl, fun i hi => absurd hi (Nat.not_lt_zero i), fun i hi => absurd hi (Nat.not_lt_zero i), fun i hi => absurd hi (Nat.not_lt_zero i), ?_⟩
  exact ⟨0, k9, k10, by show (0 : Nat) ≤ 512; omega, ⟨0, k11, Nat.le_refl _, by omega⟩, fun j hj => absurd hj (Nat.not_lt_zero j)⟩
theorem s1_f : ∃ S1 S2 S3 S4 S5, f174 30 0 s1 = some ((), S1) ∧ f174 30 1 S1 = some ((), S2) ∧ f174 30 2 S2 = some ((), S3) ∧ f174 30 3 S3 = some ((), S4) ∧ f174 30 4 S4 = some ((), S5) ∧ InvA S5 A0 0 := by
  obtain ⟨S1, e1, c1, _, o1⟩ := q174 (N := 30) (s := 0) (S := s1) (by omega) (by omega)
  obtain ⟨S2, e2, c2, _, o2⟩ := q174 (N := 30) (s := 1) (S := S1) (by omega) (by omega)
  obtain ⟨S3, e3, c3, _, o3⟩ := q174 (N := 30) (s := 2) (S := S2) (by omega) (by omega)
  obtain ⟨S4, e4, c4, _, o4⟩ := q174 (N := 30) (s := 3) (S := S3) (by omega) (by omega)
  obtain ⟨S5, e5, c5, _, o5⟩ := q174 (N := 30) (s := 4) (S := S4) (by omega) (by omega)
  have keep : ∀ {s t : Nat} {T T1 : ms_S}, t ≠ s → ClrM T t → offC s T T1 → ClrM T1 t := fun {s t T T1} hn h o => by
    obtain ⟨a1, a2, a3, a4, a5, a6, a7, a8⟩ := h
    exact ⟨by rw [o.2.1 143 t (by omega) hn]; exact a1, by rw [o.2.1 144 t (by omega) hn]; exact a2, by rw [o.2.1 145 t (by omega) hn]; exact a3, by rw [o.2.1 156 t (by omega) hn]; exact a4, by rw [(o.2.2 (4 * t) (by omega)).1]; exact a5, by rw [(o.2.2 (4 * t + 1) (by omega)).1]; exact a6, by rw [(o.2.2 (4 * t + 2) (by omega)).1]; exact a7, by rw [(o.2.2 (4 * t + 3) (by omega)).1]; exact a8⟩
  have cl : ∀ s, s < 4 → ClrM S5 s := fun s hs => by
    rcases (show s = 0 ∨ s = 1 ∨ s = 2 ∨ s = 3 by omega) with rfl | rfl | rfl | rfl
    · exact keep (by decide) (keep (by decide) (keep (by decide) (keep (by decide) c1 o2) o3) o4) o5
    · exact keep (by decide) (keep (by decide) (keep (by decide) c2 o3) o4) o5
    · exact keep (by decide) (keep (by decide) c3 o4) o5
    · exact keep (by decide) c4 o5
  have off : ∀ b, ¬ (143 ≤ b ∧ b ≤ 145) → b ≠ 147 → b ≠ 155 → b ≠ 156 → Eqc s1 S5 b := fun b h1 h2 h3 h4 => ((((o1.1 b h1 h2 h3 h4).tr (o2.1 b h1 h2 h3 h4)).tr (o3.1 b h1 h2 h3 h4)).tr (o4.1 b h1 h2 h3 h4)).tr (o5.1 b h1 h2 h3 h4)
  have lo : ∀ b, b < 143 → Eqc s1 S5 b := fun b hb => off b (by omega) (by omega) (by omega) (by omega)
  refine ⟨S1, S2, S3, S4, S5, e1, e2, e3, e4, e5, ?_, ⟨?_, ?_, ?_, ?_, ?_, ?_, fun s hs => ?_⟩, a0_wf, ⟨fun q => ?_, fun q => ?_, fun q => ?_⟩, ?_, ?_, ?_, ?_⟩
  · exact cBase_fr s1_c (Nat.zero_le _) (fun k _ => by rw [(lo 4 (by omega)).1]) ((lo 4 (by omega)).2.2.1) ⟨by rw [(lo 6 (by omega)).1], by rw [(lo 6 (by omega)).1]⟩ (fun b hb _ _ _ _ _ _ _ => lo b (by omega))
  · exact ⟨by rw [(lo 131 (by omega)).1]; decide +kernel, fun i hi => absurd hi (Nat.not_lt_zero i)⟩
  · unfold mNum
    rw [(lo 131 (by omega)).1]
    decide +kernel
  · refine ⟨0, by omega, by rw [(lo 131 (by omega)).1]; decide +kernel, ?_, ?_, ?_, fun i hi => absurd hi (Nat.not_lt_zero i), fun i hi => absurd hi (Nat.not_lt_zero i)⟩
    · rw [(lo 135 (by omega)).2.2.2.1]; rfl
    · rw [(lo 136 (by omega)).2.2.2.1]; rfl
    · rw [(lo 134 (by omega)).2.2.2.1]; rfl
  · exact ⟨by rw [(lo 131 (by omega)).1]; decide +kernel, fun i hi => absurd hi (Nat.not_lt_zero i)⟩
  · exact ⟨by rw [(lo 131 (by omega)).1]; decide +kernel, fun i hi => absurd hi (Nat.not_lt_zero i)⟩
  · exact ⟨by rw [(lo 131 (by omega)).1]; decide +kernel, fun i hi => absurd hi (Nat.not_lt_zero i)⟩
  · obtain ⟨a1, a2, a3, a4, a5, a6, a7, a8⟩ := cl s hs
    refine ⟨by rw [a1, a0_50 hs]; rfl, fun k hk => ?_, by rw [a2]; rfl, by rw [a3]; rfl, fun i hi => absurd hi (Nat.not_lt_zero i), fun i hi => absurd hi (Nat.not_lt_zero i), fun i hi => absurd hi (Nat.not_lt_zero i), Or.inl ⟨a4, rfl⟩⟩
    rw [a0_50 hs]
    rcases (show k = 0 ∨ k = 1 ∨ k = 2 ∨ k = 3 by omega) with rfl | rfl | rfl | rfl
    · exact a5
    · exact a6
    · exact a7
    · exact a8
  · rw [(lo 57 (by omega)).1, (lo 4 (by omega)).1] at q
    exact absurd q (by decide +kernel)
  · rw [(lo 64 (by omega)).1, (lo 4 (by omega)).1] at q
    exact absurd q (by decide +kernel)
  · rw [(lo 77 (by omega)).1, (lo 4 (by omega)).1] at q
    exact absurd q (by decide +kernel)
  · rw [(lo 4 (by omega)).1]; decide +kernel
  · rw [(lo 57 (by omega)).1]; exact Or.inl (by decide +kernel)
  · rw [(lo 64 (by omega)).1]; exact Or.inl (by decide +kernel)
  · rw [(lo 77 (by omega)).1]; exact Or.inl (by decide +kernel)
/-- what was left of the claim -/
theorem pure_all : mv_Pure 4608 := by
  obtain ⟨S1, S2, S3, S4, S5, h0, h1, h2, h3, h4, hI⟩ := s1_f
  exact pure_of h0 h1 h2 h3 h4 (fun L xs hL => law_all hL hI)
