/-! what holds from a frame's beginning on; how the heap grows -/
def mv_sl (h : mv_H) : Nat := (h.map mv_sz).sum
def mv_Str (base : Nat) (oa : Nat → Nat) (U : State) : Prop := (∃ adV, vk_S 3 (mv_txt.map List.length) mv_txt (fun i => oa (i + 1)) adV (fun q => base ≤ q) U U.heap) ∧ (∀ q ∈ mv_srf, vk_R RX10 q.1 q.2.1 (oa q.2.2) U) ∧ va_Z "java/lang/String" "COMPACT_STRINGS" "Z" (.int 1) (fun q => base ≤ q) U U.heap ∧ va_Zq "jdk/internal/util/Preconditions" "SIOOBE_FORMATTER" "Ljava/util/function/BiFunction;" (fun q => base ≤ q) U U.heap
def mv_Fr (D : va_G) (cA : Nat → ClassId) (base : Nat) (oa : Nat → Nat) (L : Nat) (xs : Nat → Int32) (s : State) : Prop :=
  va_K D vwCl (mv_tys cA) s ∧ mv_X base oa L xs s ∧ va_AO "StraitHouse$Convention" s ∧ va_AO "StraitHouse$Ship" s ∧ (∀ q ∈ mv_nst, va_Nw (.methodLinkNest RX11 q.1 q.2 RX11) s) ∧ mv_Str base oa s
theorem mv_Fr.moved {D : va_G} {cA : Nat → ClassId} {base : Nat} {oa : Nat → Nat} {L : Nat} {xs : Nat → Int32} {s U : State} (h : mv_Fr D cA base oa L xs s) (hW : s.WarmedH U.vm) (hz : s.heap.size ≤ U.heap.size) (hk : ∀ q : Nat, q < s.heap.size → ¬ base ≤ q → U.heap[q]? = s.heap[q]?) : mv_Fr D cA base oa L xs U := by
  obtain ⟨h1, ⟨h2, h3, h4⟩, h5, h6, h7, ⟨adV, h8⟩, h9, h10, h11⟩ := h
  refine ⟨va_K.moved hW.alike h1, ⟨?_, h3, Nat.le_trans h4 hz⟩, h5.moved hW.alike, h6.moved hW.alike, fun q hq => (h7 q hq).warmM hW, ⟨adV, ?_⟩, fun q hq => (h9 q hq).warm hW, ?_, ?_⟩
  · exact (h2.moved hW.alike).kept (hk _ (Nat.lt_of_lt_of_le h3 h4) (Nat.not_le.mpr h3))
  · exact (h8.moved hW.alike).kept hk
  · exact (h10.moved hW.alike).kept hk
  · exact (h11.moved hW.alike).kept hk
/-- the start of a contract, and its end -/
def mv_Pre (D : va_G) (cA : Nat → ClassId) (base : Nat) (oa : Nat → Nat) (L : Nat) (xs : Nat → Int32) (h : mv_H) (U : State) : Prop :=
  4 ≤ h.length ∧ h[0]? = some (.inl (0, L, .inl xs)) ∧ U.heap.size = base + (h.length - 4) ∧ va_P D vwCl (mv_ws base (mv_ad base oa) cA h) U.heap ∧ mv_Fr D cA base oa L xs U
def mv_Pc (D : va_G) (cA : Nat → ClassId) (base : Nat) (oa : Nat → Nat) (L : Nat) (xs : Nat → Int32) (as : List Value) (h : mv_H) : Array Value → State → Prop := fun v U => v = (as.map (mv_tr (mv_ad base oa))).toArray ∧ mv_Pre D cA base oa L xs h U
def mv_Qc (D : va_G) (cA : Nat → ClassId) (base : Nat) (oa : Nat → Nat) (L : Nat) (xs : Nat → Int32) (r : Option Value) (h1 : mv_H) : Array Value → State → Outcome → State → Prop := fun _ st o t => o = .returned (r.map (mv_tr (mv_ad base oa))) ∧ mv_Pre D cA base oa L xs h1 t ∧ va_F (fun q => base ≤ q) st t
theorem mv_Fr.same {D : va_G} {cA : Nat → ClassId} {base : Nat} {oa : Nat → Nat} {L : Nat} {xs : Nat → Int32} {u U : State} (h : mv_Fr D cA base oa L xs u) (hv : U.vm = u.vm) (hh : U.heap = u.heap) : mv_Fr D cA base oa L xs U := by
  obtain ⟨h1, ⟨h2, h3, h4⟩, h5, h6, h7, ⟨adV, h8⟩, h9, h10, h11⟩ := h
  have ha : u.vm.Alike U.vm := by rw [hv]; exact Vm.Alike.refl _
  refine ⟨va_K.moved ha h1, ⟨by rw [hh]; exact h2.moved ha, h3, by rw [hh]; exact h4⟩, h5.moved ha, h6.moved ha, fun q hq => (h7 q hq).same rfl hv.symm, ⟨adV, by rw [hh]; exact h8.moved ha⟩, fun q hq => (h9 q hq).same hv, by rw [hh]; exact h10.moved ha, by rw [hh]; exact h11.moved ha⟩
theorem mv_blind {D : va_G} {cA : Nat → ClassId} {base : Nat} {oa : Nat → Nat} {L : Nat} {xs : Nat → Int32} {as : List Value} {h : mv_H} : FrameBlind (mv_Pc D cA base oa L xs as h) := by
  intro a U g mk hq
  obtain ⟨h1, h2, h3, h4, h5, h6⟩ := hq
  exact ⟨h1, h2, h3, h4, h5, h6.same rfl rfl⟩
/-- the start of a call's contract, from the frame that calls -/
theorem mv_Pre.of {D : va_G} {cA : Nat → ClassId} {base : Nat} {oa : Nat → Nat} {L : Nat} {xs : Nat → Int32} {h : mv_H} {s U : State} {H : Heap} {locs : List Loc} {cells : Nat} (hF : mv_Fr D cA base oa L xs s) (hI : mv_I D cA base oa h s H locs cells) (h0 : h[0]? = some (.inl (0, L, .inl xs))) (hU : U.heap = H) (hW : s.WarmedH U.vm) : mv_Pre D cA base oa L xs h U := by
  obtain ⟨h1, h2, h3, h4, h5, h6⟩ := hI
  subst hU
  exact ⟨h1, h0, h2, h5, hF.moved hW h6.1 (fun q q1 q2 => h6.2.1 q q1 q2)⟩
theorem mv_sl_set {h : mv_H} {a : Nat} {e0 e1 : mv_E} (he : h[a]? = some e0) (hs : mv_sz e1 = mv_sz e0) : mv_sl (h.set a e1) = mv_sl h := by
  unfold mv_sl
  rw [List.map_set]
  have : (h.map mv_sz)[a]? = some (mv_sz e1) := by rw [List.getElem?_map, he, hs]; rfl
  congr 1
  apply List.ext_getElem?
  intro i
  rw [List.getElem?_set]
  by_cases hi : a = i
  · subst hi
    have hl : a < (h.map mv_sz).length := (List.getElem?_eq_some_iff.mp this).1
    rw [if_pos rfl, if_pos hl, this]
  · rw [if_neg hi]
theorem mv_sl_app {h : mv_H} {e : mv_E} : mv_sl (h ++ [e]) = mv_sl h + mv_sz e := by simp [mv_sl]
/-- what a stretch of a run keeps of the heap -/
def mv_ge (h h1 : mv_H) : Prop := h.length ≤ h1.length ∧ mv_sl h ≤ mv_sl h1 ∧ ∀ i, i < 4 → i < h.length → h1[i]? = h[i]?
theorem mv_ge.refl (h : mv_H) : mv_ge h h := ⟨Nat.le_refl _, Nat.le_refl _, fun _ _ _ => rfl⟩
theorem mv_ge.trans {a b c : mv_H} (h1 : mv_ge a b) (h2 : mv_ge b c) : mv_ge a c := ⟨Nat.le_trans h1.1 h2.1, Nat.le_trans h1.2.1 h2.2.1, fun i h3 h4 => (h2.2.2 i h3 (Nat.lt_of_lt_of_le h4 h1.1)).trans (h1.2.2 i h3 h4)⟩
theorem mv_ge_set {h : mv_H} {a : Nat} {e0 e1 : mv_E} (h4 : 4 ≤ a) (he : h[a]? = some e0) (hs : mv_sz e1 = mv_sz e0) : mv_ge h (h.set a e1) := ⟨by simp, by rw [mv_sl_set he hs]; exact Nat.le_refl _, fun i hi _ => by rw [List.getElem?_set, if_neg (by omega)]⟩
theorem mv_ge_app {h : mv_H} {e : mv_E} : mv_ge h (h ++ [e]) := ⟨by simp, by rw [mv_sl_app]; exact Nat.le_add_right _ _, fun i _ hl => List.getElem?_append_left hl⟩
