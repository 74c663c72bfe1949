/-! the next token -/
def tNx (X : Nat → Int32) (L i : Nat) : Tk := if rnE isSp X L i < L then tokA X L (rnE isSp X L i) else tEnd L
/-- what a token is, by its type -/
def TkOK (X : Nat → Int32) (L : Nat) (t : Tk) : Prop := (tTy t = 0 ∧ tAt t = L ∧ tEn t = L) ∨ (tAt t < L ∧ tAt t < tEn t ∧ tEn t ≤ L ∧ (tTy t = 1 ∨ ((tTy t = 2 ∨ (100 ≤ tTy t ∧ tTy t < 131)) ∧ ltw (tNm t) ∧ 1 ≤ (tNm t).length ∧ tTy t = wF (pk5 (tNm t))) ∨ (tTy t = 3 ∧ 0 ≤ tNu t ∧ tNu t ≤ 9999) ∨ (40 ≤ tTy t ∧ tTy t ≤ 62 ∧ X (tAt t) = Int32.ofNat (tTy t))))
section NXT
variable {N : Nat} {X : Nat → Int32} {L : Nat}
theorem numV_bd {a : Nat} : ∀ n, (∀ j, a ≤ j → j < a + n → isDg (X j) = true) → n ≤ 4 → ∃ k, numV (subL X a n) = Int32.ofNat k ∧ k < 10 ^ n := by
  intro n
  induction n with
  | zero => intro _ _; exact ⟨0, rfl, by simp⟩
  | succ n ih =>
    intro h hn
    obtain ⟨k, e, hk⟩ := ih (fun j h1 h2 => h j h1 (by omega)) (by omega)
    have hd := of_decide_eq_true (h (a + n) (by omega) (by omega))
    obtain ⟨c, hc, ec⟩ := i32_nat (x := X (a + n)) (n := 58) (by generalize X (a + n) = z at *; clear h ih e; grind) (by omega) (by generalize X (a + n) = z at *; clear h ih e; grind)
    rw [ec] at hd
    have h1 := (ofN_le (i := 48) (by omega) (by omega)).1 hd.1
    refine ⟨k * 10 + (c - 48), ?_, by rw [Nat.pow_succ]; omega⟩
    rw [subL_s, numV_s, e, ec, show (48 : Int32) = Int32.ofNat 48 from rfl, ofN_sub h1, show (10 : Int32) = Int32.ofNat 10 from rfl, ofN_mul, ofN_add]
theorem subL_len {a n : Nat} : (subL X a n).length = n := by unfold subL; rw [List.length_map, List.length_range']
theorem subL_mem {a n : Nat} {c : Int32} (h : c ∈ subL X a n) : ∃ j, a ≤ j ∧ j < a + n ∧ c = X j := by
  unfold subL at h
  obtain ⟨j, hj, e⟩ := List.mem_map.mp h
  have := List.mem_range'_1.mp hj
  exact ⟨j, this.1, this.2, e.symm⟩
theorem lets_sub {a e : Nat} (h : e = rnE isLt X L a) (h8 : e - a ≤ 8) : ltw (subL X a (e - a)) := by
  have hge := rnE_ge (P := isLt) (X := X) (L := L) (i := a)
  refine ⟨by rw [subL_len]; exact h8, fun c hc => ?_⟩
  obtain ⟨j, h1, h2, rfl⟩ := subL_mem hc
  exact of_decide_eq_true (rnE_in (P := isLt) (X := X) (L := L) (i := a) (j := j) h1 (by omega))
theorem tokA_ok {a : Nat} (hb : TxB X L) (ha : a < L) : TkOK X L (tokA X L a) := by
  right
  obtain ⟨e1, e2, e3⟩ := tokA_en (X := X) ha
  refine ⟨by omega, by omega, e2, ?_⟩
  rw [e3]
  by_cases hl : isLt (X a) = true
  · have et : tokA X L a = (if 8 < rnE isLt X L a - a then 1 else wF (pk5 (subL X a (rnE isLt X L a - a))), a, rnE isLt X L a, subL X a (rnE isLt X L a - a), 0) := by unfold tokA; rw [if_pos hl]
    have hgt := rnE_gt (P := isLt) (X := X) ha hl
    by_cases h8 : 8 < rnE isLt X L a - a
    · rw [if_pos h8] at et
      rw [et]; exact Or.inl rfl
    · rw [if_neg h8] at et
      rw [et]
      refine Or.inr (Or.inl ⟨wF_ge, lets_sub rfl (by omega), ?_, rfl⟩)
      show 1 ≤ (subL X a (rnE isLt X L a - a)).length
      rw [subL_len]; omega
  · by_cases hd : isDg (X a) = true
    · have et : tokA X L a = (if 4 < rnE isDg X L a - a ∨ (rnE isDg X L a < L ∧ isLt (X (rnE isDg X L a)) = true) then 1 else 3, a, rnE isDg X L a, [], numV (subL X a (rnE isDg X L a - a))) := by unfold tokA; rw [if_neg hl, if_pos hd]
      by_cases hc : 4 < rnE isDg X L a - a ∨ (rnE isDg X L a < L ∧ isLt (X (rnE isDg X L a)) = true)
      · rw [if_pos hc] at et
        rw [et]; exact Or.inl rfl
      · rw [if_neg hc] at et
        rw [et]
        have hge := rnE_ge (P := isDg) (X := X) (L := L) (i := a)
        have h4 : rnE isDg X L a - a ≤ 4 := by
          rcases Nat.lt_or_ge 4 (rnE isDg X L a - a) with q | q
          · exact absurd (Or.inl q) hc
          · exact q
        obtain ⟨k, e, hk⟩ := numV_bd (X := X) (a := a) (rnE isDg X L a - a) (fun j h1 h2 => rnE_in (P := isDg) (X := X) (L := L) (i := a) h1 (by omega)) h4
        have hk2 : k < 10000 := Nat.lt_of_lt_of_le hk (Nat.le_trans (Nat.pow_le_pow_right (by omega) h4) (by decide))
        refine Or.inr (Or.inr (Or.inl ⟨rfl, ?_⟩))
        show 0 ≤ numV (subL X a (rnE isDg X L a - a)) ∧ numV (subL X a (rnE isDg X L a - a)) ≤ 9999
        rw [e]
        exact ⟨ofN_nn (by omega), (ofN_le (j := 9999) (by omega) (by omega)).2 (by omega)⟩
    · have et : tokA X L a = (if isSg (X a) = true then (X a).toNatClampNeg else 1, a, a + 1, [], 0) := by unfold tokA; rw [if_neg hl, if_neg hd]
      by_cases hs : isSg (X a) = true
      · rw [if_pos hs] at et
        rw [et]
        refine Or.inr (Or.inr (Or.inr ?_))
        show 40 ≤ (X a).toNatClampNeg ∧ (X a).toNatClampNeg ≤ 62 ∧ X a = Int32.ofNat (X a).toNatClampNeg
        rcases of_decide_eq_true hs with q | q | q | q | q | q | q | q | q <;> rw [q] <;> decide
      · rw [if_neg hs] at et
        rw [et]; exact Or.inl rfl
theorem tNx_ok {i : Nat} (hb : TxB X L) (hi : i ≤ L) : TkOK X L (tNx X L i) := by
  unfold tNx
  split
  · rename_i h; exact tokA_ok hb h
  · exact Or.inl ⟨rfl, rfl, rfl⟩
set_option maxHeartbeats 1000000 in
theorem q158 {S : ms_S} {i : Nat} (hN : 1300 ≤ N) (hb : TxB X L) (hi : i ≤ L) (h : TxM S X L) (h7 : ms_I S 131 7 = Int32.ofNat i) : ∃ S1, f158 N S = some ((), S1) ∧ TkM S1 (tNx X L i) ∧ offN S S1 := by
  have hL := hb.1
  have hge := rnE_ge (P := isSp) (X := X) (L := L) (i := i)
  have hle := rnE_le (P := isSp) (X := X) hi
  have KJ : ∃ K : mM Unit, K = (mlet (fun (x1 : Int32) => (mret ())) fun J377 => mb (gI 131 6) fun v19 => mb (f151 N v19) fun v21 => mb (gI 131 6) fun v23 => mb (pI 131 7 (v23 + 1)) fun _ => mb (gI 131 6) fun v26 => mb (gI 131 3) fun v28 => if v26 < v28 then (mb (f152 N v21) fun v30 => if v30 = 0 then (mb (f153 N v21) fun v32 => if v32 = 0 then (mlet (fun (x1 : Int32) (y1 : Int32) => (mb (pI 131 8 y1) fun _ => J377 x1)) fun J374 => mb (f157 N v21) fun v35 => if v35 = 0 then (J374 v21 1) else (J374 v21 5)) else (mb (pI 131 9 0) fun _ => mb (gI 131 6) fun v38 => mb (pI 131 7 v38) fun _ => f158_L259 N (fun (x1 : Int32) => (mlet (fun (x1 : Int32) (y1 : Int32) => (mb (pI 131 8 y1) fun _ => J377 x1)) fun J355 => mlet (fun (x1 : Int32) => (J355 x1 1)) fun J350 => mb (gI 131 7) fun v62 => mb (gI 131 6) fun v64 => if (v62 - v64) > 4 then J350 x1 else (mb (gI 131 7) fun v66 => mb (f151 N v66) fun v68 => mb (f152 N v68) fun v70 => if v70 = 0 then (J355 x1 4) else J350 x1))) N v21)) else f158_L119 N (fun (x1 : Int32) => (mb (pJ 131 10 0) fun _ => mb (gI 131 6) fun v82 => (mlet (fun (x1 : Int32) (x2 : Int32) => (mlet (fun (x1 : Int32) (x2 : Int32) (y1 : Int32) => (mb (pI 131 8 y1) fun _ => J377 x1)) fun J233 => mb (gI 131 7) fun v94 => mb (gI 131 6) fun v96 => if (v94 - v96) ≤ 8 then (mb (gJ 131 10) fun v98 => mb (f156 N v98) fun v100 => if v100 = 0 then (J233 x1 x2 2) else (J233 x1 x2 3)) else (J233 x1 x2 1))) fun J199 => f158_L156 N J199 N x1 v82))) N v21) else (mb (pI 131 8 0) fun _ => mb (gI 131 3) fun v103 => mb (pI 131 6 v103) fun _ => mb (gI 131 3) fun v106 => mb (pI 131 7 v106) fun _ => J377 v21)) := ⟨_, rfl⟩
  obtain ⟨K, hK⟩ := KJ
  obtain ⟨S1, e1, r6, o1⟩ := skipL (N := N) (K := K) hb (rnE isSp X L i - i) i N (ms_setI S 131 6 (Int32.ofNat i)) (by omega) (by omega) hi (TxM_fr h (by decide) frK.st) (by simp [mG])
  have o1 : offN S S1 := (frK.of (by omega) frK.st).tr (frK.of (by omega) o1)
  have hx1 := TxM_off h o1
  have A0 : ∃ a, a = rnE isSp X L i := ⟨_, rfl⟩
  obtain ⟨a, ha⟩ := A0
  rw [← ha] at r6 hge hle
  have e0 : f158 N S = K S1 := by
    unfold f158
    simp only [mE, h7]
    rw [hK] at e1
    simp only [mE] at e1
    rw [hK]
    simp only [mE]
    exact e1
  have X0 : ∃ Y, Y = ms_setI S1 131 7 (Int32.ofNat (a + 1)) := ⟨_, rfl⟩
  obtain ⟨Y, hY⟩ := X0
  have oY : offN S Y := by rw [hY]; exact o1.tr (frK.of (by omega) frK.st)
  have hxY := TxM_off h oY
  have y6 : ms_I Y 131 6 = Int32.ofNat a := by rw [hY]; simp [mG]; exact r6
  have y7 : ms_I Y 131 7 = Int32.ofNat (a + 1) := by rw [hY]; simp [mG]
  rw [e0, hK]
  simp only [mE, r6]
  rw [E151 hb hx1 (by omega)]
  simp only [mE, r6, ofN_s, ← hY, y6, hxY.1]
  unfold tNx
  rw [← ha]
  by_cases hlt : a < L
  · rw [if_pos ((ofN_lt (by omega) (by omega)).2 hlt), if_pos hlt]
    have ec : chA X L a = X a := if_pos hlt
    rw [ec, E152]
    by_cases hl : isLt (X a) = true
    · have et : tokA X L a = (if 8 < rnE isLt X L a - a then 1 else wF (pk5 (subL X a (rnE isLt X L a - a))), a, rnE isLt X L a, subL X a (rnE isLt X L a - a), 0) := by unfold tokA; rw [if_pos hl]
      have hry := rnE_y hlt hl
      have hgt := rnE_gt (P := isLt) (X := X) hlt hl
      have hle2 := rnE_le (P := isLt) (X := X) (L := L) (i := a) (by omega)
      rw [if_pos hl]
      simp only [mE]
      rw [if_neg (by decide)]
      have KW : ∃ K2 : Int32 → mM Unit, K2 = (fun (x1 : Int32) => (mb (pJ 131 10 0) fun _ => mb (gI 131 6) fun v82 => f158_L156 N (fun (x1 : Int32) (x2 : Int32) => mb (gI 131 7) fun v94 => mb (gI 131 6) fun v96 => if (v94 - v96) ≤ 8 then (mb (gJ 131 10) fun v98 => mb (f156 N v98) fun v100 => if v100 = 0 then (mb (pI 131 8 2) fun _ => mret ()) else (mb (pI 131 8 3) fun _ => mret ())) else (mb (pI 131 8 1) fun _ => mret ())) N x1 v82)) := ⟨_, rfl⟩
      obtain ⟨K2, hK2⟩ := KW
      obtain ⟨S2, e2, r7, o2⟩ := letL (N := N) (K := K2) (x1 := X a) hb (rnE isLt X L (a + 1) - (a + 1)) (a + 1) N Y (by have := rnE_ge (P := isLt) (X := X) (L := L) (i := a + 1); omega) (by omega) (by omega) hxY y7
      rw [← hry] at r7
      have o2' : offN S S2 := oY.tr (frK.of (by omega) o2)
      have Z0 : ∃ Z, Z = ms_setJ S2 131 10 0 := ⟨_, rfl⟩
      obtain ⟨Z, hZ⟩ := Z0
      have z6 : ms_I Z 131 6 = Int32.ofNat a := by rw [hZ]; simp only [mGo]; rw [o2.1 6 (by decide)]; exact y6
      have z7 : ms_I Z 131 7 = Int32.ofNat (rnE isLt X L a) := by rw [hZ]; simp only [mGo]; exact r7
      have oZ : offN S Z := by rw [hZ]; exact o2'.tr offN_J
      obtain ⟨S3, x2, e3, rJ, rI, o3⟩ := nameL (N := N) (K := fun (x1 : Int32) (x2 : Int32) => mb (gI 131 7) fun v94 => mb (gI 131 6) fun v96 => if (v94 - v96) ≤ 8 then (mb (gJ 131 10) fun v98 => mb (f156 N v98) fun v100 => if v100 = 0 then (mb (pI 131 8 2) fun _ => mret ()) else (mb (pI 131 8 3) fun _ => mret ())) else (mb (pI 131 8 1) fun _ => mret ())) (x1 := X a) (a := a) (e := rnE isLt X L a) hb (by omega) hle2 (rnE isLt X L a - a) a N Z (by omega) (by omega) (Nat.le_refl _) (by omega) (TxM_off h oZ) z6 z7 (by rw [hZ, Nat.sub_self]; simp [mG]; rfl)
      have o3' : offN S S3 := oZ.tr ⟨fun j _ => by rw [rI], o3⟩
      have s6 : ms_I S3 131 6 = Int32.ofNat a := by rw [rI]; exact z6
      have s7 : ms_I S3 131 7 = Int32.ofNat (rnE isLt X L a) := by rw [rI]; exact z7
      have step : f158_L119 N (fun (x1 : Int32) => (mb (pJ 131 10 0) fun _ => mb (gI 131 6) fun v82 => f158_L156 N (fun (x1 : Int32) (x2 : Int32) => mb (gI 131 7) fun v94 => mb (gI 131 6) fun v96 => if (v94 - v96) ≤ 8 then (mb (gJ 131 10) fun v98 => mb (f156 N v98) fun v100 => if v100 = 0 then (mb (pI 131 8 2) fun _ => mret ()) else (mb (pI 131 8 3) fun _ => mret ())) else (mb (pI 131 8 1) fun _ => mret ())) N x1 v82)) N (X a) Y = (if 8 < rnE isLt X L a - a then some ((), ms_setI S3 131 8 1) else if wF (pk5 (subL X a (rnE isLt X L a - a))) = 2 then some ((), ms_setI S3 131 8 2) else some ((), ms_setI S3 131 8 3)) := by
        rw [← hK2, e2, hK2]
        simp only [mF, mE, ← hZ, z6]
        rw [e3]
        simp only [mE, s6, s7]
        rw [ofN_sub (by omega)]
        have h8i : (Int32.ofNat (rnE isLt X L a - a) ≤ 8) ↔ rnE isLt X L a - a ≤ 8 := ofN_le (j := 8) (by omega) (by omega)
        by_cases h8 : 8 < rnE isLt X L a - a
        · rw [if_neg (fun q => by have := h8i.1 q; omega), if_pos h8]
        · rw [if_pos (h8i.2 (by omega)), if_neg h8]
          rw [Nat.min_eq_left (by omega)] at rJ
          simp only [mF, rJ]
          have m156 : ∀ {β : Type} {f' : Int32 → mM β}, mb (f156 N (pk8 (subL X a (rnE isLt X L a - a)))) f' S3 = f' (if wF (pk5 (subL X a (rnE isLt X L a - a))) = 2 then 0 else 1) S3 := by intro β f'; simp only [mb, q156 (N := N) (S := S3) (lets_sub (X := X) (L := L) (a := a) rfl (show rnE isLt X L a - a ≤ 8 by omega))]
          rw [m156]
          by_cases hw : wF (pk5 (subL X a (rnE isLt X L a - a))) = 2
          · rw [if_pos hw, if_pos hw, if_pos rfl]; rfl
          · rw [if_neg hw, if_neg hw, if_neg (by decide)]; rfl
      have fin : ∀ v, v = clsT (tTy (tokA X L a)) → (tTy (tokA X L a) ≠ 1 → rnE isLt X L a - a ≤ 8) → TkM (ms_setI S3 131 8 v) (tokA X L a) ∧ offN S (ms_setI S3 131 8 v) := by
        intro v hv h8
        refine ⟨⟨by rw [et]; simp [mG]; exact s6, by rw [et]; simp [mG]; exact s7, by rw [← hv]; simp [mG], fun q => ?_, fun q => ?_⟩, o3'.tr (frK.of (by omega) frK.st)⟩
        · exfalso
          rw [et] at q
          have q : (if 8 < rnE isLt X L a - a then 1 else wF (pk5 (subL X a (rnE isLt X L a - a)))) = 3 := q
          split at q
          · omega
          · rcases wF_ge (v := pk5 (subL X a (rnE isLt X L a - a))) with w | w <;> omega
        · have := h8 (by omega)
          rw [Nat.min_eq_left this] at rJ
          rw [et]
          simp only [mGo]
          exact rJ
      refine (?_ : ∃ S1, f158_L119 N (fun (x1 : Int32) => (mb (pJ 131 10 0) fun _ => mb (gI 131 6) fun v82 => f158_L156 N (fun (x1 : Int32) (x2 : Int32) => mb (gI 131 7) fun v94 => mb (gI 131 6) fun v96 => if (v94 - v96) ≤ 8 then (mb (gJ 131 10) fun v98 => mb (f156 N v98) fun v100 => if v100 = 0 then (mb (pI 131 8 2) fun _ => mret ()) else (mb (pI 131 8 3) fun _ => mret ())) else (mb (pI 131 8 1) fun _ => mret ())) N x1 v82)) N (X a) Y = some ((), S1) ∧ TkM S1 (tokA X L a) ∧ offN S S1)
      rw [step]
      by_cases h8 : 8 < rnE isLt X L a - a
      · rw [if_pos h8]
        rw [if_pos h8] at et
        have := fin 1 (by rw [et]; rfl) (fun q => absurd (by rw [et]; rfl) q)
        exact ⟨_, rfl, this⟩
      · rw [if_neg h8]
        rw [if_neg h8] at et
        by_cases hw : wF (pk5 (subL X a (rnE isLt X L a - a))) = 2
        · rw [if_pos hw]
          rw [hw] at et
          have := fin 2 (by rw [et]; rfl) (fun _ => by omega)
          exact ⟨_, rfl, this⟩
        · rw [if_neg hw]
          have := fin 3 (by
            rw [et]
            show 3 = clsT (wF (pk5 (subL X a (rnE isLt X L a - a))))
            rcases wF_ge (v := pk5 (subL X a (rnE isLt X L a - a))) with w | w
            · exact absurd w hw
            · unfold clsT
              rw [if_neg (by omega), if_neg (by omega), if_neg (by omega), if_neg (by omega), if_pos w.1]) (fun _ => by omega)
          exact ⟨_, rfl, this⟩
    · rw [if_neg hl]
      simp only [mE]
      rw [if_pos trivial, E153]
      by_cases hd : isDg (X a) = true
      · have et : tokA X L a = (if 4 < rnE isDg X L a - a ∨ (rnE isDg X L a < L ∧ isLt (X (rnE isDg X L a)) = true) then 1 else 3, a, rnE isDg X L a, [], numV (subL X a (rnE isDg X L a - a))) := by unfold tokA; rw [if_neg hl, if_pos hd]
        have hge2 := rnE_ge (P := isDg) (X := X) (L := L) (i := a)
        have hle2 := rnE_le (P := isDg) (X := X) (L := L) (i := a) (by omega)
        rw [if_pos hd]
        simp only [mE]
        rw [if_neg (by decide)]
        have Z0 : ∃ Z, Z = ms_setI (ms_setI Y 131 9 0) 131 7 (Int32.ofNat a) := ⟨_, rfl⟩
        obtain ⟨Z, hZ⟩ := Z0
        have oZ : offN S Z := by rw [hZ]; exact (oY.tr (frK.of (by omega) frK.st)).tr (frK.of (by omega) frK.st)
        have y6b : ms_I (ms_setI Y 131 9 0) 131 6 = Int32.ofNat a := by simp [mG]; exact y6
        obtain ⟨S2, e2, r7, r9, r6', o2⟩ := digL (N := N) (K := fun (x1 : Int32) => mb (gI 131 7) fun v62 => mb (gI 131 6) fun v64 => if (v62 - v64) > 4 then (mb (pI 131 8 1) fun _ => mret ()) else (mb (gI 131 7) fun v66 => mb (f151 N v66) fun v68 => mb (f152 N v68) fun v70 => if v70 = 0 then (mb (pI 131 8 4) fun _ => mret ()) else (mb (pI 131 8 1) fun _ => mret ()))) (x1 := X a) (a := a) hb (by omega) (rnE isDg X L a - a) a N Z (by omega) (Nat.le_refl _) (by omega) (TxM_off h oZ) (by rw [hZ]; simp [mG]; exact y6) (by rw [hZ]; simp [mG]) (by rw [hZ, Nat.sub_self]; simp [mG]; rfl)
        have o2' : offN S S2 := oZ.tr o2
        have hx2 := TxM_off h o2'
        simp only [mE, y6b, ← hZ]
        have E0 : ∃ e, e = rnE isDg X L a := ⟨_, rfl⟩
        obtain ⟨e, he⟩ := E0
        rw [← he] at r7 r9 hge2 hle2 et
        have fin : ∀ v ty, tTy (tokA X L a) = ty → (ty = 1 ∨ (ty = 3 ∧ e - a ≤ 4)) → v = clsT ty → TkM (ms_setI S2 131 8 v) (tokA X L a) ∧ offN S (ms_setI S2 131 8 v) := by
          intro v ty hty h13 hv
          refine ⟨⟨by rw [et]; simp [mG]; exact r6', by rw [et]; simp [mG]; exact r7, by rw [hty, ← hv]; simp [mG], fun q => ?_, fun q => ?_⟩, o2'.tr (frK.of (by omega) frK.st)⟩
          · rcases h13 with w | w
            · omega
            · rw [Nat.min_eq_left w.2] at r9
              rw [et]; simp [mG]; exact r9
          · omega
        have good : ¬ (4 < e - a ∨ (e < L ∧ isLt (X e) = true)) → TkM (ms_setI S2 131 8 4) (tokA X L a) ∧ offN S (ms_setI S2 131 8 4) := fun hc => fin 4 3 (by rw [et, if_neg hc]; rfl) (Or.inr ⟨rfl, by rcases Nat.lt_or_ge 4 (e - a) with q | q; exact absurd (Or.inl q) hc; exact q⟩) rfl
        have bad : (4 < e - a ∨ (e < L ∧ isLt (X e) = true)) → TkM (ms_setI S2 131 8 1) (tokA X L a) ∧ offN S (ms_setI S2 131 8 1) := fun hc => fin 1 1 (by rw [et, if_pos hc]; rfl) (Or.inl rfl) rfl
        rw [e2]
        simp only [mE, r7, r6', ofN_sub hge2]
        have hgt : (Int32.ofNat (e - a) > 4) ↔ 4 < e - a := ofN_lt (i := 4) (by omega) (by omega)
        by_cases h4 : 4 < e - a
        · rw [if_pos (hgt.2 h4)]
          exact ⟨_, rfl, bad (Or.inl h4)⟩
        · rw [if_neg (fun q => h4 (hgt.1 q)), E151 hb hx2 (by omega), E152]
          by_cases hc : e < L ∧ isLt (X e) = true
          · rw [show chA X L e = X e from if_pos hc.1, if_pos hc.2, if_neg (by decide)]
            exact ⟨_, rfl, bad (Or.inr hc)⟩
          · have hno : isLt (chA X L e) = false := by
              unfold chA
              by_cases hel : e < L
              · rw [if_pos hel]
                cases hq : isLt (X e) with
                | false => rfl
                | true => exact absurd ⟨hel, hq⟩ hc
              · rw [if_neg hel]; decide
            rw [hno]
            exact ⟨_, rfl, good (fun q => q.elim h4 hc)⟩
      · have et : tokA X L a = (if isSg (X a) = true then (X a).toNatClampNeg else 1, a, a + 1, [], 0) := by unfold tokA; rw [if_neg hl, if_neg hd]
        rw [if_neg hd]
        simp only [mE]
        rw [if_pos trivial]
        have m157 : ∀ {β : Type} {f' : Int32 → mM β}, mb (f157 N (X a)) f' Y = f' (if isSg (X a) = true then 1 else 0) Y := by intro β f'; simp only [mb, q157]
        rw [m157]
        have fin : ∀ v, v = clsT (tTy (tokA X L a)) → (tTy (tokA X L a) = 1 ∨ (40 ≤ tTy (tokA X L a) ∧ tTy (tokA X L a) ≤ 62)) → TkM (ms_setI Y 131 8 v) (tokA X L a) ∧ offN S (ms_setI Y 131 8 v) := by
          intro v hv hty
          exact ⟨⟨by rw [et]; simp [mG]; exact y6, by rw [et]; simp [mG]; exact y7, by rw [← hv]; simp [mG], fun q => absurd q (by omega), fun q => absurd q (by omega)⟩, oY.tr (frK.of (by omega) frK.st)⟩
        by_cases hs : isSg (X a) = true
        · rw [if_pos hs]
          simp only [mE]
          rw [if_neg (by decide)]
          rw [if_pos hs] at et
          have hrange : 40 ≤ (X a).toNatClampNeg ∧ (X a).toNatClampNeg ≤ 62 := by
            rcases of_decide_eq_true hs with q | q | q | q | q | q | q | q | q <;> rw [q] <;> decide
          have ety : tTy (tokA X L a) = (X a).toNatClampNeg := by rw [et]; rfl
          refine ⟨_, rfl, fin 5 ?_ (Or.inr (by rw [ety]; exact hrange))⟩
          rw [ety]
          unfold clsT
          rw [if_neg (by omega), if_neg (by omega), if_neg (by omega), if_neg (by omega), if_neg (by omega)]
        · rw [if_neg hs]
          simp only [mE]
          rw [if_pos trivial]
          rw [if_neg hs] at et
          exact ⟨_, rfl, fin 1 (by rw [et]; rfl) (Or.inl (by rw [et]; rfl))⟩
  · rw [if_neg (fun q => hlt ((ofN_lt (by omega) (by omega)).1 q)), if_neg hlt]
    have t3 : ms_I (ms_setI Y 131 8 0) 131 3 = Int32.ofNat L := by simp [mG]; exact hxY.1
    have t3b : ms_I (ms_setI (ms_setI Y 131 8 0) 131 6 (Int32.ofNat L)) 131 3 = Int32.ofNat L := by simp [mG]; exact hxY.1
    simp only [mE, t3, t3b]
    exact ⟨_, rfl, ⟨by simp [mG]; rfl, by simp [mG]; rfl, by simp [mG]; rfl, fun q => absurd q (by show ¬ ((0 : Nat) = 3); decide), fun q => absurd q (by show ¬ ((0 : Nat) = 2 ∨ 100 ≤ 0); decide)⟩, ((oY.tr (frK.of (by omega) frK.st)).tr (frK.of (by omega) frK.st)).tr (frK.of (by omega) frK.st)⟩
end NXT
