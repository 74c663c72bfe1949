/-! the reference's machine: behind a unit -/
def ResK (f : mM Int32) (S : ms_S) (X : Nat → Int32) (L line c0 : Nat) (m : Mx) : Prop := ∃ v S1, f S = some (v, S1) ∧ MS S1 X L m.2.2.1.1 ∧ (gd m.2.2.1.1 = true → v = (if m.1 = true then 1 else 0) ∧ PK S1 m.2.1 ∧ CK S1 line c0 m.2.2.1.2.1 m.2.2.1.2.2 m.2.2.2) ∧ offK c0 S S1
def b138 (N : Nat) (y1 y2 : Int32) : mM Int32 := mb (f187 N y1 y2) fun _ => mb (f158 N) fun _ => mretZ 1
def b104 (N : Nat) (x1 : Int32) : mM Int32 := (if x1 ≤ 0 then (mb (gI 131 40) fun v24 => mb (pI 131 40 (v24 - 1)) fun _ => mb (gI 131 40) fun v27 => mb (lA 152 80 v27) fun v29 => if v29 ≠ 7 then mretZ 0 else (mb (gI 131 39) fun v31 => mb (pI 131 39 (v31 - 1)) fun _ => mb (f159 N 41) fun v34 => mb (f162 N v34) fun _ => mretZ 0)) else (if x1 ≠ 2 then (if x1 ≠ 1 then (mb (gI 131 6) fun v39 => mb (f151 N v39) fun v41 => b138 N x1 v41) else b138 N x1 124) else b138 N x1 38))
theorem f194_eq {N : Nat} : f194 N = (mb (f192 N) fun v43 => if v43 ≠ 4 then f194_L23 N (b104 N) N v43 else (mb (f193 N) fun v45 => if v45 = 0 then f194_L23 N (b104 N) N v43 else (mb (f161 N) fun _ => mretZ 1))) := rfl
section BEK
variable {N : Nat} {X : Nat → Int32} {L : Nat} {line c0 : Nat}
theorem E160 {S : ms_S} {j i : Nat} (hb : TxB X L) (hi : i < 31) (h : MS S X L (.inr j)) {β : Type} {f : Int32 → mM β} : mb (f160 N (K8I i)) f S = f (if tTy (tkJ X L j) = 100 + i then 1 else 0) S := by
  obtain ⟨v, e1, _, e2⟩ := q160 (N := N) hb hi h
  simp only [mb, e1, e2 j rfl]
theorem E159 {S : ms_S} {j c : Nat} (hb : TxB X L) (hc : 40 ≤ c ∧ c ≤ 62) (h : MS S X L (.inr j)) {β : Type} {f : Int32 → mM β} : mb (f159 N (Int32.ofNat c)) f S = f (if tTy (tkJ X L j) = c then 1 else 0) S := by
  obtain ⟨v, e1, _, e2⟩ := q159 (N := N) hb hc h
  simp only [mb, e1, e2 j rfl]
theorem q192 {S : ms_S} {j : Nat} (hb : TxB X L) (h : MS S X L (.inr j)) : f192 N S = some (Int32.ofNat (rkT (tTy (tkJ X L j))), S) := by
  have a15 : ∀ {β : Type} {f : Int32 → mM β}, mb (f160 N 6385252) f S = f (if tTy (tkJ X L j) = 115 then 1 else 0) S := by intro β f; exact E160 (i := 15) hb (by omega) h
  have a14 : ∀ {β : Type} {f : Int32 → mM β}, mb (f160 N 28530) f S = f (if tTy (tkJ X L j) = 114 then 1 else 0) S := by intro β f; exact E160 (i := 14) hb (by omega) h
  have b60 : ∀ {β : Type} {f : Int32 → mM β}, mb (f159 N 60) f S = f (if tTy (tkJ X L j) = 60 then 1 else 0) S := by intro β f; exact E159 (c := 60) hb (by omega) h
  have b61 : ∀ {β : Type} {f : Int32 → mM β}, mb (f159 N 61) f S = f (if tTy (tkJ X L j) = 61 then 1 else 0) S := by intro β f; exact E159 (c := 61) hb (by omega) h
  have b62 : ∀ {β : Type} {f : Int32 → mM β}, mb (f159 N 62) f S = f (if tTy (tkJ X L j) = 62 then 1 else 0) S := by intro β f; exact E159 (c := 62) hb (by omega) h
  have b43 : ∀ {β : Type} {f : Int32 → mM β}, mb (f159 N 43) f S = f (if tTy (tkJ X L j) = 43 then 1 else 0) S := by intro β f; exact E159 (c := 43) hb (by omega) h
  have b45 : ∀ {β : Type} {f : Int32 → mM β}, mb (f159 N 45) f S = f (if tTy (tkJ X L j) = 45 then 1 else 0) S := by intro β f; exact E159 (c := 45) hb (by omega) h
  have b42 : ∀ {β : Type} {f : Int32 → mM β}, mb (f159 N 42) f S = f (if tTy (tkJ X L j) = 42 then 1 else 0) S := by intro β f; exact E159 (c := 42) hb (by omega) h
  have y : ∀ {p : Prop} [Decidable p] {β : Type} {a b : β}, p → (if (if p then (1 : Int32) else 0) = 0 then a else b) = b := by intro p _ β a b hp; rw [if_pos hp, if_neg (by decide)]
  have n : ∀ {p : Prop} [Decidable p] {β : Type} {a b : β}, ¬ p → (if (if p then (1 : Int32) else 0) = 0 then a else b) = a := by intro p _ β a b hp; rw [if_neg hp, if_pos rfl]
  have y2 : ∀ {p : Prop} [Decidable p] {β : Type} {a b : β}, p → (if (if p then (1 : Int32) else 0) ≠ 0 then a else b) = a := by intro p _ β a b hp; rw [if_pos hp, if_pos (by decide)]
  have n2 : ∀ {p : Prop} [Decidable p] {β : Type} {a b : β}, ¬ p → (if (if p then (1 : Int32) else 0) ≠ 0 then a else b) = b := by intro p _ β a b hp; rw [if_neg hp, if_neg (fun z => z rfl)]
  generalize tTy (tkJ X L j) = ty at *
  unfold f192 rkT
  simp only [mE]
  rw [a15]
  by_cases h15 : ty = 115
  · rw [y h15, if_neg (by omega), if_pos h15]; rfl
  · rw [n h15, a14]
    by_cases h14 : ty = 114
    · rw [y h14, if_pos h14]; rfl
    · rw [n h14, if_neg h14, if_neg h15, b60]
      by_cases h60 : ty = 60
      · rw [y2 h60, if_pos (Or.inl h60)]; rfl
      · rw [n2 h60, b62]
        by_cases h62 : ty = 62
        · rw [y2 h62, if_pos (Or.inr (Or.inr h62))]; rfl
        · rw [n2 h62, b61]
          by_cases h61 : ty = 61
          · rw [y h61, if_pos (Or.inr (Or.inl h61))]; rfl
          · rw [n h61, if_neg (by omega), b43]
            by_cases h43 : ty = 43
            · rw [y2 h43, if_pos (Or.inl h43)]; rfl
            · rw [n2 h43, b45]
              by_cases h45 : ty = 45
              · rw [y h45, if_pos (Or.inr h45)]; rfl
              · rw [n h45, if_neg (by omega), b42]
                by_cases h42 : ty = 42
                · rw [y h42, if_pos h42]; rfl
                · rw [n h42, if_neg h42]; rfl
/-- a sign of two sides, and its letter -/
theorem rk_sg {ty : Nat} (h : 0 < rkT ty) : (rkT ty = 2 ∧ ty = 115) ∨ (rkT ty = 1 ∧ ty = 114) ∨ (rkT ty ≠ 2 ∧ rkT ty ≠ 1 ∧ 40 ≤ ty ∧ ty ≤ 62 ∧ mCh 0 ty = Int32.ofNat ty) := by
  have : ty = 114 ∨ ty = 115 ∨ ty = 60 ∨ ty = 61 ∨ ty = 62 ∨ ty = 43 ∨ ty = 45 ∨ ty = 42 := by
    unfold rkT at h
    repeat' split at h
    all_goals omega
  rcases this with z | z | z | z | z | z | z | z <;> rw [z] <;> decide
theorem behK {st : List Ek} {j d : Nat} {c : Cd} {u : Nat} {S : ms_S} (hN : 1300 ≤ N) (hb : TxB X L) (hm : MS S X L (.inr j)) (hi : IvM X L c0 (false, st, (.inr j, c, u), d)) (hs : st ≠ []) (hp : PK S st) (hc : CK S line c0 c u d) : ResK (f194 N) S X L line c0 (mB X L st (.inr j, c, u) d) := by
  obtain ⟨w1, w2, w3, w4, w5⟩ := hi
  have w2 : d = dpE st := w2
  have w3 : d ≤ 7 := w3
  have w4 : u ≤ 100 := w4
  obtain ⟨w5, w6⟩ := w5 rfl
  have w5 : j < tkN X L := w5
  have w6 : c0 + c.length + st.length ≤ j + 1 := w6
  have hn := tkN_le hb
  have T0 : ∃ ty, ty = tTy (tkJ X L j) := ⟨_, rfl⟩
  obtain ⟨ty, hty⟩ := T0
  have eT : sTy X L (.inr j) = ty := by rw [hty]; rfl
  have m192 : ∀ {β : Type} {f' : Int32 → mM β}, mb (f192 N) f' S = f' (Int32.ofNat (rkT ty)) S := by intro β f'; rw [hty]; simp only [mb, q192 (N := N) hb hm]
  have m193 : ∀ {β : Type} {f' : Int32 → mM β}, mb (f193 N) f' S = f' (if cmpd st = true then 1 else 0) S := by intro β f'; simp only [mb, q193 (N := N) (by omega) w1 (by omega) hs hp]
  have hv := rk_vals (ty := ty)
  have c4 : (Int32.ofNat (rkT ty) = 4) ↔ rkT ty = 4 := ofN_eq (j := 4) (by omega) (by omega)
  unfold ResK
  rw [f194_eq, m192]
  show ∃ v S1, _ ∧ MS S1 X L (if rkT (sTy X L (.inr j)) = 4 ∧ cmpd st = true then ((true, st, (rf X L 2 (.inr j), (c, u)), d) : Mx) else _).2.2.1.1 ∧ _
  unfold mB
  show ∃ v S1, _
  rw [show sTy X L ((.inr j, c, u) : Px).1 = ty from eT]
  by_cases hf : rkT ty = 4 ∧ cmpd st = true
  · rw [if_neg (fun z => z (c4.2 hf.1)), m193, hf.2, if_pos rfl, if_neg (by decide), if_pos ⟨hf.1, rfl⟩]
    obtain ⟨S1, e1, m1, o1, _⟩ := q161 (N := N) hb hm
    refine ⟨1, S1, ?_, m1, (fun z => by rw [show gd (rf X L 2 (.inr j)) = false from gd_rf] at z; cases z), o1.k⟩
    simp only [mb, e1]
    rfl
  · rw [if_neg hf]
    obtain ⟨S1, e1, m1, p1, k1, o1⟩ := reduK (N := N) (X := X) (L := L) (line := line) (c0 := c0) (u := u) (σ := .inr j) (K := b104 N) (r := rkT ty) (by omega) st c d N S w1 w2 w3 hs (by have := wfs_60 w1 (by omega); omega) (by omega) hm hp hc
    obtain ⟨a1, a2, a3, a4, a5, a6⟩ := redu_inv (r := rkT ty) st c d w1 w2 hs
    have fin : ∀ m : Mx, ResK (b104 N (Int32.ofNat (rkT ty))) S1 X L line c0 m → ∃ v S2, (if Int32.ofNat (rkT ty) ≠ 4 then f194_L23 N (b104 N) N (Int32.ofNat (rkT ty)) else (mb (f193 N) fun v45 => if v45 = 0 then f194_L23 N (b104 N) N (Int32.ofNat (rkT ty)) else (mb (f161 N) fun _ => mretZ 1))) S = some (v, S2) ∧ MS S2 X L m.2.2.1.1 ∧ (gd m.2.2.1.1 = true → v = (if m.1 = true then 1 else 0) ∧ PK S2 m.2.1 ∧ CK S2 line c0 m.2.2.1.2.1 m.2.2.1.2.2 m.2.2.2) ∧ offK c0 S S2 := by
      intro m ⟨v, S2, e2, m2, g2, o2⟩
      refine ⟨v, S2, ?_, m2, g2, o1.tr o2⟩
      by_cases h4 : rkT ty = 4
      · rw [if_neg (fun z => z (c4.2 h4)), m193, if_neg (fun z => hf ⟨h4, z⟩), if_pos rfl, e1]
        exact e2
      · rw [if_pos (fun z => h4 (c4.1 z)), e1]
        exact e2
    apply fin
    clear fin e1
    by_cases h0 : 0 < rkT ty
    · rw [if_pos h0]
      generalize redu (rkT ty) st c d = w at *
      obtain ⟨ws, wc, wd⟩ := w
      have a3 : wc.length + ws.length = c.length + st.length := a3
      have a6 : wd ≤ d := a6
      have p1 : PK S1 ws := p1
      have k1 : CK S1 line c0 wc u wd := k1
      have t0 : tTy (tkJ X L j) ≠ 0 := fun z => by rw [← hty] at z; rw [z] at h0; exact absurd h0 (by decide)
      have t1 : tTy (tkJ X L j) ≠ 1 := fun z => by rw [← hty] at z; rw [z] at h0; exact absurd h0 (by decide)
      have a4 : wd = dpE ws := a4
      have hlen := wfs_60 (st := ws) a1 (by omega)
      have push : ∀ v, v = mCh 0 ty → ResK (b138 N (Int32.ofNat (rkT ty)) v) S1 X L line c0 (true, (rkT ty, ty) :: ws, (nx (.inr j), wc, u), wd) := fun v hvv => by
        obtain ⟨S2, e2, p2, m2, k2, o2⟩ := q187 (N := N) (X := X) (L := L) (line := line) (c0 := c0) (e := (rkT ty, ty)) (v := v) p1 (by omega) (fun _ => ⟨hvv, fun z => by have : ty = 111 := z; rw [this] at h0; exact absurd h0 (by decide)⟩)
        obtain ⟨S3, e3, m3, o3⟩ := qnext (N := N) hN hb (m2 m1) t0 t1
        have e2 : f187 N (Int32.ofNat (rkT ty)) v S1 = _ := e2
        refine ⟨1, S3, ?_, m3, fun _ => ⟨rfl, PK_m p2 o3, CK_m (k2 k1) o3⟩, o2.tr o3.k⟩
        unfold b138
        simp only [mb, e2, e3]
        rfl
      unfold b104
      rw [if_neg (fun z => by have := (ofN_le (j := 0) (by omega) (by omega)).1 z; omega)]
      have c2 : (Int32.ofNat (rkT ty) = 2) ↔ rkT ty = 2 := ofN_eq (j := 2) (by omega) (by omega)
      have c1 : (Int32.ofNat (rkT ty) = 1) ↔ rkT ty = 1 := ofN_eq (j := 1) (by omega) (by omega)
      rcases rk_sg h0 with ⟨z1, z2⟩ | ⟨z1, z2⟩ | ⟨z1, z2, z3, z4, z5⟩
      · rw [if_neg (fun z => z (c2.2 z1))]
        exact push 38 (by rw [z2]; rfl)
      · rw [if_pos (fun z => by have := c2.1 z; omega), if_neg (fun z => z (c1.2 z1))]
        exact push 124 (by rw [z2]; rfl)
      · rw [if_pos (fun z => z1 (c2.1 z)), if_pos (fun z => z2 (c1.1 z))]
        have tk := m1.2.2.1
        have hok := tkJ_ok hb w5
        have hx : chA X L (tAt (tkJ X L j)) = Int32.ofNat ty ∧ tAt (tkJ X L j) ≤ 1200 := by
          have hL := hb.1
          rcases hok with q | ⟨q1, q2, q3, q⟩
          · omega
          · rcases q with q | ⟨q, _⟩ | ⟨q, _⟩ | ⟨q4, q5, q6⟩
            · omega
            · omega
            · omega
            · exact ⟨by rw [show chA X L (tAt (tkJ X L j)) = X (tAt (tkJ X L j)) from if_pos q1, q6, hty], by omega⟩
        obtain ⟨v, S2, e2, r2⟩ := push (Int32.ofNat ty) z5.symm
        refine ⟨v, S2, ?_, r2⟩
        simp only [mE, tk.1]
        rw [E151 hb m1.1 (by omega), hx.1]
        exact e2
    · rw [if_neg h0]
      have er : rkT ty = 0 := by omega
      rw [er] at a1 a2 a3 a4 a5 a6 p1 k1 ⊢
      generalize redu 0 st c d = w at *
      obtain ⟨ws, wc, wd⟩ := w
      have a3 : wc.length + ws.length = c.length + st.length := a3
      have a6 : wd ≤ d := a6
      have p1 : PK S1 ws := p1
      have k1 : CK S1 line c0 wc u wd := k1
      unfold b104
      rw [if_pos (by decide)]
      have a4 : wd = dpE ws := a4
      have hlen := wfs_60 (st := ws) a1 (by omega)
      cases ws with
      | nil => exact absurd rfl a2
      | cons e s =>
        have a5 : 7 ≤ e.1 := by rcases a5 with z | z; exact z; exact absurd z (Nat.not_lt_zero _)
        have h78 := wfs_78 a1 a5
        obtain ⟨p0, p2, p3, p4⟩ := p1
        have p0 : ms_I S1 131 40 = Int32.ofNat (s.length + 1) := p0
        have hlen : s.length + 1 ≤ 56 := hlen
        have i1 : inR (Int32.ofNat s.length) 80 := ofN_inR (by omega) (by omega)
        have i2 := ofN_cl (i := s.length) (by omega)
        have Y0 : ∃ Y, Y = ms_setI S1 131 40 (Int32.ofNat s.length) := ⟨_, rfl⟩
        obtain ⟨Y, hY⟩ := Y0
        have y40 : ms_I Y 131 40 = Int32.ofNat s.length := by rw [hY]; simp only [mG, and_self, if_true]
        have yI : ∀ j, j ≠ 40 → ms_I Y 131 j = ms_I S1 131 j := fun j hj => by rw [hY]; simp only [mG, true_and, if_neg hj]
        have yA : ∀ b, ms_A Y b = ms_A S1 b := fun b => by rw [hY]; simp only [mGo]
        have pY : PK Y s := ⟨y40, PKs_fr s p4 (fun i _ => ⟨by rw [yA], by rw [yA]⟩)⟩
        have mY : MS Y X L (.inr j) := by rw [hY]; exact MS_I m1 (by omega)
        have oY : offK c0 S1 Y := by rw [hY]; exact offK.wI (by omega)
        have cY : CK Y line c0 wc u wd := ⟨by rw [yI 37 (by decide)]; exact k1.1, by rw [yI 38 (by decide)]; exact k1.2.1, by rw [yI 39 (by decide)]; exact k1.2.2.1, fun j hj => by rw [yA, yA]; exact k1.2.2.2 j hj⟩
        have y152 : ms_A Y 152 s.length = Int32.ofNat e.1 := by rw [yA]; exact p2
        show ResK _ S1 X L line c0 (if e.1 = 7 then (false, s, (dm X L 41 (.inr j), wc, u), wd - 1) else (false, s, (.inr j, wc, u), wd))
        have c7 : (Int32.ofNat e.1 = 7) ↔ e.1 = 7 := ofN_eq (j := 7) (by omega) (by omega)
        unfold ResK
        simp only [mE, p0, ofN_p, ← hY, y40, i1, i2, y152]
        by_cases h7 : e.1 = 7
        · rw [if_neg (fun z => z (c7.2 h7)), if_pos h7]
          have a4 : wd = (if e.1 = 3 ∨ e.1 = 7 then 1 else 0) + dpE s := a4
          rw [if_pos (Or.inr h7)] at a4
          have Z0 : ∃ Z, Z = ms_setI Y 131 39 (Int32.ofNat (wd - 1)) := ⟨_, rfl⟩
          obtain ⟨Z, hZ⟩ := Z0
          have ed : Int32.ofNat wd - 1 = Int32.ofNat (wd - 1) := by
            obtain ⟨k, rfl⟩ : ∃ k, wd = k + 1 := ⟨wd - 1, by omega⟩
            rw [ofN_p]; rfl
          have zI : ∀ j, j ≠ 39 → ms_I Z 131 j = ms_I Y 131 j := fun j hj => by rw [hZ]; simp only [mG, true_and, if_neg hj]
          have z39 : ms_I Z 131 39 = Int32.ofNat (wd - 1) := by rw [hZ]; simp only [mG, and_self, if_true]
          have zA : ∀ b, ms_A Z b = ms_A Y b := fun b => by rw [hZ]; simp only [mGo]
          have mZ : MS Z X L (.inr j) := by rw [hZ]; exact MS_I mY (by omega)
          have pZ : PK Z s := by rw [hZ]; exact PK_I pY (by decide)
          have cZ : CK Z line c0 wc u (wd - 1) := ⟨by rw [zI 37 (by decide)]; exact cY.1, by rw [zI 38 (by decide)]; exact cY.2.1, z39, fun j hj => by rw [zA, zA]; exact cY.2.2.2 j hj⟩
          obtain ⟨v, S2, e2, e3, m3, o3⟩ := mustS (N := N) (c := 41) hN hb (by omega) mZ
          have e2 : f159 N 41 Z = _ := e2
          refine ⟨0, S2, ?_, m3, fun _ => ⟨rfl, PK_m pZ o3, CK_m cZ o3⟩, (oY.tr (by rw [hZ]; exact offK.wI (by omega))).tr o3.k⟩
          simp only [mE, cY.2.2.1, ed, ← hZ]
          simp only [mb, e2, e3]
          rfl
        · rw [if_pos (fun z => h7 (c7.1 z)), if_neg h7]
          exact ⟨0, Y, rfl, mY, fun _ => ⟨rfl, pY, cY⟩, oY⟩
end BEK
