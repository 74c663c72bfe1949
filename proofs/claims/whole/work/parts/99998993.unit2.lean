/-! the reference's machine: a unit, all of it -/
def u329 (N : Nat) (x5 y1 : Int32) : mM Int32 := mb (f186 N y1 x5) fun _ => mretZ 0
def u286 (N : Nat) (x4 x5 : Int32) : mM Int32 := mb (f155 N) fun v9 => if v9 ≠ 0 then (if x4 ≠ 0 then (if x4 ≠ 75 then u329 N x5 x4 else (mb (gI 131 41) fun v12 => if v12 ≥ 6 then u329 N x5 x4 else u329 N x5 69)) else u329 N x5 110) else (mretZ 1)
def u268 (N : Nat) (x4 : Int32) : mM Int32 := if x4 ≠ 75 then (mb (f191 N 0) fun v14 => u286 N x4 v14) else (mb (f191 N 1) fun v14 => u286 N x4 v14)
def u248 (N : Nat) (x4 y0 : Int32) : mM Int32 := mb (f158 N) fun _ => if x4 = 75 then u268 N x4 else (if x4 ≠ 76 then u286 N x4 y0 else u268 N x4)
def u214 (N : Nat) (y1 : Int32) : mM Int32 := mb (f187 N y1 126) fun _ => mb (gI 131 39) fun v4 => mb (pI 131 39 (v4 + 1)) fun _ => mb (f158 N) fun _ => mretZ 1
def u203 (N : Nat) (x2 : Int32) : mM Int32 := if x2 = 0 then u214 N 7 else u214 N 3
def u191 (N : Nat) (x2 x3 x4 y1 y2 : Int32) : mM Int32 := mb (pI 131 38 (y1 + y2)) fun _ => if x2 ≠ 0 then u203 N x2 else (if x3 = 0 then (if x4 ≠ 0 then u248 N x4 0 else (mb (gI 131 9) fun v17 => u248 N x4 v17)) else u203 N x2)
def u168 (N : Nat) (x2 x3 x4 : Int32) : mM Int32 := mb (f155 N) fun v1 => if v1 ≠ 0 then (mb (gI 131 38) fun v19 => if x2 = 0 then u191 N x2 x3 x4 v19 1 else u191 N x2 x3 x4 v19 0) else (mretZ 1)
def u158 (N : Nat) (x2 x3 x4 : Int32) : mM Int32 := mb (gI 131 6) fun v25 => mb (f154 N 6 v25) fun _ => u168 N x2 x3 x4
def u121 (N : Nat) (x2 x3 x4 : Int32) : mM Int32 := mb (f155 N) fun v21 => if v21 = 0 then u168 N x2 x3 x4 else (mb (gI 131 41) fun v23 => if v23 ≥ 6 then u168 N x2 x3 x4 else (if x4 = 78 then u158 N x2 x3 x4 else (if x4 = 79 then u158 N x2 x3 x4 else (if x4 ≠ 68 then u168 N x2 x3 x4 else u158 N x2 x3 x4))))
def u117 (N : Nat) (x2 x3 x4 : Int32) : mM Int32 := mb (f161 N) fun _ => u121 N x2 x3 x4
def u108 (N : Nat) (x2 x3 x4 : Int32) : mM Int32 := mb (gI 131 39) fun v29 => if v29 ≠ 7 then u121 N x2 x3 x4 else u117 N x2 x3 x4
def u100 (N : Nat) (x2 x3 x4 : Int32) : mM Int32 := if x2 ≠ 0 then u108 N x2 x3 x4 else (if x3 = 0 then u121 N x2 x3 x4 else u108 N x2 x3 x4)
def u91 (N : Nat) (x2 x3 x4 : Int32) : mM Int32 := mb (gI 131 38) fun v35 => if v35 = 100 then u117 N x2 x3 x4 else u100 N x2 x3 x4
def u56 (N : Nat) (x2 : Int32) : mM Int32 := mb (f159 N 40) fun v31 => mb (f189 N) fun v33 => if x2 ≠ 0 then u100 N x2 v31 v33 else (if v33 ≠ 0 then u91 N x2 v31 v33 else (mb (gI 131 8) fun v37 => if v37 = 4 then u91 N x2 v31 v33 else (if v31 = 0 then u117 N x2 v31 v33 else u91 N x2 v31 v33)))
def u36 (N : Nat) (y0 : Int32) : mM Int32 := if y0 = 0 then u56 N 0 else (mb (f160 N 7237492) fun v39 => if v39 = 0 then u56 N 0 else u56 N 1)
theorem f190_eq {N : Nat} : f190 N = (mb (gI 131 40) fun v41 => mb (lA 152 80 (v41 - 1)) fun v43 => if v43 ≤ 3 then u36 N 1 else (mb (gI 131 40) fun v45 => mb (lA 152 80 (v45 - 1)) fun v47 => if v47 < 7 then u36 N 0 else u36 N 1)) := rfl
section UN2
variable {N : Nat} {X : Nat → Int32} {L : Nat} {line c0 : Nat} {kn ln : List (List Int32)}
theorem u168_bad {S : ms_S} {e : Nat × Nat} {x2 x3 x4 : Int32} (h : MS S X L (.inl e)) : u168 N x2 x3 x4 S = some (1, S) := by
  unfold u168
  rw [E155 h, show gd (.inl e) = false from rfl]
  rfl
theorem u121_bad {S : ms_S} {e : Nat × Nat} {x2 x3 x4 : Int32} (h : MS S X L (.inl e)) : u121 N x2 x3 x4 S = some (1, S) := by
  unfold u121
  rw [E155 h, show gd (.inl e) = false from rfl]
  exact u168_bad h
theorem q214 {S : ms_S} {j d : Nat} {st : List Ek} {c : Cd} {u : Nat} {e : Ek} (hN : 1300 ≤ N) (hb : TxB X L) (hm : MS S X L (.inr j)) (hp : PK S st) (hc : CK S line c0 c u d) (hl : st.length < 80) (he : e = (3, 113) ∨ e = (7, 0)) (h0 : tTy (tkJ X L j) ≠ 0) (h1 : tTy (tkJ X L j) ≠ 1) : ResK (u214 N (Int32.ofNat e.1)) S X L line c0 (true, e :: st, (nx (.inr j), c, u), d + 1) := by
  obtain ⟨S2, e2, p2, m2, k2, o2⟩ := q187 (N := N) (X := X) (L := L) (line := line) (c0 := c0) (e := e) (v := 126) hp hl (fun h6 => by rcases he with z | z <;> subst z <;> first | exact ⟨rfl, by decide⟩ | exact absurd h6 (by decide))
  have k3 := k2 hc
  have Z0 : ∃ Z, Z = ms_setI S2 131 39 (Int32.ofNat (d + 1)) := ⟨_, rfl⟩
  obtain ⟨Z, hZ⟩ := Z0
  have zI : ∀ j, j ≠ 39 → ms_I Z 131 j = ms_I S2 131 j := fun j hj => by rw [hZ]; simp only [mG, true_and, if_neg hj]
  have z39 : ms_I Z 131 39 = Int32.ofNat (d + 1) := by rw [hZ]; simp only [mG, and_self, if_true]
  have zA : ∀ b, ms_A Z b = ms_A S2 b := fun b => by rw [hZ]; simp only [mGo]
  have mZ : MS Z X L (.inr j) := by rw [hZ]; exact MS_I (m2 hm) (by omega)
  have pZ : PK Z (e :: st) := by rw [hZ]; exact PK_I p2 (by decide)
  have cZ : CK Z line c0 c u (d + 1) := ⟨by rw [zI 37 (by decide)]; exact k3.1, by rw [zI 38 (by decide)]; exact k3.2.1, z39, fun j hj => by rw [zA, zA]; exact k3.2.2.2 j hj⟩
  obtain ⟨S3, e3, m3, o3⟩ := qnext (N := N) hN hb mZ h0 h1
  refine ⟨1, S3, ?_, m3, fun _ => ⟨rfl, PK_m pZ o3, CK_m cZ o3⟩, (o2.tr (by rw [hZ]; exact offK.wI (by omega))).tr o3.k⟩
  have m187 : ∀ {β : Type} {f' : Unit → mM β}, mb (f187 N (Int32.ofNat e.1) 126) f' S = f' () S2 := by intro β f'; simp only [mb, e2]
  unfold u214
  rw [m187]
  simp only [mE, k3.2.2.1, ofN_s, ← hZ]
  simp only [mb, e3]
  rfl
/-- a code behind a leaf -/
theorem q286 {S : ms_S} {σ : Sg} {d ty : Nat} {st : List Ek} {c : Cd} {u : Nat} {x4 x5 : Int32} (hm : MS S X L σ) (hg : gd σ = true) (hp : PK S st) (hc : CK S line c0 c u d) (h41 : ms_I S 131 41 = Int32.ofNat line) (hl : line ≤ 14) (hcl : c0 + c.length < 1200) (hx : (ty = 3 ∧ x4 = 0) ∨ ((100 ≤ ty ∧ ty ≤ 112) ∧ x4 = wH ty)) : ResK (u286 N x4 x5) S X L line c0 (false, st, (σ, c ++ [(ty, x5)], u), d) := by
  have fin : ∀ y, y = mCh line ty → ResK (u329 N x5 y) S X L line c0 (false, st, (σ, c ++ [(ty, x5)], u), d) := fun y hy => by
    obtain ⟨S1, e1, c1, m1, p1, o1⟩ := q186 (N := N) (X := X) (L := L) (t := ty) (v := x5) hc hcl
    refine ⟨0, S1, ?_, m1 hm, fun _ => ⟨rfl, p1 hp, c1⟩, o1⟩
    unfold u329
    rw [hy]
    simp only [mb, e1]
    rfl
  have pre : ∀ K : mM Int32, (u286 N x4 x5 S = K S) → ResK K S X L line c0 (false, st, (σ, c ++ [(ty, x5)], u), d) → ResK (u286 N x4 x5) S X L line c0 (false, st, (σ, c ++ [(ty, x5)], u), d) := fun K hK ⟨v, S1, e1, r1⟩ => ⟨v, S1, by rw [hK]; exact e1, r1⟩
  have st1 : u286 N x4 x5 S = (if x4 ≠ 0 then (if x4 ≠ 75 then u329 N x5 x4 else (mb (gI 131 41) fun v12 => if v12 ≥ 6 then u329 N x5 x4 else u329 N x5 69)) else u329 N x5 110) S := by
    unfold u286
    rw [E155 hm, hg, if_pos rfl, if_pos (by decide)]
  rcases hx with ⟨h3, h0⟩ | ⟨h1, h2⟩
  · refine pre (u329 N x5 110) ?_ (fin 110 (by rw [h3]; rfl))
    rw [st1, if_neg (fun z => z h0)]
  · obtain ⟨w1, w2, w3, w4, w5⟩ := wH_v.1 h1
    rw [← h2] at w1 w2
    by_cases hk : ty = 111
    · have e75 : x4 = 75 := w2.2 hk
      by_cases h6 : line < 6
      · refine pre (u329 N x5 69) ?_ (fin 69 (by rw [hk]; unfold mCh; simp [h6]))
        rw [st1, if_pos w1, if_neg (fun z => z e75)]
        simp only [mE, h41]
        rw [if_neg (fun z => by have := (ofN_le (i := 6) (by omega) (by omega)).1 z; omega)]
      · refine pre (u329 N x5 x4) ?_ (fin x4 (by rw [hk, e75]; unfold mCh; simp [h6]))
        rw [st1, if_pos w1, if_neg (fun z => z e75)]
        simp only [mE, h41]
        rw [if_pos (show Int32.ofNat line ≥ 6 from (ofN_le (i := 6) (by omega) (by omega)).2 (by omega))]
    · refine pre (u329 N x5 x4) ?_ (fin x4 (by rw [h2]; exact (w5 line hk).symm))
      rw [st1, if_pos w1, if_pos (fun z => hk (w2.1 z))]
theorem u286_bad {S : ms_S} {σ : Sg} {x4 x5 : Int32} (h : MS S X L σ) (hg : gd σ = false) : u286 N x4 x5 S = some (1, S) := by
  unfold u286
  rw [E155 h, hg]
  rfl
theorem leafK {S : ms_S} {j d b : Nat} {st : List Ek} {c : Cd} {u : Nat} (hN : 1300 ≤ N) (hb : TxB X L) (hb2 : b < 2) (hnk : NK S b kn ln) (hk : kn.length ≤ 6) (hln : ln.length ≤ 8) (hm : MS S X L (.inr j)) (hp : PK S st) (hc : CK S line c0 c (u + 1) d) (h41 : ms_I S 131 41 = Int32.ofNat line) (hl : line ≤ 14) (hcl : c0 + c.length < 1200) (hty : tTy (tkJ X L j) = 3 ∨ (100 ≤ tTy (tkJ X L j) ∧ tTy (tkJ X L j) ≤ 112)) : ResK (if wH (tTy (tkJ X L j)) ≠ 0 then u248 N (wH (tTy (tkJ X L j))) 0 else (mb (gI 131 9) fun v17 => u248 N (wH (tTy (tkJ X L j))) v17)) S X L line c0 (false, st, pLf X L kn ln (.inr j, c, u), d) := by
  have hm' := hm
  obtain ⟨m1, m2, m3, m4, m5⟩ := hm
  obtain ⟨S1, e1, n1, o1⟩ := qnext (N := N) hN hb hm' (by omega) (by omega)
  have m158 : ∀ {β : Type} {f' : Unit → mM β}, mb (f158 N) f' S = f' () S1 := by intro β f'; simp only [mb, e1]
  have p1 := PK_m hp o1
  have c1 := CK_m hc o1
  have k1 : NK S1 b kn ln := NK_k hnk (o1.k (c0 := c0))
  have l1 : ms_I S1 131 41 = Int32.ofNat line := by rw [o1.1 41 (by omega)]; exact h41
  have T0 : ∃ ty, ty = tTy (tkJ X L j) := ⟨_, rfl⟩
  obtain ⟨ty, et⟩ := T0
  have eT : sTy X L (.inr j) = ty := by rw [et]; rfl
  rw [← et] at hty ⊢
  have up : ∀ {f : mM Int32} {m : Mx}, ResK f S1 X L line c0 m → ∀ g : mM Int32, g S = f S1 → ResK g S X L line c0 m := fun ⟨v, S2, e2, r1, r2, r3⟩ g hg => ⟨v, S2, by rw [hg]; exact e2, r1, r2, (o1.k).tr r3⟩
  rcases hty with h3 | hw
  · have w0 : wH ty = 0 := wH_v.2 (by omega)
    have ep : pLf X L kn ln (.inr j, c, u) = (nx (.inr j), c ++ [(3, nuV X L (.inr j))], u + 1) := by
      unfold pLf
      rw [show sTy X L ((.inr j, c, u) : Px).1 = 3 by rw [← h3]; exact eT, if_neg (by omega), if_neg (by omega), if_pos rfl]
    rw [ep, w0, if_neg (fun z => z rfl)]
    have h9 : ms_I S 131 9 = nuV X L (.inr j) := m3.2.2.2.1 (by rw [← et]; exact h3)
    refine up (q286 (N := N) (ty := 3) (x4 := 0) (x5 := nuV X L (.inr j)) n1 rfl p1 c1 l1 hl hcl (Or.inl ⟨rfl, rfl⟩)) _ ?_
    simp only [mE, h9]
    unfold u248
    rw [m158, if_neg (by decide), if_pos (by decide)]
  · obtain ⟨w1, w2, w3, w4, w5⟩ := wH_v.1 hw
    rw [if_pos w1]
    by_cases h111 : ty = 111
    · have e75 : wH ty = 75 := w2.2 h111
      have ep : pLf X L kn ln (.inr j, c, u) = (knN X L kn (nx (.inr j)), c ++ [(111, optI (ixN kn (nmV X L (nx (.inr j)))))], u + 1) := by
        unfold pLf
        rw [show sTy X L ((.inr j, c, u) : Px).1 = 111 by rw [← h111]; exact eT, if_pos rfl]
      obtain ⟨v, S2, e2, v2, n2, o2⟩ := q191 (N := N) (p := 1) (nl := kn) hN hb hb2 k1 hk hln (Or.inr ⟨rfl, rfl⟩) n1
      have m191 : ∀ {β : Type} {f' : Int32 → mM β}, mb (f191 N 1) f' S1 = f' v S2 := by intro β f'; simp only [mb, e2]
      have eq1 : u248 N (wH ty) 0 S = u286 N (wH ty) v S2 := by
        unfold u248
        rw [m158, if_pos e75]
        unfold u268
        rw [if_neg (fun z => z e75), m191]
      rw [ep]
      cases hgk : gd (knN X L kn (.inr (j + 1))) with
      | true =>
        rw [v2 hgk] at eq1
        obtain ⟨v', S3, e3, r1, r2, r3⟩ := q286 (N := N) (ty := 111) (x4 := wH ty) (x5 := optI (ixN kn (nmV X L (.inr (j + 1))))) n2 hgk (PK_m p1 o2) (CK_m c1 o2) (by rw [o2.1 41 (by omega)]; exact l1) hl hcl (Or.inr ⟨by omega, by rw [h111]⟩)
        exact ⟨v', S3, by rw [eq1]; exact e3, r1, r2, ((o1.k).tr o2.k).tr r3⟩
      | false => exact ⟨1, S2, by rw [eq1]; exact u286_bad n2 hgk, n2, (fun z => by have z : gd (knN X L kn (.inr (j + 1))) = true := z; rw [hgk] at z; cases z), (o1.k).tr o2.k⟩
    · by_cases h112 : ty = 112
      · have e76 : wH ty = 76 := w3.2 h112
        have ep : pLf X L kn ln (.inr j, c, u) = (knN X L ln (nx (.inr j)), c ++ [(112, optI (ixN ln (nmV X L (nx (.inr j)))))], u + 1) := by
          unfold pLf
          rw [show sTy X L ((.inr j, c, u) : Px).1 = 112 by rw [← h112]; exact eT, if_neg (by omega), if_pos rfl]
        obtain ⟨v, S2, e2, v2, n2, o2⟩ := q191 (N := N) (p := 0) (nl := ln) hN hb hb2 k1 hk hln (Or.inl ⟨rfl, rfl⟩) n1
        have m191 : ∀ {β : Type} {f' : Int32 → mM β}, mb (f191 N 0) f' S1 = f' v S2 := by intro β f'; simp only [mb, e2]
        have eq1 : u248 N (wH ty) 0 S = u286 N (wH ty) v S2 := by
          unfold u248
          rw [m158, e76, if_neg (by decide), if_neg (by decide)]
          unfold u268
          rw [if_pos (by decide), m191]
        rw [ep]
        cases hgk : gd (knN X L ln (.inr (j + 1))) with
        | true =>
          rw [v2 hgk] at eq1
          obtain ⟨v', S3, e3, r1, r2, r3⟩ := q286 (N := N) (ty := 112) (x4 := wH ty) (x5 := optI (ixN ln (nmV X L (.inr (j + 1))))) n2 hgk (PK_m p1 o2) (CK_m c1 o2) (by rw [o2.1 41 (by omega)]; exact l1) hl hcl (Or.inr ⟨by omega, by rw [h112]⟩)
          exact ⟨v', S3, by rw [eq1]; exact e3, r1, r2, ((o1.k).tr o2.k).tr r3⟩
        | false => exact ⟨1, S2, by rw [eq1]; exact u286_bad n2 hgk, n2, (fun z => by have z : gd (knN X L ln (.inr (j + 1))) = true := z; rw [hgk] at z; cases z), (o1.k).tr o2.k⟩
      · have ep : pLf X L kn ln (.inr j, c, u) = (nx (.inr j), c ++ [(ty, 0)], u + 1) := by
          unfold pLf
          rw [show sTy X L ((.inr j, c, u) : Px).1 = ty from eT, if_neg h111, if_neg h112, if_neg (by omega)]
        rw [ep]
        refine up (q286 (N := N) (ty := ty) (x4 := wH ty) (x5 := 0) n1 rfl p1 c1 l1 hl hcl (Or.inr ⟨hw, rfl⟩)) _ ?_
        unfold u248
        rw [m158, if_neg (fun z => h111 (w2.1 z)), if_pos (fun z => h112 (w3.1 z))]
theorem unitK {st : List Ek} {j d b : Nat} {c : Cd} {u : Nat} {S : ms_S} {kl : Bool} (hN : 1300 ≤ N) (hb : TxB X L) (hb2 : b < 2) (hnk : NK S b kn ln) (hk : kn.length ≤ 6) (hln : ln.length ≤ 8) (h41 : ms_I S 131 41 = Int32.ofNat line) (hl : line ≤ 14) (hkl : kl = decide (line < 6)) (hm : MS S X L (.inr j)) (hi : IvM X L c0 (true, st, (.inr j, c, u), d)) (hs : st ≠ []) (hp : PK S st) (hc : CK S line c0 c u d) : ResK (f190 N) S X L line c0 (mU X L kl kn ln st (.inr j, c, u) d) := by
  obtain ⟨w1, w2, w3, w4, w5⟩ := hi
  have w2 : d = dpE st := w2
  have w3 : d ≤ 7 := w3
  have w4 : u ≤ 100 := w4
  obtain ⟨w5, w6⟩ := w5 rfl
  have w5 : j < tkN X L := w5
  have w6 : c0 + c.length + st.length ≤ j + 1 := w6
  have hn := tkN_le hb
  have hlen : st.length ≤ 56 := wfs_60 (st := st) w1 (by omega)
  have T0 : ∃ ty, ty = tTy (tkJ X L j) := ⟨_, rfl⟩
  obtain ⟨ty, et⟩ := T0
  have eT : sTy X L ((.inr j, c, u) : Px).1 = ty := by rw [et]; rfl
  have m40 : ∀ {β : Type} {f : Int32 → mM β}, mb (f159 N 40) f S = f (if ty = 40 then 1 else 0) S := by intro β f; rw [et]; exact E159 (c := 40) hb (by omega) hm
  have m113 : ∀ {β : Type} {f : Int32 → mM β}, mb (f160 N 7237492) f S = f (if ty = 113 then 1 else 0) S := by intro β f; rw [et]; exact E160 (i := 13) hb (by omega) hm
  have m189 : ∀ {β : Type} {f' : Int32 → mM β}, mb (f189 N) f' S = f' (wH ty) S := by intro β f'; rw [et]; simp only [mb, q189 (N := N) hb hm]
  have k8 : ms_I S 131 8 = clsT ty := by rw [et]; exact hm.2.2.1.2.2.1
  -- may a not stand here?
  have G0 : ∃ g : Int32, g = if (tpE st ≤ 3 ∨ 7 ≤ tpE st) ∧ ty = 113 then 1 else 0 := ⟨_, rfl⟩
  obtain ⟨g, hg⟩ := G0
  have e1 : f190 N S = u56 N g S := by
    cases st with
    | nil => exact absurd rfl hs
    | cons e s =>
      obtain ⟨p0, p1, p2, p3⟩ := hp
      have p0 : ms_I S 131 40 = Int32.ofNat (s.length + 1) := p0
      have hlen : s.length + 1 ≤ 56 := hlen
      have i1 : inR (Int32.ofNat s.length) 80 := ofN_inR (by omega) (by omega)
      have i2 := ofN_cl (i := s.length) (by omega)
      have he8 : e.1 ≤ 8 := by
        obtain ⟨z1, z2, _⟩ := w1
        by_cases hs : s = []
        · have := z1 hs; omega
        · have := z2 hs; omega
      have hg : g = if (e.1 ≤ 3 ∨ 7 ≤ e.1) ∧ ty = 113 then 1 else 0 := hg
      have u1 : (e.1 ≤ 3 ∨ 7 ≤ e.1) → u36 N 1 S = u56 N g S := fun hc => by
        unfold u36
        rw [if_neg (by decide), m113]
        by_cases ht : ty = 113
        · rw [if_pos ht, if_neg (by decide), hg, if_pos ⟨hc, ht⟩]
        · rw [if_neg ht, if_pos rfl, hg, if_neg (fun z => ht z.2)]
      rw [f190_eq]
      simp only [mE, p0, ofN_p, i1, i2, p1]
      by_cases h3 : e.1 ≤ 3
      · rw [if_pos (show Int32.ofNat e.1 ≤ 3 from (ofN_le (j := 3) (by omega) (by omega)).2 h3)]
        exact u1 (Or.inl h3)
      · rw [if_neg (show ¬ Int32.ofNat e.1 ≤ 3 from fun z => h3 ((ofN_le (j := 3) (by omega) (by omega)).1 z))]
        by_cases h7 : e.1 < 7
        · rw [if_pos (show Int32.ofNat e.1 < 7 from (ofN_lt (j := 7) (by omega) (by omega)).2 h7), hg, if_neg (by omega)]
          rfl
        · rw [if_neg (show ¬ Int32.ofNat e.1 < 7 from fun z => h7 ((ofN_lt (j := 7) (by omega) (by omega)).1 z))]
          exact u1 (Or.inr (by omega))
  have n40 : ∀ {β : Type} {a b : β}, (if (if ty = 40 then (1 : Int32) else 0) = 0 then a else b) = if ty = 40 then b else a := by
    intro β a b
    by_cases h : ty = 40
    · rw [if_pos h, if_neg (by decide), if_pos h]
    · rw [if_neg h, if_pos rfl, if_neg h]
  have ng : ∀ {β : Type} {a b : β}, (if g ≠ 0 then a else b) = if (tpE st ≤ 3 ∨ 7 ≤ tpE st) ∧ ty = 113 then a else b := by
    intro β a b
    by_cases h : (tpE st ≤ 3 ∨ 7 ≤ tpE st) ∧ ty = 113
    · rw [if_pos h] at hg; rw [hg, if_pos (by decide), if_pos h]
    · rw [if_neg h] at hg; rw [hg, if_neg (fun z => z rfl), if_neg h]
  have d7 : (Int32.ofNat d = 7) ↔ 7 ≤ d := by rw [show (7 : Int32) = Int32.ofNat 7 from rfl, ofN_eq (by omega) (by omega)]; omega
  have u100' : (Int32.ofNat u = 100) ↔ 100 ≤ u := by rw [show (100 : Int32) = Int32.ofNat 100 from rfl, ofN_eq (by omega) (by omega)]; omega
  have e2 : u56 N g S = if (¬ ((tpE st ≤ 3 ∨ 7 ≤ tpE st) ∧ ty = 113) ∧ (bgU ty = false ∨ 100 ≤ u)) ∨ ((((tpE st ≤ 3 ∨ 7 ≤ tpE st) ∧ ty = 113) ∨ ty = 40) ∧ 7 ≤ d) then u117 N g (if ty = 40 then 1 else 0) (wH ty) S else u121 N g (if ty = 40 then 1 else 0) (wH ty) S := by
    have a108 : u108 N g (if ty = 40 then 1 else 0) (wH ty) S = if 7 ≤ d then u117 N g (if ty = 40 then 1 else 0) (wH ty) S else u121 N g (if ty = 40 then 1 else 0) (wH ty) S := by
      unfold u108
      simp only [mE, hc.2.2.1]
      by_cases h : 7 ≤ d
      · rw [if_neg (fun z => z (d7.2 h)), if_pos h]
      · rw [if_pos (fun z => h (d7.1 z)), if_neg h]
    unfold u56
    rw [m40, m189, ng]
    by_cases hnt : (tpE st ≤ 3 ∨ 7 ≤ tpE st) ∧ ty = 113
    · rw [if_pos hnt]
      unfold u100
      rw [ng, if_pos hnt, a108]
      by_cases h : 7 ≤ d
      · rw [if_pos h, if_pos (Or.inr ⟨Or.inl hnt, h⟩)]
      · rw [if_neg h, if_neg (show ¬ ((¬ ((tpE st ≤ 3 ∨ 7 ≤ tpE st) ∧ ty = 113) ∧ (bgU ty = false ∨ 100 ≤ u)) ∨ ((((tpE st ≤ 3 ∨ 7 ≤ tpE st) ∧ ty = 113) ∨ ty = 40) ∧ 7 ≤ d)) from fun z => z.elim (fun z => z.1 hnt) (fun z => h z.2))]
    · rw [if_neg hnt]
      have a91 : bgU ty = true → u91 N g (if ty = 40 then 1 else 0) (wH ty) S = if (¬ ((tpE st ≤ 3 ∨ 7 ≤ tpE st) ∧ ty = 113) ∧ (bgU ty = false ∨ 100 ≤ u)) ∨ ((((tpE st ≤ 3 ∨ 7 ≤ tpE st) ∧ ty = 113) ∨ ty = 40) ∧ 7 ≤ d) then u117 N g (if ty = 40 then 1 else 0) (wH ty) S else u121 N g (if ty = 40 then 1 else 0) (wH ty) S := fun hbg => by
        unfold u91
        simp only [mE, hc.2.1]
        by_cases h : 100 ≤ u
        · rw [if_pos (u100'.2 h), if_pos (Or.inl ⟨hnt, Or.inr h⟩)]
        · rw [if_neg (fun z => h (u100'.1 z))]
          unfold u100
          rw [ng, if_neg hnt, n40]
          by_cases h40 : ty = 40
          · rw [if_pos h40, a108]
            by_cases h7 : 7 ≤ d
            · rw [if_pos h7, if_pos (Or.inr ⟨Or.inr h40, h7⟩)]
            · rw [if_neg h7, if_neg (show ¬ ((¬ ((tpE st ≤ 3 ∨ 7 ≤ tpE st) ∧ ty = 113) ∧ (bgU ty = false ∨ 100 ≤ u)) ∨ ((((tpE st ≤ 3 ∨ 7 ≤ tpE st) ∧ ty = 113) ∨ ty = 40) ∧ 7 ≤ d)) from fun z => by
                rcases z with z | z
                · rcases z.2 with y | y
                  · rw [hbg] at y; cases y
                  · exact h y
                · exact h7 z.2)]
          · rw [if_neg h40, if_neg (show ¬ ((¬ ((tpE st ≤ 3 ∨ 7 ≤ tpE st) ∧ ty = 113) ∧ (bgU ty = false ∨ 100 ≤ u)) ∨ ((((tpE st ≤ 3 ∨ 7 ≤ tpE st) ∧ ty = 113) ∨ ty = 40) ∧ 7 ≤ d)) from fun z => by
                rcases z with z | z
                · rcases z.2 with y | y
                  · rw [hbg] at y; cases y
                  · exact h y
                · rcases z.1 with y | y
                  · exact hnt y
                  · exact h40 y)]
      by_cases hw : 100 ≤ ty ∧ ty ≤ 112
      · rw [if_pos (wH_v.1 hw).1]
        exact a91 (decide_eq_true (by omega))
      · rw [if_neg (fun z => z (wH_v.2 hw))]
        simp only [mE, k8]
        by_cases h3 : ty = 3
        · rw [if_pos (clsT_v.2.2.2.2 h3)]
          exact a91 (decide_eq_true (by omega))
        · rw [if_neg (fun z => h3 (clsT_v.2.2.2.1 z)), n40]
          by_cases h40 : ty = 40
          · rw [if_pos h40]
            exact a91 (decide_eq_true (by omega))
          · rw [if_neg h40, if_pos (Or.inl ⟨hnt, Or.inl (decide_eq_false (by omega))⟩)]
  have up : ∀ {m : Mx} (f : mM Int32), f190 N S = f S → ResK f S X L line c0 m → ResK (f190 N) S X L line c0 m := fun f hf ⟨v, S1, r⟩ => ⟨v, S1, by rw [hf]; exact r⟩
  unfold mU
  rw [eT]
  by_cases hc1 : (¬ ((tpE st ≤ 3 ∨ 7 ≤ tpE st) ∧ ty = 113) ∧ (bgU ty = false ∨ 100 ≤ u)) ∨ ((((tpE st ≤ 3 ∨ 7 ≤ tpE st) ∧ ty = 113) ∨ ty = 40) ∧ 7 ≤ d)
  · rw [if_pos hc1] at e2
    rw [if_pos hc1]
    refine up _ (e1.trans e2) ?_
    obtain ⟨S1, a1, m1, o1, _⟩ := q161 (N := N) hb hm
    refine ⟨1, S1, ?_, m1, (fun z => by have z : gd (rf X L 2 (.inr j)) = true := z; rw [gd_rf] at z; cases z), o1.k⟩
    unfold u117
    simp only [mb, a1]
    exact u121_bad m1
  · rw [if_neg hc1] at e2
    rw [if_neg hc1]
    have hbg : ¬ ((tpE st ≤ 3 ∨ 7 ≤ tpE st) ∧ ty = 113) → bgU ty = true ∧ ¬ 100 ≤ u := fun hnt => ⟨by cases h : bgU ty with | true => rfl | false => exact absurd (Or.inl ⟨hnt, Or.inl h⟩) hc1, fun z => hc1 (Or.inl ⟨hnt, Or.inr z⟩)⟩
    have h01 : tTy (tkJ X L j) ≠ 0 ∧ tTy (tkJ X L j) ≠ 1 := by
      rw [← et]
      by_cases hnt : (tpE st ≤ 3 ∨ 7 ≤ tpE st) ∧ ty = 113
      · omega
      · have := of_decide_eq_true (hbg hnt).1; omega
    have e3 : u121 N g (if ty = 40 then 1 else 0) (wH ty) S = if kl = true ∧ 108 ≤ ty ∧ ty ≤ 110 then u158 N g (if ty = 40 then 1 else 0) (wH ty) S else u168 N g (if ty = 40 then 1 else 0) (wH ty) S := by
      unfold u121
      rw [E155 hm, show gd (.inr j) = true from rfl, if_pos rfl, if_neg (by decide)]
      simp only [mE, h41]
      by_cases h6 : line < 6
      · have hkt : kl = true := by rw [hkl]; exact decide_eq_true h6
        rw [if_neg (fun z => by have := (ofN_le (i := 6) (by omega) (by omega)).1 z; omega)]
        by_cases hw : 100 ≤ ty ∧ ty ≤ 112
        · have w4 := (wH_v.1 hw).2.2.2.1
          by_cases h8 : 108 ≤ ty ∧ ty ≤ 110
          · rw [if_pos (show kl = true ∧ 108 ≤ ty ∧ ty ≤ 110 from ⟨hkt, h8⟩)]
            rcases w4.2 h8 with z | z | z
            · rw [if_pos z]
            · rw [if_neg (fun y => by rw [z] at y; exact absurd y (by decide)), if_pos z]
            · rw [if_neg (fun y => by rw [z] at y; exact absurd y (by decide)), if_neg (fun y => by rw [z] at y; exact absurd y (by decide)), if_neg (fun y => y z)]
          · have hn4 : ¬ (wH ty = 78 ∨ wH ty = 79 ∨ wH ty = 68) := fun z => h8 (w4.1 z)
            rw [if_neg (show ¬ (kl = true ∧ 108 ≤ ty ∧ ty ≤ 110) from fun z => h8 z.2), if_neg (fun z => hn4 (Or.inl z)), if_neg (fun z => hn4 (Or.inr (Or.inl z))), if_pos (fun z => hn4 (Or.inr (Or.inr z)))]
        · rw [wH_v.2 hw, if_neg (fun z : kl = true ∧ 108 ≤ ty ∧ ty ≤ 110 => by omega), if_neg (by decide), if_neg (by decide), if_pos (by decide)]
      · rw [if_pos (show Int32.ofNat line ≥ 6 from (ofN_le (i := 6) (by omega) (by omega)).2 (by omega)), if_neg (show ¬ (kl = true ∧ 108 ≤ ty ∧ ty ≤ 110) from fun z => by rw [hkl] at z; exact h6 (of_decide_eq_true z.1))]
    by_cases hc2 : kl = true ∧ 108 ≤ ty ∧ ty ≤ 110
    · rw [if_pos hc2] at e3
      rw [if_pos hc2]
      refine up _ ((e1.trans e2).trans e3) ?_
      obtain ⟨S1, a1, m1, o1, _⟩ := q154 (N := N) (c := 6) (p := tAt (tkJ X L j)) hb (by omega) hm
      have er : rf X L 6 (.inr j) = fa 6 (tAt (tkJ X L j)) (.inr j) := by
        show Sum.inl _ = Sum.inl _
        rw [if_neg (by omega)]
      have a1 : f154 N 6 (Int32.ofNat (tAt (tkJ X L j))) S = _ := a1
      refine ⟨1, S1, ?_, by show MS S1 X L (rf X L 6 (.inr j)); rw [er]; exact m1, (fun z => by have z : gd (rf X L 6 (.inr j)) = true := z; rw [gd_rf] at z; cases z), o1.k⟩
      unfold u158
      simp only [mE, hm.2.2.1.1]
      simp only [mb, a1]
      exact u168_bad m1
    · rw [if_neg hc2] at e3
      rw [if_neg hc2]
      have Y0 : ∀ u', ∃ Y, Y = ms_setI S 131 38 (Int32.ofNat u') := fun u' => ⟨_, rfl⟩
      have yall : ∀ u' Y, Y = ms_setI S 131 38 (Int32.ofNat u') → MS Y X L (.inr j) ∧ PK Y st ∧ CK Y line c0 c u' d ∧ NK Y b kn ln ∧ ms_I Y 131 41 = Int32.ofNat line ∧ offK c0 S Y ∧ ms_I Y 131 9 = ms_I S 131 9 := fun u' Y hY => by
        have yI : ∀ j, j ≠ 38 → ms_I Y 131 j = ms_I S 131 j := fun j hj => by rw [hY]; simp only [mG, true_and, if_neg hj]
        have yA : ∀ b, ms_A Y b = ms_A S b := fun b => by rw [hY]; simp only [mGo]
        have oY : offK c0 S Y := by rw [hY]; exact offK.wI (by omega)
        refine ⟨by rw [hY]; exact MS_I hm (by omega), by rw [hY]; exact PK_I hp (by decide), ⟨by rw [yI 37 (by decide)]; exact hc.1, by rw [hY]; simp only [mG, and_self, if_true], by rw [yI 39 (by decide)]; exact hc.2.2.1, fun j hj => by rw [yA, yA]; exact hc.2.2.2 j hj⟩, NK_k hnk oY, by rw [yI 41 (by decide)]; exact h41, oY, yI 9 (by decide)⟩
      have u0 : Int32.ofNat u + 0 = Int32.ofNat u := by generalize Int32.ofNat u = z; grind
      by_cases hnt : (tpE st ≤ 3 ∨ 7 ≤ tpE st) ∧ ty = 113
      · rw [if_pos hnt]
        have hg1 : g = 1 := by rw [hg, if_pos hnt]
        obtain ⟨Y, hY⟩ := Y0 u
        obtain ⟨y1, y2, y3, y4, y5, y6, y7⟩ := yall u Y hY
        obtain ⟨v, S1, a1, r1, r2, r3⟩ := q214 (N := N) (e := (3, 113)) hN hb y1 y2 y3 (by omega) (Or.inl rfl) h01.1 h01.2
        refine up _ ((e1.trans e2).trans e3) ⟨v, S1, ?_, r1, r2, y6.tr r3⟩
        unfold u168
        rw [E155 hm, show gd (.inr j) = true from rfl, if_pos rfl, if_pos (by decide), hg1]
        simp only [mE, hc.2.1]
        rw [if_neg (by decide)]
        unfold u191
        simp only [mE, u0, ← hY]
        rw [if_pos (by decide)]
        unfold u203
        rw [if_neg (by decide)]
        exact a1
      · rw [if_neg hnt]
        have hg0 : g = 0 := by rw [hg, if_neg hnt]
        obtain ⟨hb1, hu⟩ := hbg hnt
        obtain ⟨Y, hY⟩ := Y0 (u + 1)
        obtain ⟨y1, y2, y3, y4, y5, y6, y7⟩ := yall (u + 1) Y hY
        have e4 : u168 N g (if ty = 40 then 1 else 0) (wH ty) S = (if ty = 40 then u214 N 7 else (if wH ty ≠ 0 then u248 N (wH ty) 0 else (mb (gI 131 9) fun v17 => u248 N (wH ty) v17))) Y := by
          unfold u168
          rw [E155 hm, show gd (.inr j) = true from rfl, if_pos rfl, if_pos (by decide), hg0]
          simp only [mE, hc.2.1]
          rw [if_pos trivial]
          unfold u191
          simp only [mE, ofN_s, ← hY]
          first
            | rw [if_neg (fun z : (0 : Int32) ≠ 0 => z rfl)]
            | rw [if_neg (fun z : ¬ True => z trivial)]
          rw [n40]
          by_cases h40 : ty = 40
          · rw [if_pos h40, if_pos h40]; rfl
          · rw [if_neg h40, if_neg h40]
        by_cases h40 : ty = 40
        · have e4 := e4.trans (show _ = u214 N 7 Y by rw [if_pos h40])
          rw [if_pos h40]
          obtain ⟨v, S1, a1, r1, r2, r3⟩ := q214 (N := N) (e := (7, 0)) hN hb y1 y2 y3 (by omega) (Or.inr rfl) h01.1 h01.2
          exact up _ ((e1.trans e2).trans e3) ⟨v, S1, by rw [e4]; exact a1, r1, r2, y6.tr r3⟩
        · have e4 := e4.trans (show _ = (if wH ty ≠ 0 then u248 N (wH ty) 0 else (mb (gI 131 9) fun v17 => u248 N (wH ty) v17)) Y by rw [if_neg h40])
          rw [if_neg h40]
          have hjn := (tkJ_nx hb w5 h01.1).1
          have hst1 : st.length ≠ 0 := fun z => hs (List.length_eq_zero_iff.1 z)
          obtain ⟨v, S1, a1, r1, r2, r3⟩ := leafK (N := N) (u := u) hN hb hb2 y4 hk hln y1 y2 y3 y5 hl (by omega) (by rw [← et]; have := of_decide_eq_true hb1; omega)
          rw [← et] at a1
          exact up _ ((e1.trans e2).trans e3) ⟨v, S1, by rw [e4]; exact a1, r1, r2, y6.tr r3⟩
end UN2
