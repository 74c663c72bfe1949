/-! one instruction of the small machine is one of the real one: the heap -/
def mv_tys (cA : Nat → ClassId) : List (ClassId × FieldType) := [(cA 0, mv_ty 0), (cA 1, mv_ty 1), (cA 2, mv_ty 2), (cA 3, mv_ty 3), (cA 4, mv_ty 4), (cA 5, mv_ty 5)]
theorem mv_tys_at {cA : Nat → ClassId} {t : Nat} (h : t < 6) : (mv_tys cA)[t]? = some (cA t, mv_ty t) := by
  match t, h with
  | 0, _ => rfl
  | 1, _ => rfl
  | 2, _ => rfl
  | 3, _ => rfl
  | 4, _ => rfl
  | 5, _ => rfl
/-- what holds of a class's fields -/
def mv_CI (ci : Nat) (C : String) (T : u_T) (N : Nat) : Prop := (mv_nf ci).length = N ∧ (∃ ty : Nat → FieldType, (∀ k, k < N → parseFieldDescriptor (T k).2.2.1 = some (ty k)) ∧ ∀ k, k < N → (mv_nf ci)[k]? = some (ty k, (T k).2.2.2)) ∧ (∀ a, a < N → ∀ b, b < N → a ≠ b → (T a).2.1 ≠ (T b).2.1) ∧ ∀ k, k < N → (T k).1 = C
theorem mv_ci0 : mv_CI 0 RX0 TX0 18 := ⟨rfl, ⟨tyX0, tyX0_ok, by decide +kernel⟩, nmX0, by decide +kernel⟩
theorem mv_ci1 : mv_CI 1 RX1 TX1 6 := ⟨rfl, ⟨tyX1, tyX1_ok, by decide +kernel⟩, nmX1, by decide +kernel⟩
theorem mv_ci2 : mv_CI 2 RX2 TX2 7 := ⟨rfl, ⟨tyX2, tyX2_ok, by decide +kernel⟩, nmX2, by decide +kernel⟩
theorem mv_ci3 : mv_CI 3 RX3 TX3 4 := ⟨rfl, ⟨tyX3, tyX3_ok, by decide +kernel⟩, nmX3, by decide +kernel⟩
theorem mv_ci4 : mv_CI 4 RX4 TX4 15 := ⟨rfl, ⟨tyX4, tyX4_ok, by decide +kernel⟩, nmX4, by decide +kernel⟩
theorem mv_ci5 : mv_CI 5 RX5 TX5 4 := ⟨rfl, ⟨tyX5, tyX5_ok, by decide +kernel⟩, nmX5, by decide +kernel⟩
theorem mv_ci6 : mv_CI 6 RX6 TX6 8 := ⟨rfl, ⟨tyX6, tyX6_ok, by decide +kernel⟩, nmX6, by decide +kernel⟩
theorem mv_ci7 : mv_CI 7 RX7 TX7 16 := ⟨rfl, ⟨tyX7, tyX7_ok, by decide +kernel⟩, nmX7, by decide +kernel⟩
theorem mv_ci8 : mv_CI 8 RX8 TX8 9 := ⟨rfl, ⟨tyX8, tyX8_ok, by decide +kernel⟩, nmX8, by decide +kernel⟩
theorem mv_ci9 : mv_CI 9 RX9 TX9 13 := ⟨rfl, ⟨tyX9, tyX9_ok, by decide +kernel⟩, nmX9, by decide +kernel⟩
theorem mv_ci10 : mv_CI 10 RX10 TX10 8 := ⟨rfl, ⟨tyX10, tyX10_ok, by decide +kernel⟩, nmX10, by decide +kernel⟩
theorem mv_ci11 : mv_CI 11 RX11 TX11 21 := ⟨rfl, ⟨tyX11, tyX11_ok, by decide +kernel⟩, nmX11, by decide +kernel⟩
theorem mv_ci12 : mv_CI 12 RX12 TX12 112 := ⟨rfl, ⟨tyX12, tyX12_ok, by decide +kernel⟩, nmX12, by decide +kernel⟩
theorem mv_cinfo {ci N : Nat} {C : String} {T : u_T} (h : vwCl[ci]? = some (C, T, N)) : mv_CI ci C T N := by
  match ci, h with
  | 0, h => cases h; exact mv_ci0
  | 1, h => cases h; exact mv_ci1
  | 2, h => cases h; exact mv_ci2
  | 3, h => cases h; exact mv_ci3
  | 4, h => cases h; exact mv_ci4
  | 5, h => cases h; exact mv_ci5
  | 6, h => cases h; exact mv_ci6
  | 7, h => cases h; exact mv_ci7
  | 8, h => cases h; exact mv_ci8
  | 9, h => cases h; exact mv_ci9
  | 10, h => cases h; exact mv_ci10
  | 11, h => cases h; exact mv_ci11
  | 12, h => cases h; exact mv_ci12
  | k + 13, h => cases h
theorem mv_cl_lt {ci : Nat} (h : ci < 13) : ∃ r, vwCl[ci]? = some r := ⟨vwCl[ci]'h, List.getElem?_eq_getElem h⟩
theorem mv_nf_in {ci k : Nat} (h : k < (mv_nf ci).length) : ∃ (C : String) (T : u_T) (N : Nat), vwCl[ci]? = some (C, T, N) ∧ k < N := by
  by_cases hc : ci < 13
  · obtain ⟨⟨C, T, N⟩, hr⟩ := mv_cl_lt hc
    exact ⟨C, T, N, hr, by rw [(mv_cinfo hr).1] at h; exact h⟩
  · have : mv_fs[ci]? = none := List.getElem?_eq_none (by show 13 ≤ ci; omega)
    simp [mv_nf, this] at h
theorem mv_fit_of {ad : Nat → Nat} {ty : FieldType} {v : Value} (h : mv_fit ty v = true) : narrow ty (mv_tr ad v) = mv_tr ad v ∧ fits ty (mv_tr ad v) = true := by
  unfold mv_fit at h
  split at h
  · exact ⟨rfl, rfl⟩
  · exact ⟨rfl, rfl⟩
  · rename_i x
    simp only [Bool.or_eq_true, beq_iff_eq] at h
    rcases h with rfl | rfl
    · exact ⟨by show narrow .boolean (.int 0) = .int 0; decide, by show fits .boolean (.int 0) = true; decide⟩
    · exact ⟨by show narrow .boolean (.int 1) = .int 1; decide, by show fits .boolean (.int 1) = true; decide⟩
  · exact ⟨rfl, rfl⟩
  · exact ⟨rfl, rfl⟩
  · exact ⟨rfl, rfl⟩
  · exact ⟨rfl, rfl⟩
  · cases h
theorem mv_dflt_eq (ad : Nat → Nat) {ty : FieldType} (h : ty = .int ∨ ty = .boolean ∨ ty = .long ∨ (∃ n, ty = .object n) ∨ ∃ t, ty = .array t) : mv_tr ad (mv_dflt ty) = defaultValue ty := by
  rcases h with rfl | rfl | rfl | ⟨n, rfl⟩ | ⟨t, rfl⟩ <;> rfl
/-- what holds of the heap within a frame that began in s -/
def mv_I (D : va_G) (cA : Nat → ClassId) (base : Nat) (oa : Nat → Nat) (h : mv_H) (s : State) (H : Heap) (locs : List Loc) (cells : Nat) : Prop :=
  4 ≤ h.length ∧ H.size = base + (h.length - 4) ∧ H.size = s.heap.size + cells ∧ base ≤ s.heap.size ∧ va_P D vwCl (mv_ws base (mv_ad base oa) cA h) H ∧ va_S (fun q => base ≤ q) s.heap H locs
theorem mv_I.wr {D : va_G} {cA : Nat → ClassId} {base : Nat} {oa : Nat → Nat} {h : mv_H} {s : State} {H H1 : Heap} {locs locs1 : List Loc} {cells a : Nat} {e : mv_E} (hI : mv_I D cA base oa h s H locs cells) (hP : va_P D vwCl (mv_ws base (mv_ad base oa) cA (h.set a e)) H1) (hS : va_S (fun q => base ≤ q) H H1 locs1) (hz : H1.size ≤ s.heap.size + cells) : mv_I D cA base oa (h.set a e) s H1 locs1 cells := by
  obtain ⟨h1, h2, h3, h4, h5, h6⟩ := hI
  have hz2 : H1.size = H.size := by
    have := hS.1
    omega
  refine ⟨by simpa using h1, by rw [hz2]; simpa using h2, by rw [hz2]; exact h3, h4, hP, Nat.le_trans h6.1 hS.1, fun q q1 q2 => (hS.2.1 q (Nat.lt_of_lt_of_le q1 h6.1) q2).trans (h6.2.1 q q1 q2), hS.2.2⟩
theorem mv_I.al {D : va_G} {cA : Nat → ClassId} {base : Nat} {oa : Nat → Nat} {h : mv_H} {s : State} {H H1 : Heap} {locs : List Loc} {cells q : Nat} {e : mv_E} (hI : mv_I D cA base oa h s H locs cells) (hP : va_P D vwCl (mv_ws base (mv_ad base oa) cA h ++ [(q, mv_trE (mv_ad base oa) cA e)]) H1) (hD : va_D (fun q => base ≤ q) (mv_ws base (mv_ad base oa) cA h ++ [(q, mv_trE (mv_ad base oa) cA e)])) (hS : va_S (fun q => base ≤ q) H H1 locs) (hz : H1.size ≤ s.heap.size + (cells + 1)) : q = mv_ad base oa h.length ∧ mv_I D cA base oa (h ++ [e]) s H1 locs (cells + 1) := by
  obtain ⟨h1, h2, h3, h4, h5, h6⟩ := hI
  have hlast : (mv_ws base (mv_ad base oa) cA h ++ [(q, mv_trE (mv_ad base oa) cA e)])[(mv_ws base (mv_ad base oa) cA h).length]? = some (q, mv_trE (mv_ad base oa) cA e) := by simp
  have hq1 : q < H1.size := (hP _ _ hlast).lt
  have hq2 : base ≤ q := hD.2 _ _ hlast
  have hq3 : H.size ≤ q := by
    refine Nat.not_lt.mp fun hlt => ?_
    have hk : q - base < (mv_ws base (mv_ad base oa) cA h).length := by rw [mv_ws_len]; omega
    obtain ⟨e', he'⟩ : ∃ e', h[q - base + 4]? = some e' := ⟨_, List.getElem?_eq_getElem (by omega)⟩
    have hg := mv_ws_get (base := base) (oa := oa) (cA := cA) (a := q - base + 4) (by omega) he'
    rw [show q - base + 4 - 4 = q - base by omega] at hg
    have hg2 : (mv_ws base (mv_ad base oa) cA h ++ [(q, mv_trE (mv_ad base oa) cA e)])[q - base]? = some (mv_ad base oa (q - base + 4), mv_trE (mv_ad base oa) cA e') := by
      rw [List.getElem?_append_left hk]
      exact hg
    have := hD.1 _ _ _ _ hg2 hlast (by simp [mv_ad, show ¬ q - base + 4 < 4 by omega]; omega)
    omega
  have hqe : q = mv_ad base oa h.length := by
    simp only [mv_ad, if_neg (show ¬ h.length < 4 by omega)]
    omega
  refine ⟨hqe, by simp; omega, ?_, ?_, h4, ?_, Nat.le_trans h6.1 hS.1, fun q q1 q2 => (hS.2.1 q (Nat.lt_of_lt_of_le q1 h6.1) q2).trans (h6.2.1 q q1 q2), hS.2.2⟩
  · have : (h ++ [e]).length = h.length + 1 := by simp
    omega
  · omega
  · rw [hqe, mv_ws_app h1] at hP
    exact hP
section MV2
variable {p : Program} {l : Launch} {e : Env} {R : Room} {s : State} {m : MethodId} {args : Array Value} {below : List Frame} {meth : Method} {c : Code} {H : Heap} {locs : List Loc} {cells slots : Nat} {Q : State → Prop}
variable {cc : ByteArray} {pc x : Nat} {ls : Array Slot} {D : va_G} {cA : Nat → ClassId} {base : Nat} {oa : Nat → Nat} {h h1 : mv_H} {a : Nat} {rest : List Value} {Ts : List Cond} {own : String}
theorem mv_W_size {g : JFrame} (k : H.size ≤ s.heap.size + cells → W p l e R s m args below meth c H locs cells slots Q g) : W p l e R s m args below meth c H locs cells slots Q g := fun T hT X => k (by rw [← hT]; exact X.heapSize) T hT X
/-- the words of the worlds' classes -/
def mv_CK (Ts : List Cond) : Prop := ∀ (ci : Nat) (C : String) (T : u_T) (N : Nat), vwCl[ci]? = some (C, T, N) → ∀ w ∈ u_ws C T N, w ∈ Ts
/-- what a field's number means -/
def mv_FL (own : String) (args : Array Value) (s : State) (idx x : Nat) : Prop := ∀ (C : String) (T : u_T) (N : Nat), vwCl[x / 256]? = some (C, T, N) → (Cond.fieldLink own idx (T (x % 256)).1 (T (x % 256)).2.1 (T (x % 256)).2.2.1).before args s = true
theorem mv_gf_W (hx : p.tables.exec = Jvm.exec) (hb : c.code = cc) (hown : s.vm.findClass own = some m.cls) (hts : ∀ w ∈ Ts, w.before args s = true) (hCK : mv_CK Ts) (hK : va_K D vwCl (mv_tys cA) s) (hI : mv_I D cA base oa h s H locs cells) {idx : Nat} (hdg : decode cc pc = .ok (.getfield idx, 3)) (hfl : mv_FL own args s idx x) {v : Value} (hr : mv_gf x a h = some v)
    (k : W p l e R s m args below meth c H locs cells slots Q (F0 m (pc + 3) ls (mv_tr (mv_ad base oa) v :: rest))) : W p l e R s m args below meth c H locs cells slots Q (F0 m pc ls (.ref (mv_ad base oa a) :: rest)) := by
  unfold mv_gf at hr
  split at hr
  · rename_i ci fs he
    split at hr
    · rename_i hc
      obtain ⟨rfl, h4, hk⟩ := hc
      obtain ⟨C, T, N, hcl, hkN⟩ := mv_nf_in hk
      have hg := mv_ws_get (base := base) (oa := oa) (cA := cA) h4 he
      exact va_get hx hb hts (hCK _ _ _ _ hcl) hown hK hI.2.2.2.2.1 (a - 4) (fs := fs.map (mv_tr (mv_ad base oa))) hg hcl (x % 256) hkN (hfl _ _ _ hcl) (fun _ h9 => h9) (by rw [List.getElem?_map, hr]; rfl) hdg k
    · cases hr
  · cases hr
theorem mv_pf_W (hx : p.tables.exec = Jvm.exec) (hb : c.code = cc) (hown : s.vm.findClass own = some m.cls) (hts : ∀ w ∈ Ts, w.before args s = true) (hCK : mv_CK Ts) (hK : va_K D vwCl (mv_tys cA) s) (hI : mv_I D cA base oa h s H locs cells) {idx : Nat} (hdg : decode cc pc = .ok (.putfield idx, 3)) (hfl : mv_FL own args s idx x)
    (hfin : ∀ ty, (mv_nf (x / 256))[x % 256]? = some (ty, true) → meth.name = "<init>" ∧ ∀ (C : String) (T : u_T) (N : Nat), vwCl[x / 256]? = some (C, T, N) → C = own) {v : Value} (hr : mv_pf x v a h = some h1)
    (k : ∀ (H1 : Heap) (locs1 : List Loc), mv_I D cA base oa h1 s H1 locs1 cells → W p l e R s m args below meth c H1 locs1 cells slots Q (F0 m (pc + 3) ls rest)) : W p l e R s m args below meth c H locs cells slots Q (F0 m pc ls (mv_tr (mv_ad base oa) v :: .ref (mv_ad base oa a) :: rest)) := by
  unfold mv_pf at hr
  split at hr
  · rename_i ci fs he
    split at hr
    · rename_i ty fin hty
      split at hr
      · rename_i hc
        obtain ⟨rfl, h4, hk, hf⟩ := hc
        cases hr
        have hkn : x % 256 < (mv_nf (x / 256)).length := (List.getElem?_eq_some_iff.mp hty).1
        obtain ⟨C, T, N, hcl, hkN⟩ := mv_nf_in hkn
        obtain ⟨-, ⟨ty0, hp0, hq0⟩, hnm, hC⟩ := mv_cinfo hcl
        have hg := mv_ws_get (base := base) (oa := oa) (cA := cA) h4 he
        have htt := (hq0 _ hkN).symm.trans hty
        have e1 : ty0 (x % 256) = ty := congrArg (fun q : FieldType × Bool => q.1) (Option.some.inj htt)
        have e2 : (T (x % 256)).2.2.2 = fin := congrArg (fun q : FieldType × Bool => q.2) (Option.some.inj htt)
        have hd : parseFieldDescriptor (T (x % 256)).2.2.1 = some ty := by rw [← e1]; exact hp0 _ hkN
        obtain ⟨f1, f2⟩ := mv_fit_of (ad := mv_ad base oa) hf
        have hS0 : va_S (fun q => base ≤ q) H H locs := ⟨Nat.le_refl _, fun _ _ _ => rfl, hI.2.2.2.2.2.2.2⟩
        have fin2 : ∀ (H1 : Heap) (locs1 : List Loc), va_P D vwCl ((mv_ws base (mv_ad base oa) cA h).set (a - 4) (mv_ad base oa a, .inr (x / 256, (fs.map (mv_tr (mv_ad base oa))).set (x % 256) (mv_tr (mv_ad base oa) v)))) H1 → va_D (fun q => base ≤ q) ((mv_ws base (mv_ad base oa) cA h).set (a - 4) (mv_ad base oa a, .inr (x / 256, (fs.map (mv_tr (mv_ad base oa))).set (x % 256) (mv_tr (mv_ad base oa) v)))) → va_S (fun q => base ≤ q) H H1 locs1 → W p l e R s m args below meth c H1 locs1 cells slots Q (F0 m (pc + 3) ls rest) := by
          intro H1 locs1 hP _ hS
          rw [← List.map_set] at hP
          have hP2 : va_P D vwCl (mv_ws base (mv_ad base oa) cA (h.set a (.inr (x / 256, fs.set (x % 256) v)))) H1 := by
            rw [← mv_ws_set h4]
            exact hP
          exact mv_W_size (fun hz => k H1 locs1 (hI.wr hP2 hS hz))
        cases fin with
        | false => exact va_put hx hb hts (hCK _ _ _ _ hcl) ty0 hp0 hnm hown hK hI.2.2.2.2.1 mv_ws_D hS0 (a - 4) (fs := fs.map (mv_tr (mv_ad base oa))) hg hcl (x % 256) hkN (hfl _ _ _ hcl) (fun _ h9 => h9) e2 hd f1 f2 (by simpa using hk) hdg fin2
        | true =>
          obtain ⟨g1, g2⟩ := hfin _ hty
          exact va_putF hx hb hts (hCK _ _ _ _ hcl) ty0 hp0 hnm hown hK hI.2.2.2.2.1 mv_ws_D hS0 (a - 4) (fs := fs.map (mv_tr (mv_ad base oa))) hg hcl (x % 256) hkN (hfl _ _ _ hcl) (fun _ h9 => h9) e2 g1 ((hC _ hkN).trans (g2 _ _ _ hcl)) hd f1 f2 (by simpa using hk) hdg fin2
      · cases hr
    · cases hr
  · cases hr
end MV2
