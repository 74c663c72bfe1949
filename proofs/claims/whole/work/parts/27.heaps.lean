/-! the heap's instructions together; how the heap grows in a run -/
/-- the same room -/
def mv_eqv (h h1 : mv_H) : Prop := h1.length = h.length ∧ mv_sl h1 = mv_sl h ∧ ∀ i, i < 4 → h1[i]? = h[i]?
theorem mv_eqv.ge {h h1 : mv_H} (q : mv_eqv h h1) : mv_ge h h1 := ⟨Nat.le_of_eq q.1.symm, Nat.le_of_eq q.2.1.symm, fun i hi _ => q.2.2 i hi⟩
theorem mv_eqv_set {h : mv_H} {a : Nat} {e0 e1 : mv_E} (h4 : 4 ≤ a) (he : h[a]? = some e0) (hs : mv_sz e1 = mv_sz e0) : mv_eqv h (h.set a e1) := ⟨by simp, mv_sl_set he hs, fun i hi => by rw [List.getElem?_set, if_neg (by omega)]⟩
section MVG
variable {h h1 : mv_H} {a x : Nat} {i : Int32}
theorem mv_pf_eqv {v : Value} (hr : mv_pf x v a h = some h1) : mv_eqv h h1 := by
  unfold mv_pf at hr
  split at hr
  · rename_i ci fs he
    split at hr
    · split at hr
      · rename_i hc
        cases hr
        exact mv_eqv_set hc.2.1 he (by simp [mv_sz])
      · cases hr
    · cases hr
  · cases hr
theorem mv_ias_eqv {y : Int32} (hr : mv_ias y i a h = some h1) : mv_eqv h h1 := by
  unfold mv_ias at hr
  split at hr
  · rename_i t n f he
    split at hr
    · rename_i hc
      cases hr
      exact mv_eqv_set hc.2.1 he rfl
    · cases hr
  · cases hr
theorem mv_bas_eqv {y : Int32} (hr : mv_bas y i a h = some h1) : mv_eqv h h1 := by
  unfold mv_bas at hr
  split at hr
  · rename_i t n f he
    split at hr
    · rename_i hc
      cases hr
      exact mv_eqv_set hc.2.1 he rfl
    · cases hr
  · cases hr
theorem mv_las_eqv {y : Int64} (hr : mv_las y i a h = some h1) : mv_eqv h h1 := by
  unfold mv_las at hr
  split at hr
  · rename_i t n f he
    split at hr
    · rename_i hc
      cases hr
      exact mv_eqv_set hc.2.1 he rfl
    · cases hr
  · cases hr
theorem mv_aas_eqv {y : Nat} (hr : mv_aas y i a h = some h1) : mv_eqv h h1 := by
  unfold mv_aas at hr
  split at hr
  · rename_i t n f he
    split at hr
    · split at hr
      · rename_i hc
        cases hr
        exact mv_eqv_set hc.2.1 he rfl
      · cases hr
    · cases hr
  · cases hr
theorem mv_newA_app {t : Nat} {n : Int32} {st st1 : List Value} (hr : mv_newA t n st h = some (st1, h1)) : h1 = h ++ [.inl (t, n.toNatClampNeg, mv_zero t)] := by
  unfold mv_newA at hr
  split at hr
  · cases hr
    rfl
  · cases hr
theorem mv_psh1_of {r : Option Value} {st st1 : List Value} (hr : mv_psh1 r st h = some (st1, h1)) : ∃ v, r = some v ∧ st1 = v :: st ∧ h1 = h := by
  unfold mv_psh1 at hr
  split at hr
  · cases hr
    exact ⟨_, rfl, rfl, rfl⟩
  · cases hr
theorem mv_put1_of {r : Option mv_H} {st st1 : List Value} (hr : mv_put1 r st = some (st1, h1)) : r = some h1 ∧ st1 = st := by
  unfold mv_put1 at hr
  split at hr
  · cases hr
    exact ⟨rfl, rfl⟩
  · cases hr
theorem mv_heap_ge {ins : ClassFile.Instr} {st st1 : List Value} (hr : mv_heap ins x st h = some (st1, h1)) : mv_ge h h1 := by
  unfold mv_heap at hr
  split at hr
  case h_2 => split at hr <;> first | (cases hr; done) | exact (mv_pf_eqv (mv_put1_of hr).1).ge
  case h_8 => split at hr <;> first | (cases hr; done) | exact (mv_ias_eqv (mv_put1_of hr).1).ge
  case h_9 => split at hr <;> first | (cases hr; done) | exact (mv_bas_eqv (mv_put1_of hr).1).ge
  case h_10 => split at hr <;> first | (cases hr; done) | exact (mv_las_eqv (mv_put1_of hr).1).ge
  case h_11 => split at hr <;> first | (cases hr; done) | exact (mv_aas_eqv (mv_put1_of hr).1).ge
  case h_12 =>
    split at hr
    · split at hr
      · rw [mv_newA_app hr]; exact mv_ge_app
      · cases hr
    · cases hr
  case h_13 =>
    split at hr
    · split at hr
      · rw [mv_newA_app hr]; exact mv_ge_app
      · cases hr
    · cases hr
  case h_14 =>
    split at hr
    · cases hr; exact mv_ge_app
    · cases hr
  case h_15 => cases hr
  all_goals
    split at hr
    · obtain ⟨_, _, _, rfl⟩ := mv_psh1_of hr
      exact mv_ge.refl _
    · cases hr
end MVG
theorem mv_ft_all : ∀ ci, ci < 13 → ∀ q ∈ mv_nf ci, q.1 = .int ∨ q.1 = .boolean ∨ q.1 = .long ∨ (∃ n, q.1 = .object n) ∨ ∃ t, q.1 = .array t := by
  have key : ∀ ci, ci < 13 → (mv_nf ci).all (fun q => match q.1 with | .int => true | .boolean => true | .long => true | .object _ => true | .array _ => true | _ => false) = true := by decide +kernel
  intro ci hci q hq
  have h := List.all_eq_true.mp (key ci hci) q hq
  obtain ⟨ty, b⟩ := q
  cases ty <;> first | (cases h; done) | simp
section MV4
variable {p : Program} {l : Launch} {e : Env} {R : Room} {s : State} {m : MethodId} {args : Array Value} {below : List Frame} {meth : Method} {c : Code} {H : Heap} {locs : List Loc} {cells slots : Nat} {Q : State → Prop}
variable {cc : ByteArray} {pc x len ci L : Nat} {init : Bool} {ls : Array Slot} {D : va_G} {cA : Nat → ClassId} {base : Nat} {oa : Nat → Nat} {h h1 : mv_H} {xs : Nat → Int32} {ins : ClassFile.Instr} {st st1 : List Value}
theorem mv_heap_W (hx : p.tables.exec = Jvm.exec) (hb : c.code = cc) (hown : s.vm.findClass (mv_cn ci) = some m.cls) (hts : ∀ w ∈ mv_tbl, w.before args s = true) (hF : mv_Fr D cA base oa L xs s) (hini : init = true → meth.name = "<init>") (hI : mv_I D cA base oa h s H locs cells) (h0 : h[0]? = some (.inl (0, L, .inl xs))) (hdg : decode cc pc = .ok (ins, len)) (hlen : len = mv_il ins) (hew : mv_eW ci init ins x = true) (hr : mv_heap ins x st h = some (st1, h1)) (hc : cells + h1.length ≤ R.cells + h.length) (hs : slots + mv_sl h1 ≤ R.slots + mv_sl h)
    (k : ∀ (H1 : Heap) (locs1 : List Loc) (cells1 slots1 : Nat), cells + h1.length = cells1 + h.length → slots + mv_sl h1 = slots1 + mv_sl h → mv_I D cA base oa h1 s H1 locs1 cells1 → W p l e R s m args below meth c H1 locs1 cells1 slots1 Q (F0 m (pc + len) ls (st1.map (mv_tr (mv_ad base oa))))) : W p l e R s m args below meth c H locs cells slots Q (F0 m pc ls (st.map (mv_tr (mv_ad base oa)))) := by
  subst hlen
  obtain ⟨hK, hX, hA1, hA2, -, -⟩ := id hF
  unfold mv_heap at hr
  split at hr
  · -- getfield
    split at hr
    · obtain ⟨v, hv, rfl, rfl⟩ := mv_psh1_of hr
      exact mv_gf_W hx hb hown hts mv_CKt hK hI hdg (fun C T N hc => hts _ (mv_fl_of hew hc)) hv (k H locs cells slots rfl rfl hI)
    · cases hr
  · -- putfield
    split at hr
    · obtain ⟨hv, rfl⟩ := mv_put1_of hr
      have hq := mv_pf_eqv hv
      simp only [mv_eW, Bool.and_eq_true] at hew
      refine mv_pf_W hx hb hown hts mv_CKt hK hI hdg (fun C T N hc => hts _ (mv_fl_of hew.1 hc)) (fun ty hty => ?_) hv (fun H1 locs1 hI1 => k H1 locs1 cells slots (by rw [hq.1]) (by rw [hq.2.1]) hI1)
      have h2 := hew.2
      simp only [mv_fin, hty, Bool.and_eq_true, beq_iff_eq] at h2
      refine ⟨hini h2.1, fun C T N hc => ?_⟩
      obtain ⟨-, rfl⟩ := h2
      have hlt : x / 256 < 13 := (List.getElem?_eq_some_iff.mp hc).1
      generalize x / 256 = y at hc hlt
      match y, hlt, hc with
      | 0, _, hc => cases hc; rfl
      | 1, _, hc => cases hc; rfl
      | 2, _, hc => cases hc; rfl
      | 3, _, hc => cases hc; rfl
      | 4, _, hc => cases hc; rfl
      | 5, _, hc => cases hc; rfl
      | 6, _, hc => cases hc; rfl
      | 7, _, hc => cases hc; rfl
      | 8, _, hc => cases hc; rfl
      | 9, _, hc => cases hc; rfl
      | 10, _, hc => cases hc; rfl
      | 11, _, hc => cases hc; rfl
      | 12, _, hc => cases hc; rfl
    · cases hr
  · -- iaload
    split at hr
    · obtain ⟨v, hv, rfl, rfl⟩ := mv_psh1_of hr
      exact mv_ial_W hx hb hK hI hX h0 hdg hv (k H locs cells slots rfl rfl hI)
    · cases hr
  · split at hr
    · obtain ⟨v, hv, rfl, rfl⟩ := mv_psh1_of hr
      exact mv_bal_W hx hb hK hI hdg hv (k H locs cells slots rfl rfl hI)
    · cases hr
  · split at hr
    · obtain ⟨v, hv, rfl, rfl⟩ := mv_psh1_of hr
      exact mv_lal_W hx hb hK hI hdg hv (k H locs cells slots rfl rfl hI)
    · cases hr
  · split at hr
    · obtain ⟨v, hv, rfl, rfl⟩ := mv_psh1_of hr
      exact mv_aal_W hx hb hK hI hdg hv (k H locs cells slots rfl rfl hI)
    · cases hr
  · split at hr
    · obtain ⟨v, hv, rfl, rfl⟩ := mv_psh1_of hr
      exact mv_len_W hx hb hK hI hX h0 hdg hv (k H locs cells slots rfl rfl hI)
    · cases hr
  · split at hr
    · obtain ⟨hv, rfl⟩ := mv_put1_of hr
      have hq := mv_ias_eqv hv
      exact mv_ias_W hx hb hK hI hdg hv (fun H1 locs1 hI1 => k H1 locs1 cells slots (by rw [hq.1]) (by rw [hq.2.1]) hI1)
    · cases hr
  · split at hr
    · obtain ⟨hv, rfl⟩ := mv_put1_of hr
      have hq := mv_bas_eqv hv
      exact mv_bas_W hx hb hK hI hdg hv (fun H1 locs1 hI1 => k H1 locs1 cells slots (by rw [hq.1]) (by rw [hq.2.1]) hI1)
    · cases hr
  · split at hr
    · obtain ⟨hv, rfl⟩ := mv_put1_of hr
      have hq := mv_las_eqv hv
      exact mv_las_W hx hb hK hI hdg hv (fun H1 locs1 hI1 => k H1 locs1 cells slots (by rw [hq.1]) (by rw [hq.2.1]) hI1)
    · cases hr
  · split at hr
    · obtain ⟨hv, rfl⟩ := mv_put1_of hr
      have hq := mv_aas_eqv hv
      exact mv_aas_W hx hb hK hI hdg hv (fun H1 locs1 hI1 => k H1 locs1 cells slots (by rw [hq.1]) (by rw [hq.2.1]) hI1)
    · cases hr
  · rename_i ty
    split at hr
    · rename_i n st2
      split at hr
      · rename_i ht
        have ha := mv_newA_app hr
        have hac : (Cond.arrayClass (Op.newarray.typeOf ty)).before args s = true := by
          cases ty with
          | int => exact hts _ (mv_tbl_of mv_ac0 rfl)
          | long => exact hts _ (mv_tbl_of mv_ac1 rfl)
          | byte => exact hts _ (mv_tbl_of mv_ac2 rfl)
          | boolean => exact hts _ (mv_tbl_of mv_ac3 rfl)
          | char => exact absurd ht (by decide)
          | float => exact absurd ht (by decide)
          | double => exact absurd ht (by decide)
          | short => exact absurd ht (by decide)
        have el : h1.length = h.length + 1 := by rw [ha]; simp
        have es : mv_sl h1 = mv_sl h + n.toNatClampNeg := by rw [ha, mv_sl_app]; rfl
        exact mv_newP_W hx hb hK hI hdg hac ht hr (by omega) (by omega) (fun H1 hI1 => k H1 locs (cells + 1) (slots + n.toNatClampNeg) (by omega) (by omega) hI1)
      · cases hr
    · cases hr
  · split at hr
    · rename_i n st2
      split at hr
      · rename_i h4
        have ha := mv_newA_app hr
        have el : h1.length = h.length + 1 := by rw [ha]; simp
        have es : mv_sl h1 = mv_sl h + n.toNatClampNeg := by rw [ha, mv_sl_app]; rfl
        have hcl := hts _ (mv_an_of hew)
        rcases h4 with rfl | rfl
        · exact mv_newR_W (C := "StraitHouse$Convention") hx hb hown hK hI hdg rfl (Or.inl rfl) hcl hA1 hr (by omega) (by omega) (fun H1 hI1 => k H1 locs (cells + 1) (slots + n.toNatClampNeg) (by omega) (by omega) hI1)
        · exact mv_newR_W (C := "StraitHouse$Ship") hx hb hown hK hI hdg rfl (Or.inr rfl) hcl hA2 hr (by omega) (by omega) (fun H1 hI1 => k H1 locs (cells + 1) (slots + n.toNatClampNeg) (by omega) (by omega) hI1)
      · cases hr
    · cases hr
  · split at hr
    · rename_i hlt
      cases hr
      have hlt : x < 13 := hlt
      obtain ⟨⟨C, T, N⟩, hci⟩ := mv_cl_lt hlt
      obtain ⟨w1, w2⟩ := mv_cw_of hci
      have hN : (mv_nf x).length = N := (mv_cinfo hci).1
      have el : (h ++ [(.inr (x, (mv_nf x).map fun q => mv_dflt q.1) : mv_E)]).length = h.length + 1 := by simp
      have es : mv_sl (h ++ [(.inr (x, (mv_nf x).map fun q => mv_dflt q.1) : mv_E)]) = mv_sl h + N := by rw [mv_sl_app]; simp [mv_sz, hN]
      exact mv_newO_W hx hb hown hts mv_CKt hK hI hdg hci (hts _ (mv_cl_of hew hci)) (hts _ w1) (hts _ w2) (by omega) (by omega) (mv_ft_all x hlt) (fun H1 hI1 => k H1 locs (cells + 1) (slots + N) (by omega) (by omega) hI1)
    · cases hr
  · cases hr
end MV4
