/-! heaps that grow: a known part and explicit cells behind it (constructors) -/
def kZ (t n : Nat) : mv_E := .inl (t, n, mv_zero t)
section MKN
variable {d : Nat} {code : mv_Cd} {rt : Option FieldType} {pc pc1 x a k A i ci : Nat} {lo : mv_L} {st : List Value} {hE : mv_H} {r : Option Value} {g t t1 : List mv_E} {fs : List Value}
theorem mk_get (hg : g.length = a) : (g ++ t)[a + k]? = t[k]? := by
  subst hg
  rw [List.getElem?_append_right (by omega)]
  congr 1
  omega
theorem mk_set (hg : g.length = a) {e : mv_E} : (g ++ t).set (a + k) e = g ++ t.set k e := by
  subst hg
  rw [List.set_append_right _ _ (by omega)]
  congr 2
  omega
theorem mw_newO {n : Nat} (hf : mv_find pc code = some (.new i, 3, x)) (hx : x < mv_fs.length) (hg : g.length = a) (hn : t.length = n) (hA : a + n = A) (ht : t ++ [.inr (x, (mv_nf x).map fun q => mv_dflt q.1)] = t1) (hp : pc + 3 = pc1) (kk : mw d code rt pc1 lo (.ref A :: st) (g ++ t1) r hE) : mw d code rt pc lo st (g ++ t) r hE := by
  refine mw_heap hf ?_ hp kk
  show (if x < mv_fs.length then some (.ref (g ++ t).length :: st, (g ++ t) ++ [.inr (x, (mv_nf x).map fun q => mv_dflt q.1)]) else none) = _
  rw [if_pos hx, List.append_assoc, ht, List.length_append, hg, hn, hA]
theorem mw_newZ {n T m : Nat} {j : Int32} {ty : ClassFile.ArrayType} (hf : mv_find pc code = some (.newarray ty, 2, x)) (hty : mv_atT ty = T) (hT : T < 4) (hj : ¬ j < 0 ∧ j.toNatClampNeg = m ∧ m ≤ 60000000) (hg : g.length = a) (hn : t.length = n) (hA : a + n = A) (ht : t ++ [kZ T m] = t1) (hp : pc + 2 = pc1) (kk : mw d code rt pc1 lo (.ref A :: st) (g ++ t1) r hE) : mw d code rt pc lo (.int j :: st) (g ++ t) r hE := by
  refine mw_heap hf ?_ hp kk
  obtain ⟨h1, h2, h3⟩ := hj
  subst hty
  show (if mv_atT ty < 4 then mv_newA (mv_atT ty) j st (g ++ t) else none) = _
  rw [if_pos hT]
  unfold mv_newA
  rw [if_pos ⟨by omega, h1, by omega⟩, List.append_assoc, h2, List.length_append, hg, hn, hA]
  exact congrArg (fun q => some (_, g ++ q)) ht
theorem mw_newQ {n m : Nat} {j : Int32} (hf : mv_find pc code = some (.anewarray i, 3, x)) (hT : x = 4 ∨ x = 5) (hj : ¬ j < 0 ∧ j.toNatClampNeg = m ∧ m ≤ 60000000) (hg : g.length = a) (hn : t.length = n) (hA : a + n = A) (ht : t ++ [kZ x m] = t1) (hp : pc + 3 = pc1) (kk : mw d code rt pc1 lo (.ref A :: st) (g ++ t1) r hE) : mw d code rt pc lo (.int j :: st) (g ++ t) r hE := by
  refine mw_heap hf ?_ hp kk
  obtain ⟨h1, h2, h3⟩ := hj
  show (if x = 4 ∨ x = 5 then mv_newA x j st (g ++ t) else none) = _
  rw [if_pos hT]
  unfold mv_newA
  rw [if_pos ⟨by omega, h1, by omega⟩, List.append_assoc, h2, List.length_append, hg, hn, hA]
  exact congrArg (fun q => some (_, g ++ q)) ht
theorem mw_putN {ty : FieldType} {fin : Bool} {f : Nat} {v : Value} (hf : mv_find pc code = some (.putfield i, 3, x)) (hg : g.length = a) (hA : a + k = A) (h4 : 4 ≤ A) (hk : t[k]? = some (.inr (ci, fs))) (hc : x / 256 = ci) (hx : x % 256 = f) (hq : (mv_nf ci)[f]? = some (ty, fin)) (hl : f < fs.length) (hv : mv_fit ty v = true) (ht : t.set k (.inr (ci, fs.set f v)) = t1) (hp : pc + 3 = pc1) (kk : mw d code rt pc1 lo st (g ++ t1) r hE) : mw d code rt pc lo (v :: .ref A :: st) (g ++ t) r hE := by
  refine mw_heap hf ?_ hp kk
  show mv_put1 (mv_pf x v A (g ++ t)) st = _
  subst hA hx
  unfold mv_pf
  rw [mk_get hg, hk]
  simp only [hq]
  rw [if_pos ⟨hc.symm, h4, hl, hv⟩, mk_set hg, ht]
  rfl
theorem mw_getN {f : Nat} {v : Value} (hf : mv_find pc code = some (.getfield i, 3, x)) (hg : g.length = a) (hA : a + k = A) (h4 : 4 ≤ A) (hk : t[k]? = some (.inr (ci, fs))) (hc : x / 256 = ci) (hx : x % 256 = f) (hl : f < (mv_nf ci).length) (hv : fs[f]? = some v) (hp : pc + 3 = pc1) (kk : mw d code rt pc1 lo (v :: st) (g ++ t) r hE) : mw d code rt pc lo (.ref A :: st) (g ++ t) r hE := by
  refine mw_heap hf ?_ hp kk
  show mv_psh1 (mv_gf x A (g ++ t)) st _ = _
  subst hA hx
  unfold mv_gf
  rw [mk_get hg, hk]
  simp only
  rw [if_pos ⟨hc.symm, h4, hl⟩, hv]
  rfl
theorem mw_aasN {k2 A2 m T : Nat} {f : Nat → Option Nat} {j : Int32} (hf : mv_find pc code = some (.aastore, 1, x)) (hg : g.length = a) (hA : a + k = A) (hA2 : a + k2 = A2) (h4 : 4 ≤ A ∧ 4 ≤ A2) (hT : T = 4 ∨ T = 5) (hk : t[k]? = some (.inl (T, m, .inr (.inr f)))) (hk2 : t[k2]? = some (.inr (ci, fs))) (hc : ci = mv_el T) (hi : mv_in j m) (ht : t.set k (.inl (T, m, .inr (.inr (mv_up f j.toNatClampNeg (some A2))))) = t1) (hp : pc + 1 = pc1) (kk : mw d code rt pc1 lo st (g ++ t1) r hE) : mw d code rt pc lo (.ref A2 :: .int j :: .ref A :: st) (g ++ t) r hE := by
  refine mw_heap hf ?_ hp kk
  show mv_put1 (mv_aas A2 j A (g ++ t)) st = _
  subst hA hA2
  unfold mv_aas
  rw [mk_get hg, hk]
  simp only
  rw [mk_get hg, hk2]
  simp only
  rw [if_pos ⟨hT, h4.1, h4.2, hc, hi⟩, mk_set hg, ht]
  rfl
theorem mw_lasN {m : Nat} {f : Nat → Int64} {j : Int32} {v : Int64} (hf : mv_find pc code = some (.lastore, 1, x)) (hg : g.length = a) (hA : a + k = A) (h4 : 4 ≤ A) (hk : t[k]? = some (.inl (1, m, .inr (.inl f)))) (hi : mv_in j m) (ht : t.set k (.inl (1, m, .inr (.inl (mv_up f j.toNatClampNeg v)))) = t1) (hp : pc + 1 = pc1) (kk : mw d code rt pc1 lo st (g ++ t1) r hE) : mw d code rt pc lo (.long v :: .int j :: .ref A :: st) (g ++ t) r hE := by
  refine mw_heap hf ?_ hp kk
  show mv_put1 (mv_las v j A (g ++ t)) st = _
  subst hA
  unfold mv_las
  rw [mk_get hg, hk]
  simp only
  rw [if_pos ⟨trivial, h4, hi⟩, mk_set hg, ht]
  rfl
theorem mw_objN (hf : mv_find pc code = some (.invokespecial i, 3, 0)) (h8 : (st.map fun v => v.category).sum ≤ 8) (hp : pc + 3 = pc1) {h : mv_H} (kk : mw d code rt pc1 lo st h r hE) : mw d code rt pc lo (.ref A :: st) h r hE := by
  refine mw_nat (kd := 2) hf rfl ?_ hp kk
  simp only [mv_cll, if_pos h8]
  rfl
theorem mk_recv (hg : g.length = a) (hA : a + k = A) (h4 : 4 ≤ A) (hk : t[k]? = some (.inr (ci, fs))) {as : List Value} : mv_recv ci (.ref A :: as) (g ++ t) = true := by
  subst hA
  show (match (g ++ t)[a + k]? with | some (.inr (c, _)) => decide (c = ci ∧ 4 ≤ a + k) | _ => false) = true
  rw [mk_get hg, hk]
  simp [h4]
theorem mk_argV {j nl na kd : Nat} {y : MethodName} {b : ByteArray} {rt2 : Option FieldType} {cd : mv_Cd} {as rest : List Value} (hm : mv_mc[j]? = some ((y, b, nl, rt2, ci, na, kd), cd)) (hg : g.length = a) (hA : a + k = A) (h4 : 4 ≤ A) (hk : t[k]? = some (.inr (ci, fs))) (hs : st = (Value.ref A :: as).reverse ++ rest) (hn : as.length + 1 = na) (h8 : (rest.map fun v => v.category).sum ≤ 8) : mv_arg kd j st (g ++ t) = some (.ref A :: as, rest) := by
  subst hs
  subst hn
  have e1 : ((Value.ref A :: as).reverse ++ rest).take (as.length + 1) = (Value.ref A :: as).reverse := by rw [List.take_append_of_le_length (by simp), List.take_of_length_le (by simp)]
  have e2 : ((Value.ref A :: as).reverse ++ rest).drop (as.length + 1) = rest := by rw [List.drop_append_of_le_length (by simp), List.drop_of_length_le (by simp)]; rfl
  simp only [mv_arg, hm, e1, e2, List.reverse_reverse]
  rw [if_pos (by exact ⟨trivial, by simp, h8, Or.inr (mk_recv hg hA h4 hk)⟩)]
/-- a constructor's call: the object is the last cell -/
theorem mw_initN {j nl na d2 : Nat} {y : MethodName} {b : ByteArray} {rt2 : Option FieldType} {cd : mv_Cd} {as rest : List Value} {t0 t2 : List mv_E} (hf : mv_find pc code = some (.invokespecial i, 3, j + 1)) (hj : j < 1000) (ht : t0 ++ [.inr (ci, fs)] = t) (hm : mv_mc[j]? = some ((y, b, nl, rt2, ci, na, 2), cd)) (hg : g.length = a) (hA : a + t0.length = A) (h4 : 4 ≤ A) (hs : st = (Value.ref A :: as).reverse ++ rest) (hn : as.length + 1 = na) (h8 : (rest.map fun v => v.category).sum ≤ 8) (hd : ∀ h : mv_H, h.length = A → mw_Does d2 j (.ref A :: as) (h ++ [.inr (ci, fs)]) none (h ++ t2)) (hdd : d2 ≤ d) (ht3 : t0 ++ t2 = t1) (hp : pc + 3 = pc1) (kk : mw d code rt pc1 lo rest (g ++ t1) r hE) : mw d code rt pc lo st (g ++ t) r hE := by
  have hk : t[t0.length]? = some (.inr (ci, fs)) := by rw [← ht, List.getElem?_append_right (Nat.le_refl _)]; simp
  have h1 := hd (g ++ t0) (by rw [List.length_append, hg, hA])
  rw [List.append_assoc, List.append_assoc, ht, ht3] at h1
  exact mw_call hf rfl hj (mk_argV hm hg hA h4 hk hs hn h8) (h1.up hdd) hp kk
end MKN
