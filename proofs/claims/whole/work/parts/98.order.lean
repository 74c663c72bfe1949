/-! orders through the gorge: the first of the least -/
abbrev Pl : Type := List (Nat × Nat)
/-- how many, ready, through, way, gap -/
abbrev PP : Type := Nat × (Nat → Nat) × (Nat → Nat) × (Nat → Int32) × Nat
def pC (P : PP) : Nat := P.1
def pRd (P : PP) : Nat → Nat := P.2.1
def pTh (P : PP) : Nat → Nat := P.2.2.1
def pNo (P : PP) : Nat → Int32 := P.2.2.2.1
def pGp (P : PP) : Nat := P.2.2.2.2
def need (P : PP) (x : Nat × Nat) (p : Nat) : Nat := if pNo P x.1 = pNo P p then max (x.2 + pGp P) (x.2 + pTh P x.1 - pTh P p) else x.2 + pTh P x.1
def ear (P : PP) : Pl → Nat → Nat
  | [], p => pRd P p
  | x :: l, p => max (need P x p) (ear P l p)
def fr (l : Pl) (p : Nat) : Bool := l.all (fun x => decide (x.1 ≠ p))
def lst (P : PP) (l : Pl) : Nat → Nat
  | 0 => 0
  | i + 1 => lst P l i + (if fr l i = true then ear P l i - pRd P i else 0)
def nfr (l : Pl) : Nat → Nat
  | 0 => 0
  | i + 1 => nfr l i + (if fr l i = true then 1 else 0)
abbrev Bs : Type := Nat × Pl
def stp (P : PP) (l : Pl) (p : Nat) : Pl := (p, ear P l p) :: l
def wai (P : PP) (l : Pl) (w p : Nat) : Nat := w + (ear P l p - pRd P p)
def node (P : PP) : Nat → Pl → Nat → Bs → Bs
  | 0, l, w, st => if w < st.1 then (w, l) else st
  | m + 1, l, w, st => (List.range' 0 (pC P)).foldl (fun st p => if fr l p = true then node P m (stp P l p) (wai P l w p) st else st) st
/-- one branch -/
def brn (P : PP) (m : Nat) (l : Pl) (w : Nat) (st : Bs) (p : Nat) : Bs := if fr l p = true then node P m (stp P l p) (wai P l w p) st else st
theorem node_s {P : PP} {m : Nat} {l : Pl} {w : Nat} {st : Bs} : node P (m + 1) l w st = (List.range' 0 (pC P)).foldl (brn P m l w) st := rfl
def Cmp (P : PP) : Nat → Pl → Nat → Nat → Prop
  | 0, _, w, W => W = w
  | m + 1, l, w, W => ∃ p, p < pC P ∧ fr l p = true ∧ Cmp P m (stp P l p) (wai P l w p) W
section ORD
variable {P : PP}
theorem fr_iff {l : Pl} {p : Nat} : fr l p = true ↔ ∀ x ∈ l, x.1 ≠ p := by
  unfold fr
  rw [List.all_eq_true]
  exact ⟨fun h x hx => of_decide_eq_true (h x hx), fun h x hx => decide_eq_true (h x hx)⟩
theorem fr_cons {x : Nat × Nat} {l : Pl} {p : Nat} : fr (x :: l) p = true ↔ x.1 ≠ p ∧ fr l p = true := by
  rw [fr_iff, fr_iff]
  refine ⟨fun h => ⟨h x (by simp), fun y hy => h y (by simp [hy])⟩, fun h y hy => ?_⟩
  rcases List.mem_cons.mp hy with rfl | hy
  · exact h.1
  · exact h.2 y hy
theorem ear_le {l : Pl} {p z : Nat} : ear P l p ≤ z ↔ pRd P p ≤ z ∧ ∀ x ∈ l, need P x p ≤ z := by
  induction l with
  | nil => exact ⟨fun h => ⟨h, fun x hx => by cases hx⟩, fun h => h.1⟩
  | cons x l ih =>
    unfold ear
    rw [Nat.max_le, ih]
    refine ⟨fun h => ⟨h.2.1, fun y hy => ?_⟩, fun h => ⟨h.2 x (by simp), h.1, fun y hy => h.2 y (by simp [hy])⟩⟩
    rcases List.mem_cons.mp hy with rfl | hy
    · exact h.1
    · exact h.2.2 y hy
theorem ear_rd {l : Pl} {p : Nat} : pRd P p ≤ ear P l p := (ear_le.1 (Nat.le_refl _)).1
theorem ear_up {x : Nat × Nat} {l : Pl} {p : Nat} : ear P l p ≤ ear P (x :: l) p := Nat.le_max_right _ _
theorem cmp_mono : ∀ (m : Nat) (l : Pl) (w W : Nat), Cmp P m l w W → w ≤ W := by
  intro m
  induction m with
  | zero => intro l w W h; have h : W = w := h; omega
  | succ m ih =>
    intro l w W h
    obtain ⟨p, _, _, h⟩ := h
    have := ih _ _ _ h
    unfold wai at this
    omega
theorem nfr_cons {l : Pl} {p b : Nat} (hf : fr l p = true) : ∀ i, nfr ((p, b) :: l) i + (if p < i then 1 else 0) = nfr l i := by
  intro i
  induction i with
  | zero => simp [nfr]
  | succ i ih =>
    unfold nfr
    by_cases e : p = i
    · subst e
      rw [if_neg (fun q => (fr_cons.1 q).1 rfl), if_pos (by omega), if_pos hf]
      rw [if_neg (by omega)] at ih
      omega
    · have : (fr ((p, b) :: l) i = true) ↔ fr l i = true := by rw [fr_cons]; exact ⟨fun q => q.2, fun q => ⟨e, q⟩⟩
      by_cases hfi : fr l i = true
      · rw [if_pos (this.2 hfi), if_pos hfi]
        by_cases hp : p < i
        · rw [if_pos hp] at ih; rw [if_pos (by omega)]; omega
        · rw [if_neg hp] at ih; rw [if_neg (by omega)]; omega
      · rw [if_neg (fun q => hfi (this.1 q)), if_neg hfi]
        by_cases hp : p < i
        · rw [if_pos hp] at ih; rw [if_pos (by omega)]; omega
        · rw [if_neg hp] at ih; rw [if_neg (by omega)]; omega
theorem nfr_stp {l : Pl} {p c : Nat} (hf : fr l p = true) (hp : p < c) {m : Nat} (h : nfr l c = m + 1) : nfr (stp P l p) c = m := by
  have := nfr_cons (b := ear P l p) hf c
  rw [if_pos hp] at this
  unfold stp
  omega
theorem nfr_no {l : Pl} : ∀ c, nfr l c = 0 → ∀ p, p < c → fr l p = false := by
  intro c
  induction c with
  | zero => intro _ p hp; omega
  | succ c ih =>
    intro h p hp
    unfold nfr at h
    by_cases e : p = c
    · subst e
      cases hf : fr l p with
      | true => rw [if_pos hf] at h; omega
      | false => rfl
    · exact ih (by omega) p (by omega)
theorem nfr_ex {l : Pl} : ∀ c, 0 < nfr l c → ∃ p, p < c ∧ fr l p = true := by
  intro c
  induction c with
  | zero => intro h; exact absurd h (by simp [nfr])
  | succ c ih =>
    intro h
    unfold nfr at h
    by_cases hf : fr l c = true
    · exact ⟨c, by omega, hf⟩
    · rw [if_neg hf] at h
      obtain ⟨p, h1, h2⟩ := ih (by omega)
      exact ⟨p, by omega, h2⟩
theorem nfr_nil : ∀ c, nfr [] c = c := by
  intro c
  induction c with
  | zero => rfl
  | succ c ih => unfold nfr; rw [ih]; rfl
theorem lst_zero {l : Pl} : ∀ c, nfr l c = 0 → lst P l c = 0 := by
  intro c
  induction c with
  | zero => intro _; rfl
  | succ c ih =>
    intro h
    have hn := nfr_no _ h c (by omega)
    unfold nfr at h
    unfold lst
    rw [ih (by omega), hn]
    rfl
theorem lst_cons {l : Pl} {p : Nat} : ∀ i, lst P l i ≤ (if p < i then ear P l p - pRd P p else 0) + lst P (stp P l p) i := by
  intro i
  induction i with
  | zero => simp [lst]
  | succ i ih =>
    unfold lst
    by_cases e : p = i
    · subst e
      rw [if_neg (by omega)] at ih
      rw [if_pos (show p < p + 1 by omega), if_neg (show ¬ fr (stp P l p) p = true from fun q => (fr_cons.1 q).1 rfl)]
      split <;> omega
    · have h1 : (fr (stp P l p) i = true) ↔ fr l i = true := by unfold stp; rw [fr_cons]; exact ⟨fun q => q.2, fun q => ⟨e, q⟩⟩
      have h2 : ear P l i ≤ ear P (stp P l p) i := ear_up
      have h3 : (if p < i then ear P l p - pRd P p else 0) = (if p < i + 1 then ear P l p - pRd P p else 0) := by
        by_cases hp : p < i
        · rw [if_pos hp, if_pos (by omega)]
        · rw [if_neg hp, if_neg (by omega)]
      rw [← h3]
      by_cases hfi : fr l i = true
      · rw [if_pos hfi, if_pos (h1.2 hfi)]; omega
      · rw [if_neg hfi, if_neg (fun q => hfi (h1.1 q))]; omega
theorem cmp_lst : ∀ (m : Nat) (l : Pl) (w W : Nat), nfr l (pC P) = m → Cmp P m l w W → w + lst P l (pC P) ≤ W := by
  intro m
  induction m with
  | zero => intro l w W hn h; have h : W = w := h; rw [lst_zero _ hn]; omega
  | succ m ih =>
    intro l w W hn h
    obtain ⟨p, hp, hf, h⟩ := h
    have h1 := ih _ _ _ (nfr_stp hf hp hn) h
    have h2 := lst_cons (P := P) (l := l) (p := p) (pC P)
    rw [if_pos hp] at h2
    unfold wai at h1
    omega
theorem ni : ∀ (m : Nat) (l : Pl) (w : Nat) (st : Bs), (∀ W, Cmp P m l w W → st.1 ≤ W) → node P m l w st = st := by
  intro m
  induction m with
  | zero =>
    intro l w st h
    have := h w rfl
    unfold node
    rw [if_neg (by omega)]
  | succ m ih =>
    intro l w st h
    rw [node_s]
    have hL : ∀ L : List Nat, (∀ p ∈ L, p < pC P) → L.foldl (brn P m l w) st = st := by
      intro L
      induction L with
      | nil => intro _; rfl
      | cons p L ihL =>
        intro hp
        rw [List.foldl_cons]
        have e : brn P m l w st p = st := by
          unfold brn
          split
          · rename_i hf
            exact ih _ _ _ (fun W hW => h W ⟨p, hp p (by simp), hf, hW⟩)
          · rfl
        rw [e]
        exact ihL (fun q hq => hp q (by simp [hq]))
    refine hL _ (fun p hp => ?_)
    have := List.mem_range'_1.mp hp
    omega
theorem lo : ∀ (m : Nat) (l : Pl) (w : Nat) (st : Bs), (node P m l w st).1 ≤ st.1 ∧ ∀ W, Cmp P m l w W → (node P m l w st).1 ≤ W := by
  intro m
  induction m with
  | zero =>
    intro l w st
    unfold node
    split
    · rename_i h; exact ⟨by show w ≤ _; omega, fun W hW => by have hW : W = w := hW; show w ≤ W; omega⟩
    · rename_i h; exact ⟨Nat.le_refl _, fun W hW => by have hW : W = w := hW; omega⟩
  | succ m ih =>
    intro l w st
    rw [node_s]
    have hL : ∀ (L : List Nat) (st : Bs), (L.foldl (brn P m l w) st).1 ≤ st.1 ∧ ∀ p ∈ L, fr l p = true → ∀ W, Cmp P m (stp P l p) (wai P l w p) W → (L.foldl (brn P m l w) st).1 ≤ W := by
      intro L
      induction L with
      | nil => intro st; exact ⟨Nat.le_refl _, fun p hp => by cases hp⟩
      | cons p L ihL =>
        intro st
        rw [List.foldl_cons]
        have h1 := ihL (brn P m l w st p)
        have h2 : (brn P m l w st p).1 ≤ st.1 ∧ (fr l p = true → ∀ W, Cmp P m (stp P l p) (wai P l w p) W → (brn P m l w st p).1 ≤ W) := by
          unfold brn
          split
          · exact ⟨(ih _ _ _).1, fun _ => (ih _ _ _).2⟩
          · rename_i hf; exact ⟨Nat.le_refl _, fun q => absurd q hf⟩
        refine ⟨Nat.le_trans h1.1 h2.1, fun q hq hf W hW => ?_⟩
        rcases List.mem_cons.mp hq with rfl | hq
        · exact Nat.le_trans h1.1 (h2.2 hf W hW)
        · exact h1.2 q hq hf W hW
    refine ⟨(hL _ _).1, fun W hW => ?_⟩
    obtain ⟨p, hp, hf, h⟩ := hW
    exact (hL _ _).2 p (List.mem_range'_1.mpr (by omega)) hf W h
/-! two alike -/
def alk (P : PP) (p q : Nat) : Prop := pNo P q = pNo P p ∧ pRd P q = pRd P p ∧ pTh P q = pTh P p
def swp (p q x : Nat) : Nat := if x = p then q else if x = q then p else x
def mpS (p q : Nat) (l : Pl) : Pl := l.map (fun x => (swp p q x.1, x.2))
theorem swp_alk {p q : Nat} (h : alk P p q) (x : Nat) : pNo P (swp p q x) = pNo P x ∧ pRd P (swp p q x) = pRd P x ∧ pTh P (swp p q x) = pTh P x := by
  obtain ⟨h1, h2, h3⟩ := h
  unfold swp
  split
  · rename_i e; subst e; exact ⟨h1, h2, h3⟩
  · split
    · rename_i e; subst e; exact ⟨h1.symm, h2.symm, h3.symm⟩
    · exact ⟨rfl, rfl, rfl⟩
theorem swp_inj {p q x y : Nat} (h : swp p q x = swp p q y) : x = y := by
  unfold swp at h
  split at h <;> split at h <;> (try split at h) <;> (try split at h) <;> omega
theorem ear_swp {p q : Nat} (h : alk P p q) {l : Pl} {r : Nat} : ear P (mpS p q l) (swp p q r) = ear P l r := by
  induction l with
  | nil => exact (swp_alk h r).2.1
  | cons x l ih =>
    show max (need P (swp p q x.1, x.2) (swp p q r)) (ear P (mpS p q l) (swp p q r)) = max (need P x r) (ear P l r)
    rw [ih]
    have e : need P (swp p q x.1, x.2) (swp p q r) = need P x r := by
      unfold need
      simp only [(swp_alk h x.1).1, (swp_alk h x.1).2.2, (swp_alk h r).1, (swp_alk h r).2.2]
    rw [e]
theorem fr_swp {p q : Nat} {l : Pl} {r : Nat} (hf : fr l r = true) : fr (mpS p q l) (swp p q r) = true := by
  rw [fr_iff] at *
  intro x hx e
  obtain ⟨y, hy, rfl⟩ := List.mem_map.mp hx
  exact hf y hy (swp_inj e)
theorem cmp_swp {p q : Nat} (h : alk P p q) (hp : p < pC P) (hq : q < pC P) : ∀ (m : Nat) (l : Pl) (w W : Nat), Cmp P m l w W → Cmp P m (mpS p q l) w W := by
  intro m
  induction m with
  | zero => intro l w W hW; exact hW
  | succ m ih =>
    intro l w W hW
    obtain ⟨r, hr, hf, hW⟩ := hW
    refine ⟨swp p q r, ?_, fr_swp hf, ?_⟩
    · unfold swp; split
      · exact hq
      · split
        · exact hp
        · exact hr
    · have := ih _ _ _ hW
      have e1 : mpS p q (stp P l r) = stp P (mpS p q l) (swp p q r) := by
        show (swp p q r, ear P l r) :: mpS p q l = (swp p q r, ear P (mpS p q l) (swp p q r)) :: mpS p q l
        rw [ear_swp h]
      have e2 : wai P (mpS p q l) w (swp p q r) = wai P l w r := by
        unfold wai
        rw [ear_swp h, (swp_alk h r).2.1]
      rw [e2, ← e1]
      exact this
theorem mpS_id {p q : Nat} : ∀ {l : Pl}, fr l p = true → fr l q = true → mpS p q l = l := by
  intro l
  induction l with
  | nil => intro _ _; rfl
  | cons x l ih =>
    intro h1 h2
    have h1 := fr_cons.1 h1
    have h2 := fr_cons.1 h2
    show (swp p q x.1, x.2) :: mpS p q l = x :: l
    rw [ih h1.2 h2.2, show swp p q x.1 = x.1 by unfold swp; rw [if_neg h1.1, if_neg h2.1]]
theorem twn {p q : Nat} (h : alk P p q) (hp : p < pC P) (hq : q < pC P) {m : Nat} {l : Pl} {w W : Nat} (f1 : fr l p = true) (f2 : fr l q = true) (hC : Cmp P m (stp P l p) (wai P l w p) W) : Cmp P m (stp P l q) (wai P l w q) W := by
  have h1 := cmp_swp h hp hq _ _ _ _ hC
  have e : ear P l q = ear P l p := by
    have := ear_swp h (l := l) (r := p)
    rw [mpS_id f1 f2, show swp p q p = q by unfold swp; rw [if_pos rfl]] at this
    exact this
  have e1 : mpS p q (stp P l p) = stp P l q := by
    show (swp p q p, ear P l p) :: mpS p q l = (q, ear P l q) :: l
    rw [mpS_id f1 f2, show swp p q p = q by unfold swp; rw [if_pos rfl], e]
  rw [e1] at h1
  have e2 : wai P l w q = wai P l w p := by unfold wai; rw [e, h.2.1]
  rw [e2]
  exact h1
/-! bounds -/
def PB (P : PP) : Prop := pC P ≤ 8 ∧ pGp P ≤ 60 ∧ ∀ p, p < pC P → pRd P p ≤ 400 ∧ pTh P p ≤ 400
def Bd (P : PP) (l : Pl) (w : Nat) : Prop := (∀ x ∈ l, x.1 < pC P ∧ x.2 ≤ 400 + 460 * l.length) ∧ w ≤ 6000 * l.length
theorem ear_bd (hP : PB P) {l : Pl} {w p : Nat} (hb : Bd P l w) (hp : p < pC P) : ear P l p ≤ 400 + 460 * (l.length + 1) := by
  have h0 := (hP.2.2 p hp).1
  have hm : 400 ≤ 400 + 460 * (l.length + 1) := Nat.le_add_right _ _
  rw [ear_le]
  refine ⟨Nat.le_trans h0 hm, fun x hx => ?_⟩
  obtain ⟨h1, h2⟩ := hb.1 x hx
  have h3 := (hP.2.2 x.1 h1).2
  have h4 := hP.2.1
  unfold need
  split
  · refine Nat.max_le.mpr ⟨by omega, by omega⟩
  · omega
theorem stp_bd (hP : PB P) {l : Pl} {w p : Nat} (hb : Bd P l w) (hp : p < pC P) (hl : l.length ≤ 8) : Bd P (stp P l p) (wai P l w p) := by
  have he := ear_bd hP hb hp
  refine ⟨fun x hx => ?_, ?_⟩
  · rcases List.mem_cons.mp hx with rfl | hx
    · exact ⟨hp, by show ear P l p ≤ 400 + 460 * (l.length + 1); exact he⟩
    · obtain ⟨h1, h2⟩ := hb.1 x hx
      exact ⟨h1, by show x.2 ≤ 400 + 460 * (l.length + 1); omega⟩
  · have := hb.2
    show w + (ear P l p - pRd P p) ≤ 6000 * (l.length + 1)
    omega
theorem cmp_bd (hP : PB P) : ∀ (m : Nat) (l : Pl) (w W : Nat), l.length + m ≤ 8 → Bd P l w → Cmp P m l w W → W ≤ 6000 * (l.length + m) := by
  intro m
  induction m with
  | zero => intro l w W _ hb h; have h : W = w := h; have := hb.2; omega
  | succ m ih =>
    intro l w W hl hb h
    obtain ⟨p, hp, hf, h⟩ := h
    have hl2 : (stp P l p).length = l.length + 1 := rfl
    have := ih _ _ _ (by rw [hl2]; omega) (stp_bd hP hb hp (by omega)) h
    rw [hl2] at this
    omega
theorem cmp_ex : ∀ (m : Nat) (l : Pl) (w : Nat), nfr l (pC P) = m → ∃ W, Cmp P m l w W := by
  intro m
  induction m with
  | zero => intro l w _; exact ⟨w, rfl⟩
  | succ m ih =>
    intro l w h
    obtain ⟨p, hp, hf⟩ := nfr_ex (l := l) (pC P) (by omega)
    obtain ⟨W, hW⟩ := ih (stp P l p) (wai P l w p) (nfr_stp hf hp h)
    exact ⟨W, p, hp, hf, hW⟩
def best (P : PP) : Bs := node P (pC P) [] 0 (1000000, [])
theorem best_C (hP : PB P) : node P (pC P) [] 0 (1000000, []) = best P ∧ (best P).1 ≤ 48000 := by
  have hb : ∀ W, Cmp P (pC P) [] 0 W → W ≤ 48000 := fun W hW => by
    have := cmp_bd hP (pC P) [] 0 W (by simp; exact hP.1) ⟨fun x hx => (by cases hx), Nat.zero_le _⟩ hW
    have := hP.1
    simp at *
    omega
  obtain ⟨W, hW⟩ := cmp_ex (P := P) (pC P) [] 0 (nfr_nil _)
  have h1 := (lo (P := P) (pC P) [] 0 (1000000, [])).2 W hW
  have h2 := hb W hW
  exact ⟨rfl, by unfold best; omega⟩
end ORD
