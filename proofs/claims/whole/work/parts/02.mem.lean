/-! MEMORY BY NUMBERS. A memory is: how many cells; how many cells and fields were made; each cell's kind and length; ints; references.
Kinds 0 to 12: objects of vwCl; 13: ints, 14: booleans, 15: Found, 16: Level, 17: Rule, 18: Scope, 19: rows of ints. -/
abbrev Mm : Type := Nat × Nat × Nat × (Nat → Nat × Nat) × (Nat → Nat → Int32) × (Nat → Nat → Option Nat)
abbrev mN (m : Mm) : Nat := m.1
abbrev mC (m : Mm) : Nat := m.2.1
abbrev mZ (m : Mm) : Nat := m.2.2.1
abbrev mS (m : Mm) : Nat → Nat × Nat := m.2.2.2.1
abbrev mI (m : Mm) : Nat → Nat → Int32 := m.2.2.2.2.1
abbrev mR (m : Mm) : Nat → Nat → Option Nat := m.2.2.2.2.2
def up2 {α : Type} (f : Nat → Nat → α) (a k : Nat) (v : α) : Nat → Nat → α := fun b j => if b = a ∧ j = k then v else f b j
theorem up2_ne {α : Type} {f : Nat → Nat → α} {a k : Nat} {v : α} {b : Nat} (h : b ≠ a) : up2 f a k v b = f b := by
  funext j
  simp [up2, h]
theorem up2_row {α : Type} {f : Nat → Nat → α} {a k : Nat} {v : α} : up2 f a k v a = fun j => if j = k then v else f a j := by
  funext j
  simp [up2]
def mSetI (m : Mm) (a k : Nat) (v : Int32) : Mm := (m.1, m.2.1, m.2.2.1, m.2.2.2.1, up2 m.2.2.2.2.1 a k v, m.2.2.2.2.2)
def mSetR (m : Mm) (a k : Nat) (v : Option Nat) : Mm := (m.1, m.2.1, m.2.2.1, m.2.2.2.1, m.2.2.2.2.1, up2 m.2.2.2.2.2 a k v)
/-- a new cell of a kind and length, z fields large -/
def mNew (m : Mm) (kd len z : Nat) : Mm := (m.1 + 1, m.2.1 + 1, m.2.2.1 + z, (fun k => if k = m.1 then (kd, len) else m.2.2.2.1 k), (fun k => if k = m.1 then (fun _ => 0) else m.2.2.2.2.1 k), (fun k => if k = m.1 then (fun _ => none) else m.2.2.2.2.2 k))
/-- cells that nobody reaches -/
def mWaste (m : Mm) (c z : Nat) : Mm := (m.1, m.2.1 + c, m.2.2.1 + z, m.2.2.2.1, m.2.2.2.2.1, m.2.2.2.2.2)
def clsOf (ci : Nat) : vw_C := vwCl.getD ci (RX0, TX0, 7)
theorem clsOf_at {ci : Nat} (h : ci < 13) : vwCl[ci]? = some (clsOf ci) := by
  have h1 : ci < vwCl.length := h
  unfold clsOf
  rw [List.getD_eq_getElem?_getD, List.getElem?_eq_getElem h1]
  rfl
/-- whether a field is an int or a boolean -/
def fdI (ci j : Nat) : Bool := ((clsOf ci).2.1 j).2.2.1 == "I" || ((clsOf ci).2.1 j).2.2.1 == "Z"
def shv (ad : Nat → Nat) (v : Value) : Value := match v with
  | .ref a => .ref (ad a)
  | w => w
def okv (n : Nat) (v : Value) : Prop := match v with
  | .ref a => a < n
  | .int _ => True
  | .null => True
  | _ => False
theorem okv_cat {n : Nat} {v : Value} (h : okv n v) (ad : Nat → Nat) : (shv ad v).category = 1 := by
  cases v <;> first | rfl | exact h.elim
theorem okv_mono {n k : Nat} {v : Value} (h : okv n v) (hk : n ≤ k) : okv k v := by
  cases v <;> first | exact h | exact h.elim | exact Nat.lt_of_lt_of_le h hk
theorem shv_ext {n : Nat} {v : Value} (h : okv n v) {ad ad' : Nat → Nat} (ha : ∀ k, k < n → ad' k = ad k) : shv ad' v = shv ad v := by
  cases v <;> first | rfl | exact h.elim | exact congrArg Value.ref (ha _ h)
theorem shv_rf (ad : Nat → Nat) (r : Option Nat) : shv ad (va_rf r) = va_rf (r.map ad) := by cases r <;> rfl
def celF (ad : Nat → Nat) (m : Mm) (k ci : Nat) : List Value := (List.range (clsOf ci).2.2).map (fun j => if fdI ci j = true then Value.int (mI m k j) else va_rf ((mR m k j).map ad))
def cel (ad : Nat → Nat) (dA : Nat → ClassId) (m : Mm) (k : Nat) : va_E :=
  if (mS m k).1 < 13 then .inr ((mS m k).1, celF ad m k (mS m k).1)
  else if (mS m k).1 < 15 then .inl (dA (mS m k).1, (mS m k).2, .inl (mI m k))
  else .inl (dA (mS m k).1, (mS m k).2, .inr (.inr (.inr (.inr (fun j => (mR m k j).map ad)))))
def wof (ad : Nat → Nat) (dA : Nat → ClassId) (m : Mm) : va_W := (List.range (mN m)).map (fun k => (ad k, cel ad dA m k))
theorem wof_get {ad : Nat → Nat} {dA : Nat → ClassId} {m : Mm} {k : Nat} (h : k < mN m) : (wof ad dA m)[k]? = some (ad k, cel ad dA m k) := by
  simp [wof, h]
theorem wof_len {ad : Nat → Nat} {dA : Nat → ClassId} {m : Mm} : (wof ad dA m).length = mN m := by simp [wof]
theorem wof_in {ad : Nat → Nat} {dA : Nat → ClassId} {m : Mm} {k : Nat} {q : Nat × va_E} (h : (wof ad dA m)[k]? = some q) : k < mN m ∧ q = (ad k, cel ad dA m k) := by
  have hk : k < mN m := by
    have := (List.getElem?_eq_some_iff.mp h).1
    rwa [wof_len] at this
  rw [wof_get hk] at h
  exact ⟨hk, (Option.some.inj h).symm⟩
theorem wof_set {ad : Nat → Nat} {dA : Nat → ClassId} {m m' : Mm} {k : Nat} {e : va_E} (hn : mN m' = mN m) (he : cel ad dA m' k = e) (ho : ∀ i, i ≠ k → cel ad dA m' i = cel ad dA m i) : (wof ad dA m).set k (ad k, e) = wof ad dA m' := by
  apply List.ext_getElem?
  intro i
  by_cases hi : i < mN m
  · have hi' : i < mN m' := by rw [hn]; exact hi
    rw [wof_get hi']
    by_cases hk : k = i
    · subst hk
      rw [List.getElem?_set_self (by rw [wof_len]; exact hi), he]
    · rw [List.getElem?_set_ne hk, wof_get hi, ho i (fun q => hk q.symm)]
  · have h1 : (wof ad dA m')[i]? = none := List.getElem?_eq_none (by rw [wof_len, hn]; omega)
    rw [h1]
    exact List.getElem?_eq_none (by rw [List.length_set, wof_len]; omega)
theorem wof_push {ad ad' : Nat → Nat} {dA : Nat → ClassId} {m m' : Mm} {q : Nat} {e : va_E} (hn : mN m' = mN m + 1) (hq : ad' (mN m) = q) (he : cel ad' dA m' (mN m) = e) (ha : ∀ i, i < mN m → ad' i = ad i) (ho : ∀ i, i < mN m → cel ad' dA m' i = cel ad dA m i) : wof ad dA m ++ [(q, e)] = wof ad' dA m' := by
  apply List.ext_getElem?
  intro i
  rcases Nat.lt_trichotomy i (mN m) with hi | hi | hi
  · rw [List.getElem?_append_left (by rw [wof_len]; exact hi), wof_get hi, wof_get (by omega), ha i hi, ho i hi]
  · subst hi
    rw [List.getElem?_append_right (by rw [wof_len]; exact Nat.le_refl _), wof_len, wof_get (by omega), hq, he]
    simp
  · have h1 : (wof ad' dA m')[i]? = none := List.getElem?_eq_none (by rw [wof_len]; omega)
    rw [h1]
    exact List.getElem?_eq_none (by rw [List.length_append, wof_len, List.length_singleton]; omega)
/-- references stay within -/
def wfm (m : Mm) : Prop := ∀ k j a, k < mN m → mR m k j = some a → a < mN m
theorem map_ext {n : Nat} {r : Option Nat} (h : ∀ a, r = some a → a < n) {ad ad' : Nat → Nat} (ha : ∀ k, k < n → ad' k = ad k) : r.map ad' = r.map ad := by
  cases r with
  | none => rfl
  | some a => exact congrArg some (ha a (h a rfl))
theorem cel_ext {ad ad' : Nat → Nat} {dA : Nat → ClassId} {m m' : Mm} {i n : Nat} (ha : ∀ k, k < n → ad' k = ad k) (hw : ∀ j a, mR m i j = some a → a < n) (hs : mS m' i = mS m i) (hI : mI m' i = mI m i) (hR : mR m' i = mR m i) : cel ad' dA m' i = cel ad dA m i := by
  have h1 : ∀ j, (mR m i j).map ad' = (mR m i j).map ad := fun j => map_ext (hw j) ha
  unfold cel celF
  rw [hs, hI, hR]
  simp only [h1]
theorem cel_same {ad : Nat → Nat} {dA : Nat → ClassId} {m m' : Mm} {i : Nat} (hs : mS m' i = mS m i) (hI : mI m' i = mI m i) (hR : mR m' i = mR m i) : cel ad dA m' i = cel ad dA m i := by
  unfold cel celF
  rw [hs, hI, hR]
theorem cel_obj {ad : Nat → Nat} {dA : Nat → ClassId} {m : Mm} {k ci : Nat} (h : (mS m k).1 = ci) (hc : ci < 13) : cel ad dA m k = .inr (ci, celF ad m k ci) := by
  subst h
  unfold cel
  rw [if_pos hc]
theorem cel_int {ad : Nat → Nat} {dA : Nat → ClassId} {m : Mm} {k kd len : Nat} (h : mS m k = (kd, len)) (hc : kd = 13 ∨ kd = 14) : cel ad dA m k = .inl (dA kd, len, .inl (mI m k)) := by
  unfold cel
  rw [h, if_neg (by show ¬ kd < 13; omega), if_pos (by show kd < 15; omega)]
theorem cel_ref {ad : Nat → Nat} {dA : Nat → ClassId} {m : Mm} {k kd len : Nat} (h : mS m k = (kd, len)) (hc : 15 ≤ kd) : cel ad dA m k = .inl (dA kd, len, .inr (.inr (.inr (.inr (fun j => (mR m k j).map ad))))) := by
  unfold cel
  rw [h, if_neg (by show ¬ kd < 13; omega), if_neg (by show ¬ kd < 15; omega)]
theorem celF_at {ad : Nat → Nat} {m : Mm} {k ci j : Nat} (hj : j < (clsOf ci).2.2) : (celF ad m k ci)[j]? = some (if fdI ci j = true then Value.int (mI m k j) else va_rf ((mR m k j).map ad)) := by
  simp [celF, hj]
theorem celF_len {ad : Nat → Nat} {m : Mm} {k ci : Nat} : (celF ad m k ci).length = (clsOf ci).2.2 := by simp [celF]
theorem up2_at {α : Type} {f : Nat → Nat → α} {a k : Nat} {v : α} : up2 f a k v a k = v := by simp [up2]
theorem up2_off {α : Type} {f : Nat → Nat → α} {a k j : Nat} {v : α} (h : ¬ k = j) : up2 f a k v a j = f a j := if_neg (fun q => h q.2.symm)
theorem celF_setI {ad : Nat → Nat} {m : Mm} {k ci j : Nat} {v : Int32} (hI : fdI ci j = true) : (celF ad m k ci).set j (.int v) = celF ad (mSetI m k j v) k ci := by
  apply List.ext_getElem?
  intro i
  by_cases hi : i < (clsOf ci).2.2
  · rw [celF_at (m := mSetI m k j v) hi]
    by_cases h : j = i
    · subst h
      rw [List.getElem?_set_self (by rw [celF_len]; exact hi), if_pos hI]
      exact congrArg (fun x => some (Value.int x)) (Eq.symm (up2_at (f := mI m)))
    · rw [List.getElem?_set_ne h, celF_at hi]
      show _ = some (if fdI ci i = true then Value.int (up2 (mI m) k j v k i) else va_rf ((mR m k i).map ad))
      rw [up2_off h]
  · rw [List.getElem?_eq_none (l := celF ad (mSetI m k j v) k ci) (by rw [celF_len]; omega), List.getElem?_eq_none (by rw [List.length_set, celF_len]; omega)]
theorem celF_setR {ad : Nat → Nat} {m : Mm} {k ci j : Nat} {v : Option Nat} (hI : fdI ci j = false) : (celF ad m k ci).set j (va_rf (v.map ad)) = celF ad (mSetR m k j v) k ci := by
  apply List.ext_getElem?
  intro i
  by_cases hi : i < (clsOf ci).2.2
  · rw [celF_at (m := mSetR m k j v) hi]
    by_cases h : j = i
    · subst h
      rw [List.getElem?_set_self (by rw [celF_len]; exact hi), if_neg (by rw [hI]; decide)]
      exact congrArg (fun x => some (va_rf (Option.map ad x))) (Eq.symm (up2_at (f := mR m)))
    · rw [List.getElem?_set_ne h, celF_at hi]
      show _ = some (if fdI ci i = true then Value.int (mI m k i) else va_rf ((up2 (mR m) k j v k i).map ad))
      rw [up2_off h]
  · rw [List.getElem?_eq_none (l := celF ad (mSetR m k j v) k ci) (by rw [celF_len]; omega), List.getElem?_eq_none (by rw [List.length_set, celF_len]; omega)]
theorem wof_putI {ad : Nat → Nat} {dA : Nat → ClassId} {m : Mm} {k ci j : Nat} {v : Int32} (hs : (mS m k).1 = ci) (hc : ci < 13) (hI : fdI ci j = true) : (wof ad dA m).set k (ad k, .inr (ci, (celF ad m k ci).set j (.int v))) = wof ad dA (mSetI m k j v) :=
  wof_set rfl (by rw [celF_setI hI]; exact cel_obj hs hc) (fun i hi => cel_same rfl (up2_ne hi) rfl)
theorem wof_putR {ad : Nat → Nat} {dA : Nat → ClassId} {m : Mm} {k ci j : Nat} {v : Option Nat} (hs : (mS m k).1 = ci) (hc : ci < 13) (hI : fdI ci j = false) : (wof ad dA m).set k (ad k, .inr (ci, (celF ad m k ci).set j (va_rf (v.map ad)))) = wof ad dA (mSetR m k j v) :=
  wof_set rfl (by rw [celF_setR hI]; exact cel_obj hs hc) (fun i hi => cel_same rfl rfl (up2_ne hi))
theorem wof_astI {ad : Nat → Nat} {dA : Nat → ClassId} {m : Mm} {k kd len j : Nat} {v : Int32} (hs : mS m k = (kd, len)) (hc : kd = 13 ∨ kd = 14) : (wof ad dA m).set k (ad k, .inl (dA kd, len, .inl (upd (mI m k) j v))) = wof ad dA (mSetI m k j v) :=
  wof_set rfl (by rw [cel_int (m := mSetI m k j v) hs hc]; exact congrArg (fun f => Sum.inl (dA kd, len, Sum.inl f)) up2_row) (fun i hi => cel_same rfl (up2_ne hi) rfl)
theorem wof_astR {ad : Nat → Nat} {dA : Nat → ClassId} {m : Mm} {k kd len j a : Nat} (hs : mS m k = (kd, len)) (hc : 15 ≤ kd) : (wof ad dA m).set k (ad k, .inl (dA kd, len, .inr (.inr (.inr (.inr (va_up (fun j => (mR m k j).map ad) j (some (ad a)))))))) = wof ad dA (mSetR m k j (some a)) :=
  wof_set rfl (by
    rw [cel_ref (m := mSetR m k j (some a)) hs hc]
    refine congrArg (fun f => Sum.inl (dA kd, len, Sum.inr (Sum.inr (Sum.inr (Sum.inr f))))) (funext fun i => ?_)
    show Option.map ad (up2 (mR m) k j (some a) k i) = va_up (fun j => (mR m k j).map ad) j (some (ad a)) i
    by_cases h : i = j
    · subst h
      rw [up2_at]
      exact (if_pos rfl).symm
    · rw [up2_off (fun q => h q.symm)]
      exact (if_neg h).symm) (fun i hi => cel_same rfl rfl (up2_ne hi))
theorem wfm_setI {m : Mm} {k j : Nat} {v : Int32} (h : wfm m) : wfm (mSetI m k j v) := h
theorem wfm_setR {m : Mm} {k j : Nat} {v : Option Nat} (h : wfm m) (hv : ∀ a, v = some a → a < mN m) : wfm (mSetR m k j v) := by
  intro i x a hi ha
  by_cases e : i = k ∧ x = j
  · refine hv a ?_
    have h1 : up2 m.2.2.2.2.2 k j v i x = some a := ha
    simpa [up2, e] using h1
  · refine h i x a hi ?_
    have h1 : up2 m.2.2.2.2.2 k j v i x = some a := ha
    simpa [up2, e] using h1
theorem wfm_new {m : Mm} {kd len z : Nat} (h : wfm m) : wfm (mNew m kd len z) := by
  intro i x a hi ha
  have h1 : (if i = m.1 then (fun _ => none) else m.2.2.2.2.2 i) x = some a := ha
  by_cases e : i = m.1
  · rw [if_pos e] at h1
    cases h1
  · rw [if_neg e] at h1
    have hi' : i < m.1 + 1 := hi
    exact Nat.lt_succ_of_lt (h i x a (show i < m.1 by omega) h1)
theorem wof_new {ad ad' : Nat → Nat} {dA : Nat → ClassId} {m : Mm} {kd len z q : Nat} {e : va_E} (hw : wfm m) (hq : ad' (mN m) = q) (ha : ∀ i, i < mN m → ad' i = ad i) (he : cel ad' dA (mNew m kd len z) (mN m) = e) : wof ad dA m ++ [(q, e)] = wof ad' dA (mNew m kd len z) :=
  wof_push rfl hq he ha (fun i hi => by
    have hne : i ≠ m.1 := fun q => by subst q; exact Nat.lt_irrefl _ hi
    exact cel_ext ha (fun j a h => hw i j a hi h) (if_neg hne) (if_neg hne) (if_neg hne))
/-- locals by their places -/
def hasL (ad : Nat → Nat) (ls : Array Slot) (L : List (Option Value)) : Prop := ls.size = L.length ∧ lv_wf ls ∧ ∀ (i : Nat) (v : Value), L[i]? = some (some v) → ls[i]? = some (.val (shv ad v))
def okL (n : Nat) (L : List (Option Value)) : Prop := ∀ (i : Nat) (v : Value), L[i]? = some (some v) → okv n v
def okS (n : Nat) (st : List Value) : Prop := ∀ v ∈ st, okv n v
def lvo (ad : Nat → Nat) (L : List (Option Value)) : List (Nat × Value) := (List.range L.length).filterMap (fun i => match L[i]? with
  | some (some v) => some (i, shv ad v)
  | _ => none)
theorem lvo_mem {ad : Nat → Nat} {L : List (Option Value)} {i : Nat} {v : Value} (h : L[i]? = some (some v)) : (i, shv ad v) ∈ lvo ad L :=
  List.mem_filterMap.mpr ⟨i, List.mem_range.mpr (List.getElem?_eq_some_iff.mp h).1, by rw [h]⟩
theorem hasL.lv {ad : Nat → Nat} {ls : Array Slot} {L : List (Option Value)} (h : hasL ad ls L) : lv_has ls L.length (lvo ad L) := by
  refine ⟨h.1, h.2.1, fun q hq => ?_⟩
  obtain ⟨i, -, hi⟩ := List.mem_filterMap.mp hq
  split at hi
  · rename_i v hv
    cases hi
    exact h.2.2 i v hv
  · cases hi
theorem hasL.store {ad : Nat → Nat} {n : Nat} {ls' : Array Slot} {L : List (Option Value)} {i : Nat} {v : Value} (hi : i < L.length) (ho : okL n L) (h' : lv_has ls' L.length ((i, shv ad v) :: (lvo ad L).filter (fun q => !(q.1 == i) && !(q.1 + 1 == i && q.2.category == 2)))) : hasL ad ls' (L.set i (some v)) := by
  refine ⟨by rw [h'.1, List.length_set], h'.2.1, fun j w hj => ?_⟩
  by_cases e : i = j
  · subst e
    rw [List.getElem?_set_self hi] at hj
    have hw : v = w := Option.some.inj (Option.some.inj hj)
    subst hw
    exact h'.2.2 (i, shv ad v) List.mem_cons_self
  · rw [List.getElem?_set_ne e] at hj
    refine h'.2.2 (j, shv ad w) (List.mem_cons_of_mem _ (List.mem_filter.mpr ⟨lvo_mem hj, ?_⟩))
    have hc : (shv ad w).category = 1 := okv_cat (ho j w hj) ad
    have h1 : (j == i) = false := beq_eq_false_iff_ne.mpr (fun q => e q.symm)
    simp [hc, h1]
theorem okL.set {n : Nat} {L : List (Option Value)} {i : Nat} {v : Value} (h : okL n L) (hv : okv n v) : okL n (L.set i (some v)) := by
  intro j w hj
  by_cases e : i = j
  · subst e
    by_cases hi : i < L.length
    · rw [List.getElem?_set_self hi] at hj
      cases hj
      exact hv
    · rw [List.getElem?_eq_none (by rw [List.length_set]; omega)] at hj
      cases hj
  · rw [List.getElem?_set_ne e] at hj
    exact h j w hj
theorem okL.mono {n k : Nat} {L : List (Option Value)} (h : okL n L) (hk : n ≤ k) : okL k L := fun i v q => okv_mono (h i v q) hk
theorem okS.mono {n k : Nat} {st : List Value} (h : okS n st) (hk : n ≤ k) : okS k st := fun v q => okv_mono (h v q) hk
theorem okS.t {n : Nat} {v : Value} {st : List Value} (h : okS n (v :: st)) : okS n st := fun w q => h w (List.mem_cons_of_mem _ q)
theorem okS.h {n : Nat} {v : Value} {st : List Value} (h : okS n (v :: st)) : okv n v := h v List.mem_cons_self
theorem okS.c {n : Nat} {v : Value} {st : List Value} (hv : okv n v) (h : okS n st) : okS n (v :: st) := fun w q => by
  rcases List.mem_cons.mp q with e | e
  · rw [e]; exact hv
  · exact h w e
theorem okvi {n : Nat} {x : Int32} : okv n (.int x) := trivial
theorem okvn {n : Nat} : okv n .null := trivial
theorem okS.ci {n : Nat} {x : Int32} {st : List Value} (h : okS n st) : okS n (.int x :: st) := okS.c okvi h
theorem okS.cn {n : Nat} {st : List Value} (h : okS n st) : okS n (.null :: st) := okS.c okvn h
theorem okS.app {n : Nat} {a b : List Value} (ha : okS n a) (hb : okS n b) : okS n (a ++ b) := fun w q => (List.mem_append.mp q).elim (ha w) (hb w)
theorem okS.left {n : Nat} {a b : List Value} (h : okS n (a ++ b)) : okS n a := fun w q => h w (List.mem_append_left _ q)
theorem okS.right {n : Nat} {a b : List Value} (h : okS n (a ++ b)) : okS n b := fun w q => h w (List.mem_append_right _ q)
theorem okS.rev {n : Nat} {a : List Value} (h : okS n a.reverse) : okS n a := fun w q => h w (List.mem_reverse.mpr q)
theorem hasL.ext {ad ad' : Nat → Nat} {n : Nat} {ls : Array Slot} {L : List (Option Value)} (h : hasL ad ls L) (ho : okL n L) (ha : ∀ k, k < n → ad' k = ad k) : hasL ad' ls L :=
  ⟨h.1, h.2.1, fun i v q => by rw [shv_ext (ho i v q) ha]; exact h.2.2 i v q⟩
theorem okS.ext {ad ad' : Nat → Nat} {n : Nat} {st : List Value} (ho : okS n st) (ha : ∀ k, k < n → ad' k = ad k) : st.map (shv ad') = st.map (shv ad) :=
  List.map_congr_left (fun v q => shv_ext (ho v q) ha)
theorem okS.cat {n : Nat} {st : List Value} (ho : okS n st) (ad : Nat → Nat) : ((st.map (shv ad)).map fun v => v.category).sum = st.length := by
  induction st with
  | nil => rfl
  | cons v st ih =>
    have h1 : (shv ad v).category = 1 := okv_cat ho.h ad
    simp only [List.map_cons, List.sum_cons, h1, ih ho.t, List.length_cons]
    omega
/-- an address of a number more -/
def adn (ad : Nat → Nat) (n q : Nat) : Nat → Nat := fun k => if k = n then q else ad k
theorem adn_at {ad : Nat → Nat} {n q : Nat} : adn ad n q n = q := if_pos rfl
theorem adn_lt {ad : Nat → Nat} {n q : Nat} (k : Nat) (h : k < n) : adn ad n q k = ad k := if_neg (Nat.ne_of_lt h)
