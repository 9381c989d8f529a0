/-! WHAT HOLDS IN EVERY RUN: what a step leaves of the levels and the marks -/
def kz (s s' : Ac) : Prop := aM s' = aM s ∧ aR s' = aR s ∧ ∀ j, lZ (aV s' j) = lZ (aV s j)
theorem kz.rf {s : Ac} : kz s s := ⟨rfl, rfl, fun _ => rfl⟩
theorem kz.tr {s s1 s2 : Ac} (h : kz s s1) (h' : kz s1 s2) : kz s s2 := ⟨h'.1.trans h.1, h'.2.1.trans h.2.1, fun j => (h'.2.2 j).trans (h.2.2 j)⟩
theorem kz_up {s : Ac} {L i : Nat} {w : Lv} (h : lZ w = lZ (aV s i)) : kz s (sL s L (up1 (aV s) i w)) := ⟨rfl, rfl, fun j => by
  show lZ (up1 (aV s) i w j) = _
  rcases up1_or (f := aV s) (x := i) (y := j) (v := w) with ⟨f1, f2⟩ | ⟨_, f2⟩
  · rw [f2, f1, h]
  · rw [f2]⟩
theorem kz_setK {s : Ac} {l : List Tk} : kz s (setK s l) := kz_up rfl
theorem kz_push {s : Ac} {l : List Tk} : kz s (push s l) := kz_setK
theorem kz_setD {s : Ac} {o : Nat} {d : List (Nat × Nat)} {g : List Nat} : kz s (setD s o d g) := kz_up rfl
theorem kz_dec {s : Ac} {o n : Nat} : kz s (decA s o n).2 := by
  unfold decA
  split
  · exact kz.rf
  · split
    · exact kz_setD
    · split
      · exact kz.rf
      · exact kz_setD
theorem kz_step {s : Ac} : kz s (stepA s) := by
  unfold stepA
  split
  · exact kz.rf
  · exact kz.rf
theorem kz_fail {s : Ac} {o : Nat} : kz s (failA s o) := by
  unfold failA
  split
  · exact kz.rf
  · split
    · exact kz.rf
    · split
      · exact kz.rf
      · exact kz_up rfl
theorem kz_call {fs : List Fn} {s : Ac} {x : Nat} : kz s (callA fs s x) := by
  unfold callA
  split
  · exact kz_fail
  · have hd : kz s (if 1 < (rulf fs (tO (aF s x))).length then decA s (tW (aF s x)) (rulf fs (tO (aF s x))).length else (0, s)).2 := by
      split
      · exact kz_dec
      · exact kz.rf
    have gen : ∀ d : Nat × Ac, kz s d.2 → kz s (if aE d.2 = 0 then (if aE (stepA d.2) = 0 then takeR (stepA d.2) x ((rulf fs (tO (aF s x))).getD d.1 (none, none, .nil)) else stepA d.2) else d.2) := fun d hd => by
      split
      · split
        · exact hd.tr (kz_step.tr (kz_push (s := takeT (stepA d.2) x _)))
        · exact hd.tr kz_step
      · exact hd
    exact gen _ hd
theorem kz_force {fs : List Fn} {h : Bool} {s : Ac} {x : Nat} (h6 : tK (aF s x) ≠ 6) : kz s (forceG fs h s x) := by
  unfold forceG
  split
  · exact kz_call
  · simp only []
    split
    · split
      · exact kz_dec.tr (kz_push (s := link _ _ _))
      · exact kz_dec
    · exact kz_dec
  · exact kz_push
  · exact kz_push
  · exact absurd ‹_› h6
  · exact kz.rf
theorem kz_met {fs : List Fn} {s : Ac} {p : Tr} {x c : Nat} : kz s (metA fs s p x c) := by
  unfold metA
  simp only []
  split
  · split
    · exact kz.rf
    · exact kz_push (s := metT s x (tcode p - 10))
  · split
    · exact kz_push
    · exact kz_fail
theorem kz_end {h : Bool} {s : Ac} {c : Nat} : kz s (endG h s c) := by
  unfold endG
  simp only []
  split
  · exact kz_push (s := link (addT _ _) _ _)
  · exact kz.rf
theorem kz_bind {s : Ac} {x y o : Nat} : kz s (bindA s x y o) := by
  unfold bindA
  split
  · exact kz_fail
  · split
    · exact kz.rf
    · split
      · exact kz.rf
      · exact kz.rf
theorem kz_unite {s : Ac} {a b u : Nat} : kz s (uniteA s a b u) := by
  unfold uniteA
  split
  · exact kz.rf
  · simp only []
    split
    · refine kz_step.tr ?_
      split
      · exact kz_bind
      · split
        · exact kz_bind
        · split
          · exact kz_push
          · exact kz_fail
    · exact kz_step
theorem kz_ask {s : Ac} {a b u : Nat} : kz s (askA s a b u) := by
  unfold askA
  split
  · exact kz.rf
  · split
    · exact kz.rf
    · simp only []
      split
      · refine kz_step.tr ?_
        split
        · exact kz_push
        · exact kz_setK
      · exact kz_step
/-- the levels behind a step -/
def nq (t : Tk) : Prop := t.1 ≠ 2 ∧ t.1 ≠ 5 ∧ t.1 ≠ 13 ∧ t.1 ≠ 14 ∧ t.1 ≠ 12
theorem mt1_k {p : Option Tr} {y : Option Nat} {c : Nat} {t : Tk} (h : t ∈ mt1 p y c) : t.1 = 4 := by
  cases p with
  | none => exact (List.not_mem_nil h).elim
  | some p =>
    cases y with
    | none => exact (List.not_mem_nil h).elim
    | some y => rw [List.mem_singleton.mp h]
theorem oT_k {k : Nat} {y : Option Nat} {t : Tk} (h : t ∈ oT k y) : t.1 = k := by
  cases y with
  | none => exact (List.not_mem_nil h).elim
  | some y => rw [List.mem_singleton.mp h]
theorem pr1_k {k : Nat} {x y : Option Nat} {u : Nat} {t : Tk} (h : t ∈ pr1 k x y u) : t.1 = k := by
  cases x with
  | none => exact (List.not_mem_nil h).elim
  | some p =>
    cases y with
    | none => exact (List.not_mem_nil h).elim
    | some y => rw [List.mem_singleton.mp h]
theorem pairs_k {k : Nat} {s : Ac} {a b u : Nat} {t : Tk} (h : t ∈ pairs k s a b u) : t.1 = k := (List.mem_append.mp h).elim pr1_k pr1_k
theorem nq_of {k : Nat} {t : Tk} (h : t.1 = k) (hk : k ≠ 2 ∧ k ≠ 5 ∧ k ≠ 13 ∧ k ≠ 14 ∧ k ≠ 12) : nq t := by
  unfold nq
  rw [h]
  exact hk
theorem nq_mt {p q : Option Tr} {y z : Option Nat} {c : Nat} : ∀ t, t ∈ mt1 p y c ++ mt1 q z c → nq t := fun t ht => (List.mem_append.mp ht).elim (fun h => nq_of (mt1_k h) (by decide)) (fun h => nq_of (mt1_k h) (by decide))
theorem nq_nil : ∀ t, t ∈ ([] : List Tk) → nq t := fun t ht => (List.not_mem_nil ht).elim
def shK (s : Ac) (l : List Tk) (S : Ac) (o : Nat) : Prop := (∃ new, lvs s S l new ∧ ∀ t, t ∈ new → nq t) ∨ (∃ q, lvs s q l [] ∧ S = failA q o) ∨ (∃ m e r, l = m ++ e :: r ∧ (∀ t, t ∈ m → t.1 = 11) ∧ e.1 = 8 ∧ lvs s S r [])
theorem lvs.dec {s q : Ac} {l : List Tk} {o n : Nat} (h : lvs s q l []) : lvs s (decA q o n).2 l [] := by
  unfold decA
  split
  · exact h
  · split
    · exact h.sd
    · split
      · exact h
      · exact h.sd
theorem lvs.step {s q : Ac} {l : List Tk} (h : lvs s q l []) : lvs s (stepA q) l [] := by
  unfold stepA
  split
  · exact h
  · exact h
theorem shp_call {fs : List Fn} {s q : Ac} {l : List Tk} {x : Nat} (h : lvs s q l []) : shK s l (callA fs q x) (tW (aF q x)) := by
  unfold callA
  split
  · exact Or.inr (Or.inl ⟨q, h, rfl⟩)
  · have hd : lvs s (if 1 < (rulf fs (tO (aF q x))).length then decA q (tW (aF q x)) (rulf fs (tO (aF q x))).length else (0, q)).2 l [] := by
      split
      · exact h.dec
      · exact h
    have gen : ∀ d : Nat × Ac, lvs s d.2 l [] → shK s l (if aE d.2 = 0 then (if aE (stepA d.2) = 0 then takeR (stepA d.2) x ((rulf fs (tO (aF q x))).getD d.1 (none, none, .nil)) else stepA d.2) else d.2) (tW (aF q x)) := fun d hd => by
      split
      · split
        · exact Or.inl ⟨_, lvs.pu (q := takeT (stepA d.2) x _) hd.step, fun t ht => (List.mem_append.mp ht).elim (nq_mt t) (fun h => nq_of (k := 6) (by rw [List.mem_singleton.mp h]) (by decide))⟩
        · exact Or.inl ⟨[], hd.step, nq_nil⟩
      · exact Or.inl ⟨[], hd, nq_nil⟩
    exact gen _ hd
theorem nq_so {a b : Option Nat} {k1 k2 x y u : Nat} (h1 : k1 = 10 ∨ k1 = 11) (h2 : k2 = 7 ∨ k2 = 8) : ∀ t, t ∈ oT 1 a ++ oT 1 b ++ (if true = true then [(k1, x, y, u, .nil), (k2, u, 0, 0, .nil)] else [(13, x, y, u, .nil)] : List Tk) → nq t := fun t ht => by
  rw [if_pos rfl] at ht
  rcases List.mem_append.mp ht with ht | ht
  · exact (List.mem_append.mp ht).elim (fun h => nq_of (oT_k h) (by decide)) (fun h => nq_of (oT_k h) (by decide))
  · rcases List.mem_cons.mp ht with e | e
    · exact nq_of (k := k1) (by rw [e]) (by omega)
    · exact nq_of (k := k2) (by rw [List.mem_singleton.mp e]) (by omega)
theorem nq_so2 {a b : Option Nat} {x y u : Nat} : ∀ t, t ∈ oT 1 a ++ oT 1 b ++ (if true = true then [(11, x, y, u, .nil), (8, u, 0, 0, .nil)] else [(14, x, y, u, .nil)] : List Tk) → nq t := fun t ht => nq_so (k1 := 11) (k2 := 8) (Or.inr rfl) (Or.inr rfl) t ht
theorem nq_one {k x : Nat} (h : k ≠ 2 ∧ k ≠ 5 ∧ k ≠ 13 ∧ k ≠ 14 ∧ k ≠ 12) : ∀ t, t ∈ ([(k, x, 0, 0, .nil)] : List Tk) → nq t := fun t ht => nq_of (by rw [List.mem_singleton.mp ht]) h
theorem shp_force {fs : List Fn} {s q : Ac} {l : List Tk} {x : Nat} (hl : lvs s q l []) (h6 : tK (aF q x) ≠ 6) : shK s l (forceG fs true q x) (tW (aF q x)) := by
  unfold forceG
  split
  · exact shp_call hl
  · simp only []
    split
    · split
      · exact Or.inl ⟨_, lvs.pu (q := link _ _ _) hl.dec, nq_one (by decide)⟩
      · exact Or.inl ⟨[], hl.dec, nq_nil⟩
    · exact Or.inl ⟨[], hl.dec, nq_nil⟩
  · exact Or.inl ⟨_, hl.pu, nq_so (Or.inl rfl) (Or.inl rfl)⟩
  · exact Or.inl ⟨_, hl.pu, nq_so2⟩
  · exact absurd ‹_› h6
  · exact Or.inl ⟨[], hl, nq_nil⟩
theorem shp_met {fs : List Fn} {s q : Ac} {l : List Tk} {p : Tr} {x c : Nat} (hl : lvs s q l []) : shK s l (metA fs q p x c) (tW (aF q c)) := by
  unfold metA
  simp only []
  split
  · split
    · exact Or.inl ⟨[], hl, nq_nil⟩
    · exact Or.inl ⟨_, lvs.pu (q := metT q x (tcode p - 10)) hl, nq_mt⟩
  · split
    · exact Or.inl ⟨_, hl.pu, nq_mt⟩
    · exact Or.inr (Or.inl ⟨q, hl, rfl⟩)
theorem shp_end {s q : Ac} {l : List Tk} {c : Nat} (hl : lvs s q l []) : shK s l (endG true q c) 0 := by
  unfold endG
  simp only []
  split
  · exact Or.inl ⟨_, lvs.pu (q := link (addT _ _) _ _) hl, nq_one (by decide)⟩
  · exact Or.inl ⟨[], hl, nq_nil⟩
theorem shp_bind {s q : Ac} {l : List Tk} {x y o : Nat} (hl : lvs s q l []) : shK s l (bindA q x y o) o := by
  unfold bindA
  split
  · exact Or.inr (Or.inl ⟨q, hl, rfl⟩)
  · split
    · exact Or.inl ⟨[], hl, nq_nil⟩
    · split
      · exact Or.inl ⟨[], hl, nq_nil⟩
      · exact Or.inl ⟨[], hl, nq_nil⟩
theorem aF_step {s : Ac} : aF (stepA s) = aF s := by
  unfold stepA
  split
  · rfl
  · rfl
theorem shp_unite {s q : Ac} {l : List Tk} {a b u : Nat} (hl : lvs s q l []) : shK s l (uniteA q a b u) (tW (aF q u)) := by
  unfold uniteA
  split
  · exact Or.inl ⟨[], hl, nq_nil⟩
  · simp only []
    split
    · split
      · rw [aF_step]
        exact shp_bind hl.step
      · split
        · rw [aF_step]
          exact shp_bind hl.step
        · split
          · exact Or.inl ⟨_, hl.step.pu, fun t ht => nq_of (pairs_k ht) (by decide)⟩
          · exact Or.inr (Or.inl ⟨_, hl.step, by rw [aF_step]⟩)
    · exact Or.inl ⟨[], hl.step, nq_nil⟩
theorem lvs.setK {s q : Ac} {l r : List Tk} (h : lvs s q l []) : lvs s (setK q r) r [] := by
  obtain ⟨v1, v2, v3, v4⟩ := h
  refine ⟨v1, fun j => ?_, fun j hj => ?_, topK_setK⟩
  · show lX (up1 (aV q) (aL q) _ j) = _
    rcases up1_or (f := aV q) (x := aL q) (y := j) (v := pTk (aV q (aL q)) r) with ⟨f1, f2⟩ | ⟨_, f2⟩
    · rw [f2, f1]
      exact v2 _
    · rw [f2]
      exact v2 _
  · show lK (up1 (aV q) (aL q) _ j) = _
    rw [up1_ne (by omega)]
    exact v3 j hj
theorem shp_ask {s q : Ac} {l : List Tk} {a b u : Nat} (hl : lvs s q l []) (hm : EDk 11 8 u l) : shK s l (askA q a b u) 0 := by
  unfold askA
  split
  · exact Or.inl ⟨[], hl, nq_nil⟩
  · split
    · exact Or.inl ⟨[], hl, nq_nil⟩
    · simp only []
      split
      · split
        · exact Or.inl ⟨_, hl.step.pu, fun t ht => nq_of (pairs_k ht) (by decide)⟩
        · obtain ⟨m, r, e1, e2⟩ := hm
          refine Or.inr (Or.inr ⟨m, _, r, e1, e2, rfl, ?_⟩)
          have et : topK (stepA q) = l := hl.step.2.2.2
          rw [et, e1, dropA_m rfl e2]
          exact hl.step.setK
      · exact Or.inl ⟨[], hl.step, nq_nil⟩
