/-! WHAT EVERY TURN KEEPS, ALSO THE LAST ONE -/
def gz (s S : Ac) : Prop := (aE s ≤ 5 → aE S ≤ 5) ∧ aC s ≤ aC S ∧ lX (aV S 0) = lX (aV s 0)
theorem gz.rf {s : Ac} : gz s s := ⟨id, Nat.le_refl _, rfl⟩
theorem gz.tr {s s1 s2 : Ac} (h : gz s s1) (h' : gz s1 s2) : gz s s2 := ⟨fun q => h'.1 (h.1 q), Nat.le_trans h.2.1 h'.2.1, h'.2.2.trans h.2.2⟩
theorem gz_up {s : Ac} {L i : Nat} {w : Lv} (h : lX w = lX (aV s i)) : gz s (sL s L (up1 (aV s) i w)) := ⟨id, Nat.le_refl _, by
  show lX (up1 (aV s) i w 0) = _
  rcases up1_or (f := aV s) (x := i) (y := 0) (v := w) with ⟨f1, f2⟩ | ⟨_, f2⟩
  · rw [f2, f1, h]
  · rw [f2]⟩
theorem gz_up0 {s : Ac} {L i : Nat} {w : Lv} (h : i ≠ 0) : gz s (sL s L (up1 (aV s) i w)) := ⟨id, Nat.le_refl _, by
  show lX (up1 (aV s) i w 0) = _
  rw [up1_ne (by omega)]⟩
theorem gz_setK {s : Ac} {l : List Tk} : gz s (setK s l) := gz_up rfl
theorem gz_push {s : Ac} {l : List Tk} : gz s (push s l) := gz_setK
theorem gz_E {s : Ac} {e : Nat} (h : e ≤ 5) : gz s (sE s e) := ⟨fun _ => h, Nat.le_refl _, rfl⟩
theorem gz_T {s : Ac} {n : Nat} {f : Nat → Th} (h : aC s ≤ n) : gz s (sT s n f) := ⟨id, h, rfl⟩
theorem gz_M {s : Ac} {g : Nat → Nat} : gz s (sM s g) := ⟨id, Nat.le_refl _, rfl⟩
theorem gz_tk {s : Ac} {x : Nat} {R : Rl} : gz s (takeT s x R) := ⟨id, Nat.le_refl _, rfl⟩
theorem gz_dec {s : Ac} {o n : Nat} : gz s (decA s o n).2 := by
  unfold decA
  split
  · exact gz_E (by decide)
  · split
    · exact gz_up rfl
    · split
      · exact ⟨fun _ => Nat.le_refl 5, Nat.le_refl _, rfl⟩
      · exact gz_up rfl
theorem gz_step {s : Ac} : gz s (stepA s) := by
  unfold stepA
  split
  · exact gz_E (by decide)
  · exact ⟨id, Nat.le_refl _, rfl⟩
theorem gz_fail {s : Ac} {o : Nat} : gz s (failA s o) := by
  unfold failA
  split
  · exact gz_E (by decide)
  · split
    · exact ⟨id, Nat.le_refl _, rfl⟩
    · split
      · exact gz_E (by decide)
      · exact gz_up rfl
theorem gz_call {fs : List Fn} {s : Ac} {x : Nat} : gz s (callA fs s x) := by
  unfold callA
  split
  · exact gz_fail
  · have gen : ∀ d : Nat × Ac, gz s d.2 → gz s (if aE d.2 = 0 then (if aE (stepA d.2) = 0 then takeR (stepA d.2) x ((rulf fs (tO (aF s x))).getD d.1 (none, none, .nil)) else stepA d.2) else d.2) := fun d hd => by
      split
      · split
        · exact hd.tr (gz_step.tr (gz_tk.tr gz_push))
        · exact hd.tr gz_step
      · exact hd
    refine gen _ ?_
    split
    · exact gz_dec
    · exact gz.rf
theorem gz_link {s : Ac} {x y : Nat} : gz s (link s x y) := ⟨id, Nat.le_refl _, rfl⟩
theorem gz_data {s : Ac} {x k : Nat} {a b : Option Nat} : gz s (data s x k a b) := ⟨id, Nat.le_refl _, rfl⟩
theorem gz_add {s : Ac} {l : List Th} : gz s (addT s l) := ⟨id, Nat.le_add_right _ _, rfl⟩
theorem gz_force {fs : List Fn} {h : Bool} {s : Ac} {x : Nat} : gz s (forceG fs h s x) := by
  unfold forceG
  split
  · exact gz_call
  · simp only []
    split
    · split
      · exact gz_dec.tr (gz_link.tr gz_push)
      · exact gz_dec
    · exact gz_dec
  · exact gz_push
  · exact gz_push
  · exact gz_up0 (by omega)
  · exact gz.rf
theorem gz_met {fs : List Fn} {s : Ac} {p : Tr} {x c : Nat} : gz s (metA fs s p x c) := by
  unfold metA
  simp only []
  split
  · split
    · exact gz_E (by decide)
    · exact gz_add.tr (gz_data.tr gz_push)
  · split
    · exact gz_push
    · exact gz_fail
theorem gz_ops {s : Ac} {t : Tr} {p o : Nat} : gz s (opsA s t p o) := ⟨id, Nat.le_add_right _ _, rfl⟩
theorem gz_end {h : Bool} {s : Ac} {c : Nat} : gz s (endG h s c) := by
  unfold endG
  simp only []
  split
  · exact gz_ops.tr (gz_add.tr (gz_link.tr gz_push))
  · exact gz_ops
theorem gz_bind {s : Ac} {x y o : Nat} : gz s (bindA s x y o) := by
  unfold bindA
  split
  · exact gz_fail
  · split
    · exact gz_link
    · split
      · exact gz_link
      · exact gz_E (by decide)
theorem gz_unite {s : Ac} {a b u : Nat} : gz s (uniteA s a b u) := by
  unfold uniteA
  split
  · exact gz.rf
  · simp only []
    split
    · refine gz_step.tr ?_
      split
      · exact gz_bind
      · split
        · exact gz_bind
        · split
          · exact gz_push
          · exact gz_fail
    · exact gz_step
theorem gz_ask {s : Ac} {a b u : Nat} : gz s (askA s a b u) := by
  unfold askA
  split
  · exact gz.rf
  · split
    · exact gz_E (by decide)
    · simp only []
      split
      · refine gz_step.tr ?_
        split
        · exact gz_push
        · exact gz_setK.tr gz_data
      · exact gz_step
theorem gz_run {s : Ac} : gz s (runA s) := by
  unfold runA
  simp only []
  split
  · refine gz_step.tr (gz_add.tr ⟨id, Nat.le_refl _, ?_⟩)
    have e : ∀ j, lX (aV (stepA s) j) = lX (aV s j) := fun j => by
      unfold stepA
      split <;> rfl
    show lX (up1 (aV s) (aL s) _ 0) = lX (aV (stepA s) 0)
    rw [e]
    rcases up1_or (f := aV s) (x := aL s) (y := 0) (v := (lX (aV s (aL s)), lU (aV s (aL s)) + 1, [], lG (aV s (aL s)), oT 1 (mkA (aN s (tP (aF s (lX (aV s (aL s)))))) (aL s) (tP (aF s (lX (aV s (aL s))))) (tT (aF s (lX (aV s (aL s))))) (aC s)).1 ++ (9, lX (aV s (aL s)), 0, 0, .nil) :: lK (aV s (aL s)), aR s + 1)) with ⟨f1, f2⟩ | ⟨_, f2⟩
    · rw [f2, ← f1]
    · rw [f2]
  · exact gz_step
theorem gz_A {fs : List Fn} {s : Ac} : gz s (goX (doA fs) s) := by
  unfold goX
  split
  · split
    · exact gz_E (by decide)
    · rename_i t l ht
      refine gz_setK.tr (s1 := setK s l) ?_
      unfold doA
      split
      · exact gz_force
      · exact gz_push
      · split
        · exact gz_push
        · exact gz.rf
      · exact ⟨id, Nat.le_refl _, rfl⟩
      · split
        · exact ⟨id, Nat.le_refl _, rfl⟩
        · exact gz_push
      · exact gz_met
      · exact gz_end
      · exact gz_data
      · exact gz_fail
      · exact ⟨id, Nat.le_refl _, rfl⟩
      · exact gz_unite
      · exact gz_ask
      · exact gz_run
      · exact gz_push
      · exact gz_push
  · exact gz.rf
theorem gz_Q {fs : List Fn} {s : Ac} : gz s (goX (doQ fs) s) := by
  unfold goX
  split
  · split
    · exact gz_E (by decide)
    · rename_i t l ht
      refine gz_setK.tr (s1 := setK s l) ?_
      unfold doQ
      split
      · exact gz_force
      · split
        · exact gz_push
        · split
          · exact gz_M.tr gz_push
          · exact gz.rf
      · exact gz.rf
      · split
        · exact ⟨id, Nat.le_refl _, rfl⟩
        · split
          · exact gz_push
          · exact gz_met
      · exact gz_end
      · exact gz_data
      · exact gz_fail
      · exact ⟨id, Nat.le_refl _, rfl⟩
      · exact gz_unite
      · exact gz_ask
      · exact gz_run
  · exact gz.rf
