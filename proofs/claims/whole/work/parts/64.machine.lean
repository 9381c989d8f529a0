/-! THE MACHINE: reads and writes -/
theorem gT_sT {s : Ac} {x y : Nat} {t : Th} (h : x < (aT s).length) : gT (sT s x t) y = if y = x then t else gT s y := by
  unfold gT
  show ((aT s).set x t).getD y tNil = _
  rw [List.getD_eq_getElem?_getD]
  by_cases e : y = x
  · subst e
    rw [if_pos rfl, List.getElem?_set_self h]
    rfl
  · rw [if_neg e, List.getElem?_set_ne (fun w => e w.symm), List.getD_eq_getElem?_getD]
theorem aT_sT {s : Ac} {x : Nat} {t : Th} : (aT (sT s x t)).length = (aT s).length := List.length_set
theorem gT_push {s : Ac} {l : List Tk} {x : Nat} : gT (push s l) x = gT s x := by
  unfold push
  split <;> rfl
theorem aT_push {s : Ac} {l : List Tk} : aT (push s l) = aT s := by
  unfold push
  split <;> rfl
theorem aE_push {s : Ac} {l : List Tk} : aE (push s l) = aE s := by
  unfold push
  split <;> rfl
theorem aS_push {s : Ac} {l : List Tk} : aS (push s l) = aS s := by
  unfold push
  split <;> rfl
/-- ranks fall along links -/
def LkR (th : List Th) (rk : Nat → Nat) : Prop := ∀ x y, x < th.length → tK (th.getD x tNil) = 7 → tA (th.getD x tNil) = some y → y < th.length ∧ rk y < rk x
/-- enough turns end at what is no link -/
theorem rootF_end {th : List Th} {rk : Nat → Nat} (h : LkR th rk) : ∀ (n x : Nat), x < th.length → rk x < n → (∀ x, x < th.length → tK (th.getD x tNil) = 7 → (tA (th.getD x tNil)).isSome = true) → tK (th.getD (rootF th n x) tNil) ≠ 7 ∧ rootF th n x < th.length ∧ rk (rootF th n x) ≤ rk x := by
  intro n
  induction n with
  | zero => intro x _ h1; omega
  | succ n ih =>
    intro x hx hr hs
    show tK (th.getD (if tK (th.getD x tNil) = 7 then (match tA (th.getD x tNil) with
      | some y => rootF th n y
      | none => x) else x) tNil) ≠ 7 ∧ (if tK (th.getD x tNil) = 7 then (match tA (th.getD x tNil) with
      | some y => rootF th n y
      | none => x) else x) < _ ∧ rk (if tK (th.getD x tNil) = 7 then (match tA (th.getD x tNil) with
      | some y => rootF th n y
      | none => x) else x) ≤ _
    by_cases e : tK (th.getD x tNil) = 7
    · rw [if_pos e]
      cases e2 : tA (th.getD x tNil) with
      | none =>
        have := hs x hx e
        rw [e2] at this
        cases this
      | some y =>
        obtain ⟨h1, h2⟩ := h x y hx e e2
        obtain ⟨q1, q2, q3⟩ := ih y h1 (by omega) hs
        exact ⟨q1, q2, by show rk (rootF th n y) ≤ rk x; omega⟩
    · rw [if_neg e]
      exact ⟨e, hx, Nat.le_refl _⟩
