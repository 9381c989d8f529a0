/-! RANKS BELOW THE NUMBER OF THINGS -/
def cb (p : Nat → Bool) : Nat → Nat
  | 0 => 0
  | n + 1 => cb p n + (if p n = true then 1 else 0)
theorem cb_le {p q : Nat → Bool} (h : ∀ i, p i = true → q i = true) : ∀ n, cb p n ≤ cb q n ∧ ((∃ i, i < n ∧ q i = true ∧ p i = false) → cb p n < cb q n)
  | 0 => ⟨Nat.le_refl _, fun ⟨i, hi, _⟩ => by omega⟩
  | n + 1 => by
    obtain ⟨h1, h2⟩ := cb_le h n
    show cb p n + (if p n = true then 1 else 0) ≤ cb q n + (if q n = true then 1 else 0) ∧ (_ → cb p n + (if p n = true then 1 else 0) < cb q n + (if q n = true then 1 else 0))
    cases ep : p n with
    | true =>
      rw [h n ep, if_pos rfl]
      refine ⟨by omega, fun ⟨i, hi, w1, w2⟩ => ?_⟩
      have : i ≠ n := fun e => by
        rw [e, ep] at w2
        cases w2
      have := h2 ⟨i, by omega, w1, w2⟩
      omega
    | false =>
      rw [if_neg (by decide)]
      cases eq : q n with
      | true =>
        rw [if_pos rfl]
        exact ⟨by omega, fun _ => by omega⟩
      | false =>
        rw [if_neg (by decide)]
        refine ⟨by omega, fun ⟨i, hi, w1, w2⟩ => ?_⟩
        have : i ≠ n := fun e => by
          rw [e, eq] at w1
          cases w1
        have := h2 ⟨i, by omega, w1, w2⟩
        omega
theorem cb_all : ∀ n, cb (fun _ => true) n = n
  | 0 => rfl
  | n + 1 => by
    show cb (fun _ => true) n + 1 = n + 1
    rw [cb_all n]
/-- how many things are below -/
def nrk (rk : Nat → Nat) (n x : Nat) : Nat := cb (fun y => decide (rk y < rk x)) n
theorem nrk_lt {rk : Nat → Nat} {n x y : Nat} (hy : y < n) (h : rk y < rk x) : nrk rk n y < nrk rk n x := by
  refine (cb_le (fun i hi => ?_) n).2 ⟨y, hy, decide_eq_true h, decide_eq_false (Nat.lt_irrefl _)⟩
  exact decide_eq_true (Nat.lt_trans (of_decide_eq_true hi) h)
theorem nrk_n {rk : Nat → Nat} {n x : Nat} (hx : x < n) : nrk rk n x < n := by
  have h := (cb_le (p := fun y => decide (rk y < rk x)) (q := fun _ => true) (fun _ _ => rfl) n).2 ⟨x, hx, rfl, decide_eq_false (Nat.lt_irrefl _)⟩
  rw [cb_all] at h
  exact h
/-- a thing's end, if links fall -/
theorem root_end {s : Ac} {rk : Nat → Nat} (h : LkR (aT s) rk) (hs : ∀ x, x < (aT s).length → tK ((aT s).getD x tNil) = 7 → (tA ((aT s).getD x tNil)).isSome = true) {x : Nat} (hx : x < (aT s).length) : tK (gT s (root s x)) ≠ 7 ∧ root s x < (aT s).length := by
  have h2 : LkR (aT s) (nrk rk (aT s).length) := fun a b ha hk hb => ⟨(h a b ha hk hb).1, nrk_lt (h a b ha hk hb).1 (h a b ha hk hb).2⟩
  obtain ⟨q1, q2, -⟩ := rootF_end h2 (aT s).length x hx (nrk_n hx) hs
  exact ⟨q1, q2⟩
