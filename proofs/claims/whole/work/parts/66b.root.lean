/-! A THING'S END -/
/-- ranks fall along links -/
def LkR (n : Nat) (f : Nat → Th) (rk : Nat → Nat) : Prop := ∀ x, x < n → tK (f x) = 7 → ∃ y, tA (f x) = some y ∧ y < n ∧ rk y < rk x
theorem rootF_no {f : Nat → Th} {x : Nat} (h : tK (f x) ≠ 7) : ∀ d, rootF f d x = x
  | 0 => rfl
  | d + 1 => if_neg h
theorem rootF_lk {f : Nat → Th} {x y : Nat} (h : tK (f x) = 7) (hy : tA (f x) = some y) (d : Nat) : rootF f (d + 1) x = rootF f d y := by
  show (if tK (f x) = 7 then (match tA (f x) with
    | some y => rootF f d y
    | none => x) else x) = rootF f d y
  rw [if_pos h, hy]
/-- enough turns end at what is no link -/
theorem rootF_end {n : Nat} {f : Nat → Th} {rk : Nat → Nat} (h : LkR n f rk) : ∀ (d x : Nat), x < n → rk x < d → tK (f (rootF f d x)) ≠ 7 ∧ rootF f d x < n ∧ rk (rootF f d x) ≤ rk x := by
  intro d
  induction d with
  | zero => intro x _ h1; omega
  | succ d ih =>
    intro x hx hr
    by_cases e : tK (f x) = 7
    · obtain ⟨y, hy, h1, h2⟩ := h x hx e
      rw [rootF_lk e hy]
      obtain ⟨q1, q2, q3⟩ := ih y h1 (by omega)
      exact ⟨q1, q2, by omega⟩
    · rw [rootF_no e]
      exact ⟨e, hx, Nat.le_refl _⟩
theorem rootF_fuel {n : Nat} {f : Nat → Th} {rk : Nat → Nat} (h : LkR n f rk) : ∀ (d d' x : Nat), x < n → rk x < d → rk x < d' → rootF f d x = rootF f d' x := by
  intro d
  induction d with
  | zero => intro d' x _ h1; omega
  | succ d ih =>
    intro d' x hx h1 h2
    by_cases e : tK (f x) = 7
    · obtain ⟨y, hy, q1, q2⟩ := h x hx e
      obtain ⟨k, rfl⟩ : ∃ k, d' = k + 1 := ⟨d' - 1, by omega⟩
      rw [rootF_lk e hy, rootF_lk e hy]
      exact ih k y q1 (by omega) (by omega)
    · rw [rootF_no e, rootF_no e]
/-! RANKS BELOW THE NUMBER OF THINGS -/
def cb (p : Nat → Bool) : Nat → Nat
  | 0 => 0
  | n + 1 => cb p n + (if p n = true then 1 else 0)
theorem cb_le {p q : Nat → Bool} (h : ∀ i, p i = true → q i = true) : ∀ n, cb p n ≤ cb q n ∧ ((∃ i, i < n ∧ q i = true ∧ p i = false) → cb p n < cb q n)
  | 0 => ⟨Nat.le_refl _, fun ⟨i, hi, _⟩ => by omega⟩
  | n + 1 => by
    obtain ⟨h1, h2⟩ := cb_le h n
    show cb p n + (if p n = true then 1 else 0) ≤ cb q n + (if q n = true then 1 else 0) ∧ (_ → cb p n + (if p n = true then 1 else 0) < cb q n + (if q n = true then 1 else 0))
    cases ep : p n with
    | true =>
      rw [h n ep, if_pos rfl]
      refine ⟨by omega, fun ⟨i, hi, w1, w2⟩ => ?_⟩
      have : i ≠ n := fun e => by
        rw [e, ep] at w2
        cases w2
      have := h2 ⟨i, by omega, w1, w2⟩
      omega
    | false =>
      rw [if_neg (by decide)]
      cases eq : q n with
      | true =>
        rw [if_pos rfl]
        exact ⟨by omega, fun _ => by omega⟩
      | false =>
        rw [if_neg (by decide)]
        refine ⟨by omega, fun ⟨i, hi, w1, w2⟩ => ?_⟩
        have : i ≠ n := fun e => by
          rw [e, eq] at w1
          cases w1
        have := h2 ⟨i, by omega, w1, w2⟩
        omega
theorem cb_all : ∀ n, cb (fun _ => true) n = n
  | 0 => rfl
  | n + 1 => by
    show cb (fun _ => true) n + 1 = n + 1
    rw [cb_all n]
/-- how many things are below -/
def nrk (rk : Nat → Nat) (n x : Nat) : Nat := cb (fun y => decide (rk y < rk x)) n
theorem nrk_lt {rk : Nat → Nat} {n x y : Nat} (hy : y < n) (h : rk y < rk x) : nrk rk n y < nrk rk n x := by
  refine (cb_le (fun i hi => ?_) n).2 ⟨y, hy, decide_eq_true h, decide_eq_false (Nat.lt_irrefl _)⟩
  exact decide_eq_true (Nat.lt_trans (of_decide_eq_true hi) h)
theorem nrk_n {rk : Nat → Nat} {n x : Nat} (hx : x < n) : nrk rk n x < n := by
  have h := (cb_le (p := fun y => decide (rk y < rk x)) (q := fun _ => true) (fun _ _ => rfl) n).2 ⟨x, hx, rfl, decide_eq_false (Nat.lt_irrefl _)⟩
  rw [cb_all] at h
  exact h
theorem LkR.nr {n : Nat} {f : Nat → Th} {rk : Nat → Nat} (h : LkR n f rk) : LkR n f (nrk rk n) := fun x hx hk => by
  obtain ⟨y, h1, h2, h3⟩ := h x hx hk
  exact ⟨y, h1, h2, nrk_lt h2 h3⟩
theorem root_end {s : Ac} {rk : Nat → Nat} (h : LkR (aC s) (aF s) rk) {x : Nat} (hx : x < aC s) : tK (aF s (root s x)) ≠ 7 ∧ root s x < aC s :=
  ⟨(rootF_end h.nr (aC s) x hx (nrk_n hx)).1, (rootF_end h.nr (aC s) x hx (nrk_n hx)).2.1⟩
theorem root_no {s : Ac} {x : Nat} (h : tK (aF s x) ≠ 7) : root s x = x := rootF_no h _
theorem root_lk {s : Ac} {rk : Nat → Nat} (h : LkR (aC s) (aF s) rk) {x y : Nat} (hx : x < aC s) (hk : tK (aF s x) = 7) (hy : tA (aF s x) = some y) : root s x = root s y := by
  obtain ⟨z, h1, h2, h3⟩ := h.nr x hx hk
  rw [hy] at h1
  cases h1
  have hn := nrk_n (rk := rk) hx
  unfold root
  rw [rootF_fuel h.nr (aC s) (nrk rk (aC s) x + 1) x hx hn (by omega), rootF_lk hk hy]
  exact rootF_fuel h.nr _ _ y h2 (by omega) (by omega)
theorem root_rk {s : Ac} {rk : Nat → Nat} (h : LkR (aC s) (aF s) rk) : ∀ (d x : Nat), rk x < d → x < aC s → rk (root s x) ≤ rk x := by
  intro d
  induction d with
  | zero => intro x h1; omega
  | succ d ih =>
    intro x h1 hx
    by_cases e : tK (aF s x) = 7
    · obtain ⟨y, h2, h3, h4⟩ := h x hx e
      rw [root_lk h hx e h2]
      have := ih y (by omega) h3
      omega
    · rw [root_no e]
      exact Nat.le_refl _
