/-! A RUN WITHIN IS MADE AGAIN: both do the same -/
theorem nw_i {q : Ac} {t e : Tk} (h : nw q t = [e]) : (e.1 = 0 → t.1 = 0 ∧ root q t.2.1 = e.2.1) ∧ (e.1 = 1 → (t.1 = 1 ∨ t.1 = 2) ∧ root q t.2.1 = e.2.1) ∧ (e.1 = 4 → (t.1 = 4 ∨ t.1 = 5) ∧ root q t.2.1 = e.2.1 ∧ t.2.2 = e.2.2) ∧ (6 ≤ e.1 → e.1 ≤ 9 → t.1 = e.1 ∧ t.2.1 = e.2.1) ∧ ((e.1 = 10 ∨ e.1 = 11) → t.1 = e.1 ∧ root q t.2.1 = e.2.1 ∧ root q t.2.2.1 = e.2.2.1 ∧ t.2.2.2.1 = e.2.2.2.1) ∧ (e.1 = 12 → t.1 = 12) := by
  obtain ⟨k, y, a, b, p⟩ := t
  unfold nw at h
  have no : ∀ {X : List Tk}, X = [] → X.map (rnt q) = [e] → False := fun h1 h2 => by
    rw [h1] at h2
    cases h2
  match k, h with
  | 0, h =>
    by_cases w : tK (aF q (root q y)) < 2
    · exact (no (nz0.1 w) h).elim
    · rw [nz0.2 (Nat.not_lt.mp w)] at h
      cases h
      exact ⟨fun _ => ⟨rfl, rfl⟩, fun q => absurd q (show ¬ (0 : Nat) = 1 by decide), fun q => absurd q (show ¬ (0 : Nat) = 4 by decide), fun q => absurd q (show ¬ 6 ≤ 0 by decide), fun q => absurd q (show ¬ ((0 : Nat) = 10 ∨ (0 : Nat) = 11) by decide), fun q => absurd q (show ¬ (0 : Nat) = 12 by decide)⟩
  | 1, h =>
    by_cases w : Cl q y
    · exact (no ((nz12 (Or.inl rfl)).1 w) h).elim
    · rw [(nz12 (Or.inl rfl)).2 w] at h
      cases h
      exact ⟨fun q => absurd q (show ¬ (1 : Nat) = 0 by decide), fun _ => ⟨Or.inl rfl, rfl⟩, fun q => absurd q (show ¬ (1 : Nat) = 4 by decide), fun q => absurd q (show ¬ 6 ≤ 1 by decide), fun q => absurd q (show ¬ ((1 : Nat) = 10 ∨ (1 : Nat) = 11) by decide), fun q => absurd q (show ¬ (1 : Nat) = 12 by decide)⟩
  | 2, h =>
    by_cases w : Cl q y
    · exact (no ((nz12 (Or.inr rfl)).1 w) h).elim
    · rw [(nz12 (Or.inr rfl)).2 w] at h
      cases h
      exact ⟨fun q => absurd q (show ¬ (1 : Nat) = 0 by decide), fun _ => ⟨Or.inr rfl, rfl⟩, fun q => absurd q (show ¬ (1 : Nat) = 4 by decide), fun q => absurd q (show ¬ 6 ≤ 1 by decide), fun q => absurd q (show ¬ ((1 : Nat) = 10 ∨ (1 : Nat) = 11) by decide), fun q => absurd q (show ¬ (1 : Nat) = 12 by decide)⟩
  | 3, h => exact (no rfl h).elim
  | 4, h =>
    cases h
    exact ⟨fun q => absurd q (show ¬ (4 : Nat) = 0 by decide), fun q => absurd q (show ¬ (4 : Nat) = 1 by decide), fun _ => ⟨Or.inl rfl, rfl, rfl⟩, fun q => absurd q (show ¬ 6 ≤ 4 by decide), fun q => absurd q (show ¬ ((4 : Nat) = 10 ∨ (4 : Nat) = 11) by decide), fun q => absurd q (show ¬ (4 : Nat) = 12 by decide)⟩
  | 5, h =>
    cases h
    exact ⟨fun q => absurd q (show ¬ (4 : Nat) = 0 by decide), fun q => absurd q (show ¬ (4 : Nat) = 1 by decide), fun _ => ⟨Or.inr rfl, rfl, rfl⟩, fun q => absurd q (show ¬ 6 ≤ 4 by decide), fun q => absurd q (show ¬ ((4 : Nat) = 10 ∨ (4 : Nat) = 11) by decide), fun q => absurd q (show ¬ (4 : Nat) = 12 by decide)⟩
  | 6, h =>
    cases h
    exact ⟨fun q => absurd q (show ¬ (6 : Nat) = 0 by decide), fun q => absurd q (show ¬ (6 : Nat) = 1 by decide), fun q => absurd q (show ¬ (6 : Nat) = 4 by decide), fun _ _ => ⟨rfl, rfl⟩, fun q => absurd q (show ¬ ((6 : Nat) = 10 ∨ (6 : Nat) = 11) by decide), fun q => absurd q (show ¬ (6 : Nat) = 12 by decide)⟩
  | 7, h =>
    cases h
    exact ⟨fun q => absurd q (show ¬ (7 : Nat) = 0 by decide), fun q => absurd q (show ¬ (7 : Nat) = 1 by decide), fun q => absurd q (show ¬ (7 : Nat) = 4 by decide), fun _ _ => ⟨rfl, rfl⟩, fun q => absurd q (show ¬ ((7 : Nat) = 10 ∨ (7 : Nat) = 11) by decide), fun q => absurd q (show ¬ (7 : Nat) = 12 by decide)⟩
  | 8, h =>
    cases h
    exact ⟨fun q => absurd q (show ¬ (8 : Nat) = 0 by decide), fun q => absurd q (show ¬ (8 : Nat) = 1 by decide), fun q => absurd q (show ¬ (8 : Nat) = 4 by decide), fun _ _ => ⟨rfl, rfl⟩, fun q => absurd q (show ¬ ((8 : Nat) = 10 ∨ (8 : Nat) = 11) by decide), fun q => absurd q (show ¬ (8 : Nat) = 12 by decide)⟩
  | 9, h =>
    cases h
    exact ⟨fun q => absurd q (show ¬ (9 : Nat) = 0 by decide), fun q => absurd q (show ¬ (9 : Nat) = 1 by decide), fun q => absurd q (show ¬ (9 : Nat) = 4 by decide), fun _ _ => ⟨rfl, rfl⟩, fun q => absurd q (show ¬ ((9 : Nat) = 10 ∨ (9 : Nat) = 11) by decide), fun q => absurd q (show ¬ (9 : Nat) = 12 by decide)⟩
  | 10, h =>
    cases h
    exact ⟨fun q => absurd q (show ¬ (10 : Nat) = 0 by decide), fun q => absurd q (show ¬ (10 : Nat) = 1 by decide), fun q => absurd q (show ¬ (10 : Nat) = 4 by decide), fun _ q => absurd q (show ¬ 10 ≤ 9 by decide), fun _ => ⟨rfl, rfl, rfl, rfl⟩, fun q => absurd q (show ¬ (10 : Nat) = 12 by decide)⟩
  | 11, h =>
    cases h
    exact ⟨fun q => absurd q (show ¬ (11 : Nat) = 0 by decide), fun q => absurd q (show ¬ (11 : Nat) = 1 by decide), fun q => absurd q (show ¬ (11 : Nat) = 4 by decide), fun _ q => absurd q (show ¬ 11 ≤ 9 by decide), fun _ => ⟨rfl, rfl, rfl, rfl⟩, fun q => absurd q (show ¬ (11 : Nat) = 12 by decide)⟩
  | 12, h =>
    cases h
    exact ⟨fun q => absurd q (show ¬ (12 : Nat) = 0 by decide), fun q => absurd q (show ¬ (12 : Nat) = 1 by decide), fun q => absurd q (show ¬ (12 : Nat) = 4 by decide), fun _ q => absurd q (show ¬ 12 ≤ 9 by decide), fun q => absurd q (show ¬ ((12 : Nat) = 10 ∨ (12 : Nat) = 11) by decide), fun _ => rfl⟩
  | 13, h => cases h
  | 14, h => cases h
  | n + 15, h => exact (no rfl h).elim
theorem dec_same {p q : Ac} {o n : Nat} (h1 : lD (aV q o) = lD (aV p o)) (h2 : lG (aV q o) = lG (aV p o)) : (decA q o n).1 = (decA p o n).1 := by
  unfold decA
  rw [h1, h2]
  by_cases w : (lD (aV p o)).length = 40
  · rw [if_pos w, if_pos w]
  · rw [if_neg w, if_neg w]
    cases lG (aV p o) with
    | cons x r => rfl
    | nil =>
      by_cases z : o = 0
      · show (if o = 0 then ((0, _) : Nat × Ac) else (0, _)).1 = (if o = 0 then ((0, _) : Nat × Ac) else (0, _)).1
        rw [if_pos z, if_pos z]
      · show (if o = 0 then ((0, _) : Nat × Ac) else (0, _)).1 = (if o = 0 then ((0, _) : Nat × Ac) else (0, _)).1
        rw [if_neg z, if_neg z]
/-- a failure of a level's owner ends its attempt -/
theorem fail_gone {P : Ac} {j : Nat} (h1 : 1 ≤ j) (h0 : aE (failA P j) = 0) (h2 : j ≤ aL (failA P j)) (h3 : liv (failA P j) j) : False := by
  unfold failA at h0 h2 h3
  rw [if_neg (show ¬ j = 0 by omega)] at h0 h2 h3
  cases hb : backA (lD (aV P j)) with
  | nil =>
    rw [hb] at h2
    have h2 : j ≤ j - 1 := h2
    omega
  | cons d r =>
    obtain ⟨w, n⟩ := d
    rw [hb] at h0 h3
    have h0 : aE (if lU (aV P j) = 20 then sE P 4 else sL P j (up1 (aV P) j (lX (aV P j), lU (aV P j), [], (r.map (fun d => d.1)).reverse ++ [w + 1], [tRun], lZ (aV P j)))) = 0 := h0
    have h3 : liv (if lU (aV P j) = 20 then sE P 4 else sL P j (up1 (aV P) j (lX (aV P j), lU (aV P j), [], (r.map (fun d => d.1)).reverse ++ [w + 1], [tRun], lZ (aV P j)))) j := h3
    by_cases h20 : lU (aV P j) = 20
    · rw [if_pos h20] at h0
      exact absurd h0 (show ¬ (4 : Nat) = 0 by decide)
    · rw [if_neg h20] at h3
      refine h3 ?_
      show (lK (up1 (aV P) j _ j)).head?.map (fun t => t.1) = some 12
      rw [up1_at]
      rfl
theorem Ev_st {p P X : Ac} (e1 : aC P = aC p) (e2 : aF P = aF p) (h : Ev p X) : Ev P X := by
  unfold Ev at h ⊢
  rw [e1, e2]
  exact h
theorem Ev_st2 {p q P Q : Ac} (e1 : aC P = aC p) (e2 : aF P = aF p) (f1 : aC Q = aC q) (f2 : aF Q = aF q) (h : Ev p q) : Ev P Q := by
  have hc : ∀ y, Cl q y → Cl Q y := fun y hy z hz => by
    rw [f2]
    exact hy z ((Rc_st f1 f2).mp hz)
  unfold Ev at h ⊢
  rw [e1, e2, f1, f2]
  exact ⟨h.1, fun x hx => ⟨(h.2 x hx).1, (h.2 x hx).2.1, (h.2 x hx).2.2.1, fun k => hc x ((h.2 x hx).2.2.2 k)⟩⟩
theorem stp.q {p P : Ac} {lp : List Tk} {o : Nat} (h : stp p P lp) (ho : o ≤ aL p) : stq p P o := by
  obtain ⟨lvP, kP, p1, p2, p3⟩ := h
  exact ⟨kP, p1, p2, p3, lvP.2.1, fun k hk => lvP.2.2.1 k (by omega)⟩
theorem L_fails {fs : List Fn} {j o : Nat} {Dm : Nat → Prop} {be : Nat → Nat} {p q P Q : Ac} {rp rq rq' : Nat → Nat} {lp lq : List Tk} (h : SYw j Dm be p q) (h1 : 1 ≤ j) (hj : j < o) (ho : o ≤ aL p) (Jp : JR fs p rp) (Jq : JR fs q rq) (E : Ev p q) (sp : stp p P lp) (sq : stp q Q lq)
  (h0 : aE (failA P o) = 0) (h0' : aE (failA Q o) = 0) (Ep : Ev p (failA P o)) (Eq : Ev q (failA Q o)) (gq' : GR (failA Q o) rq') : SYw j Dm be (failA P o) (failA Q o) := by
  have e1 := h.2.1
  have sl := h.1.2 o (by omega) (by omega)
  obtain ⟨x1, x2, x3, x4⟩ := sl.2.2.2.1 hj
  exact L_fail h.1.1 (fun k k1 k2 => h.1.2 k k1 (by omega)) h1 hj Jp Jq E (sp.q ho) (sq.q (by omega)) ho (by omega) ⟨x1, x2⟩ x3 sl.2.2.1 h0 h0' Ep Eq gq'
