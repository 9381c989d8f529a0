/-! HOW LONG A RUN GOES: what is left -/
def tpv (s : Ac) : Int := match topK s with
  | [] => 1
  | t :: _ => if t.1 = 0 then (if tK (aF s (root s t.2.1)) < 2 then 2 else 0) else 1
abbrev pdn (s : Ac) : Prop := (topK s).head?.map (fun t => t.1) = some 12
def mkS (h : Bool) (s : Ac) : Nat → Bool := fun x => if h = true then (decide (aM s x = lZ (aV s (aL s))) && decide (¬ pdn s)) else decide (aM s x ≠ 0)
def qpv (s : Ac) : Int := if pdn s then 1 else 0
def pot (h : Bool) (s : Ac) : Int := hLa h * (2 * (100 - (aS s : Int)) + aL s + 2 - 2 * qpv s) + 600 * (100 - (aS s : Int)) + tpv s + mX h (mkS h s) (aF s) (aC s) + sI (tkW h (aM s)) (flX s)
theorem tpv_bd {s : Ac} : 0 ≤ tpv s ∧ tpv s ≤ 2 := by
  unfold tpv
  split
  · decide
  · split
    · split <;> decide
    · decide
theorem tpv_ne {s : Ac} (h : ∀ t, t ∈ topK s → t.1 ≠ 0) : tpv s = 1 := by
  unfold tpv
  cases e : topK s with
  | nil => rfl
  | cons t l =>
    show (if t.1 = 0 then (if tK (aF s (root s t.2.1)) < 2 then 2 else 0) else 1 : Int) = 1
    rw [if_neg (h t (by rw [e]; exact List.mem_cons_self ..))]
theorem tpv_h {s : Ac} {t : Tk} {l : List Tk} (e : topK s = t :: l) : (t.1 ≠ 0 → tpv s = 1) ∧ (t.1 = 0 → tK (aF s (root s t.2.1)) < 2 → tpv s = 2) ∧ (t.1 = 0 → ¬ tK (aF s (root s t.2.1)) < 2 → tpv s = 0) := by
  unfold tpv
  rw [e]
  refine ⟨fun h => ?_, fun h h2 => ?_, fun h h2 => ?_⟩
  · show (if t.1 = 0 then (if tK (aF s (root s t.2.1)) < 2 then 2 else 0) else 1 : Int) = 1
    rw [if_neg h]
  · show (if t.1 = 0 then (if tK (aF s (root s t.2.1)) < 2 then 2 else 0) else 1 : Int) = 2
    rw [if_pos h, if_pos h2]
  · show (if t.1 = 0 then (if tK (aF s (root s t.2.1)) < 2 then 2 else 0) else 1 : Int) = 0
    rw [if_pos h, if_neg h2]
/-- nothing is forced on top behind a step that lays no such task -/
theorem Z0.tp {s S : Ac} {t : Tk} {l r new : List Tk} (Z : Z0 s) (ht : topK s = t :: l) (lv : lvs s S r new) (hr : ∀ b, b ∈ r → b ∈ l) (hn : ∀ b, b ∈ new → b.1 ≠ 0) : tpv S = 1 := tpv_ne (fun b hb => by
  rw [lv.2.2.2] at hb
  rcases List.mem_append.mp hb with q | q
  · exact hn b q
  · exact Z.low ht b (List.mem_append_left _ (hr b q)))
/-- a run that goes on is not to be begun -/
theorem JR.np {fs : List Fn} {s S : Ac} {rk : Nat → Nat} {t : Tk} {l m r new : List Tk} (J : JR fs s rk) (ht : topK s = t :: l) (el : l = m ++ r) (lv : lvs s S r new) (hn : ∀ b, b ∈ new → b.1 ≠ 12) : ¬ pdn S := fun h => by
  unfold pdn at h
  rw [lv.2.2.2] at h
  cases new with
  | nil =>
    cases r with
    | nil => cases h
    | cons e r =>
      have h : some e.1 = some 12 := h
      have e12 : e.1 = 12 := Option.some.inj h
      have q := (J.2.2.2.1 (aL s) (Nat.le_refl _) (t :: m) e r (by show topK s = _; rw [ht, el]; rfl)).2
      obtain ⟨k, y, a, b, p⟩ := e
      have e12 : k = 12 := e12
      subst e12
      cases q.2.1
  | cons e r =>
    have h : some e.1 = some 12 := h
    exact hn e (List.mem_cons_self ..) (Option.some.inj h)
theorem np_t {s : Ac} {t : Tk} {l : List Tk} (ht : topK s = t :: l) (h12 : t.1 ≠ 12) : ¬ pdn s := fun h => by
  unfold pdn at h
  rw [ht] at h
  exact h12 (Option.some.inj h)
theorem mk_kz {h : Bool} {s S : Ac} (kz : kz s S) (eL : aL S = aL s) (n1 : ¬ pdn s) (n2 : ¬ pdn S) : mkS h S = mkS h s := by
  obtain ⟨z1, z2, z3⟩ := kz
  funext x
  unfold mkS
  rw [z1, z3, eL, decide_eq_true n1, decide_eq_true n2]
/-- a step on top of the rest -/
theorem pot_op {h : Bool} {fs : List Fn} {s S : Ac} {rk : Nat → Nat} {t : Tk} {l m r new : List Tk} (J : JR fs s rk) (ht : topK s = t :: l) (h12 : t.1 ≠ 12) (el : l = m ++ r) (lv : lvs s S r new) (hn : ∀ b, b ∈ new → b.1 ≠ 12) (hr : ∀ b, b ∈ restX s r → tkW h (aM S) b = tkW h (aM s) b) (hS : aS s ≤ aS S) (h100 : aS S ≤ 100)
  (hm : tpv S + mX h (mkS h S) (aF S) (aC S) + sI (tkW h (aM S)) new + 1 ≤ tpv s + mX h (mkS h s) (aF s) (aC s) + tkW h (aM s) t + sI (tkW h (aM s)) m + 600 * ((aS S : Int) - aS s)) : pot h S + 1 ≤ pot h s := by
  have n1 := np_t ht h12
  have n2 := J.np ht el lv hn
  have e1 := flX_cons ht
  have e2 := flX_lvs lv
  have e3 : restX s l = m ++ restX s r := by
    show l ++ lowX (aV s) (aL s) = m ++ (r ++ lowX (aV s) (aL s))
    rw [el, List.append_assoc]
  have w1 : sI (tkW h (aM s)) (flX s) = tkW h (aM s) t + (sI (tkW h (aM s)) m + sI (tkW h (aM s)) (restX s r)) := by
    rw [e1, e3, ← sI_app]
    rfl
  have w2 : sI (tkW h (aM S)) (flX S) = sI (tkW h (aM S)) new + sI (tkW h (aM s)) (restX s r) := by
    rw [e2, sI_app, sI_eq hr]
  unfold pot
  rw [w1, w2, lv.1]
  unfold qpv
  rw [if_neg n1, if_neg n2]
  cases h
  · show (60000 : Int) * _ + _ + _ + _ + _ + 1 ≤ 60000 * _ + _ + _ + _ + _
    omega
  · show (14600 : Int) * _ + _ + _ + _ + _ + 1 ≤ 14600 * _ + _ + _ + _ + _
    omega
/-- runs and levels go -/
theorem pot_reset {h : Bool} {s S : Ac} (hn : aC s ≤ 3412) (hC : aC S = aC s) (hS : aS s ≤ aS S) (h100 : aS S ≤ 100) (hp : (aL S : Int) + 1 - 2 * qpv S ≤ aL s - 2 * qpv s) (hf : ∀ x, x < aC s → thV h (mkS h S) x (aF S x) ≤ thV h (mkS h s) x (aF s x) + hC1 h) (hI : sI (tkW h (aM S)) (flX S) ≤ sI (tkW h (aM s)) (flX s) + hNg h) : pot h S + 1 ≤ pot h s := by
  have t1 := (tpv_bd (s := S)).2
  have t2 := (tpv_bd (s := s)).1
  have m := sX_le (c := hC1 h) hf
  have m : mX h (mkS h S) (aF S) (aC S) ≤ mX h (mkS h s) (aF s) (aC s) + hC1 h * (aC s : Nat) := by
    unfold mX
    rw [hC]
    exact m
  unfold pot
  cases h
  · have hI : sI (tkW false (aM S)) (flX S) ≤ sI (tkW false (aM s)) (flX s) + ((34130 : Nat) : Int) := hI
    have m : mX false (mkS false S) (aF S) (aC S) ≤ mX false (mkS false s) (aF s) (aC s) + 7 * (aC s : Int) := m
    show (60000 : Int) * _ + _ + _ + _ + _ + 1 ≤ 60000 * _ + _ + _ + _ + _
    omega
  · have hI : sI (tkW true (aM S)) (flX S) ≤ sI (tkW true (aM s)) (flX s) + ((4290 : Nat) : Int) := hI
    have m : mX true (mkS true S) (aF S) (aC S) ≤ mX true (mkS true s) (aF s) (aC s) + 3 * (aC s : Int) := m
    show (14600 : Int) * _ + _ + _ + _ + _ + 1 ≤ 14600 * _ + _ + _ + _ + _
    omega
/-- what is less than nothing in all tasks -/
theorem ng_bd {h : Bool} {fs : List Fn} {s : Ac} {rk : Nat → Nat} (J : JR fs s rk) (N : NB s) (Z : Z0 s) : sL1 (tkN h) (flX s) ≤ hNg h := by
  obtain ⟨b1, _, _, b4, _⟩ := N.all J Z
  obtain ⟨d1, d2⟩ := J.rngl
  obtain ⟨g1, g2⟩ := sD_le (f := aF s) (aC s) _ d1 d2
  cases h
  · have key : ∀ l : List Tk, (∀ t, t ∈ l → t.1 ≤ 15) → sL1 (tkN false) l ≤ 10 * (frl l).length := by
      intro l
      induction l with
      | nil => exact fun _ => Nat.le_refl _
      | cons t l ih =>
        intro hh
        have i1 := ih (fun z hz => hh z (List.mem_cons_of_mem _ hz))
        show tkN false t + sL1 (tkN false) l ≤ 10 * ((if t.1 = 15 then [] else frs t) ++ frl l).length
        rw [List.length_append]
        have : tkN false t ≤ 10 * (if t.1 = 15 then [] else frs t).length := by
          have h15 := hh t (List.mem_cons_self ..)
          obtain ⟨k, y, a, b, p⟩ := t
          have h15 : k ≤ 15 := h15
          match k, h15 with
          | 0, _ => exact Nat.zero_le _
          | 1, _ => exact Nat.zero_le _
          | 2, _ => exact Nat.zero_le _
          | 3, _ => exact Nat.le_refl _
          | 4, _ => exact Nat.zero_le _
          | 5, _ => exact Nat.zero_le _
          | 6, _ => exact Nat.zero_le _
          | 7, _ => exact Nat.le_refl _
          | 8, _ => exact Nat.le_refl _
          | 9, _ => exact Nat.zero_le _
          | 10, _ => exact Nat.zero_le _
          | 11, _ => exact Nat.zero_le _
          | 12, _ => exact Nat.zero_le _
          | 13, _ => exact Nat.le_refl _
          | 14, _ => exact Nat.le_refl _
          | 15, _ => exact Nat.zero_le _
          | n + 16, q => omega
        omega
    have h15 : ∀ t, t ∈ flX s → t.1 ≤ 15 := fun t ht => by
      rcases J.kinds ht with q | ⟨j, l1, l2, _, _, _, q⟩
      · omega
      · obtain ⟨k, y, a, b, p⟩ := t
        match k, q with
        | 0, _ => exact (show 0 ≤ 15 by omega)
        | 1, _ => exact (show 1 ≤ 15 by omega)
        | 2, _ => exact (show 2 ≤ 15 by omega)
        | 3, _ => exact (show 3 ≤ 15 by omega)
        | 4, _ => exact (show 4 ≤ 15 by omega)
        | 5, _ => exact (show 5 ≤ 15 by omega)
        | 6, _ => exact (show 6 ≤ 15 by omega)
        | 7, _ => exact (show 7 ≤ 15 by omega)
        | 8, _ => exact (show 8 ≤ 15 by omega)
        | 9, _ => exact (show 9 ≤ 15 by omega)
        | 10, _ => exact (show 10 ≤ 15 by omega)
        | 11, _ => exact (show 11 ≤ 15 by omega)
        | 12, _ => exact (show 12 ≤ 15 by omega)
        | 13, _ => exact (show 13 ≤ 15 by omega)
        | 14, _ => exact (show 14 ≤ 15 by omega)
        | n + 15, q => exact q.elim
    have := key _ h15
    show sL1 (tkN false) (flX s) ≤ 34130
    omega
  · have key : ∀ l : List Tk, (∀ t, t ∈ l → (t.1 = 7 ∨ t.1 = 8) → tK (aF s t.2.1) = 4 ∨ tK (aF s t.2.1) = 5) → 4 * sL1 (tkN true) l ≤ 5 * sD (aF s) (frl l) := by
      intro l
      induction l with
      | nil => exact fun _ => Nat.le_refl _
      | cons t l ih =>
        intro hh
        have i1 := ih (fun z hz => hh z (List.mem_cons_of_mem _ hz))
        show 4 * (tkN true t + sL1 (tkN true) l) ≤ 5 * sD (aF s) ((if t.1 = 15 then [] else frs t) ++ frl l)
        rw [sD_app]
        have : 4 * tkN true t ≤ 5 * sD (aF s) (if t.1 = 15 then [] else frs t) := by
          have h7 := hh t (List.mem_cons_self ..)
          obtain ⟨k, y, a, b, p⟩ := t
          have h7 : (k = 7 ∨ k = 8) → tK (aF s y) = 4 ∨ tK (aF s y) = 5 := h7
          have w4 : (k = 7 ∨ k = 8) → wx (aF s y) = 4 := fun q => by
            have q := h7 q
            unfold wx wp
            rw [if_pos q, if_pos q, if_neg (by omega)]
          match k, w4 with
          | 0, _ => exact Nat.zero_le _
          | 1, _ => exact Nat.zero_le _
          | 2, _ => exact Nat.zero_le _
          | 3, _ => exact Nat.zero_le _
          | 4, _ => exact Nat.zero_le _
          | 5, _ => exact Nat.zero_le _
          | 6, _ => exact Nat.zero_le _
          | 7, w4 =>
            have := w4 (Or.inl rfl)
            show 4 * 5 ≤ 5 * (wx (aF s y) + 0)
            omega
          | 8, w4 =>
            have := w4 (Or.inr rfl)
            show 4 * 5 ≤ 5 * (wx (aF s y) + 0)
            omega
          | 9, _ => exact Nat.zero_le _
          | 10, _ => exact Nat.zero_le _
          | 11, _ => exact Nat.zero_le _
          | 12, _ => exact Nat.zero_le _
          | 13, _ => exact Nat.zero_le _
          | 14, _ => exact Nat.zero_le _
          | n + 15, _ => exact Nat.zero_le _
        omega
    have h7 : ∀ t, t ∈ flX s → (t.1 = 7 ∨ t.1 = 8) → tK (aF s t.2.1) = 4 ∨ tK (aF s t.2.1) = 5 := fun t ht hk => by
      rcases J.kinds ht with q | ⟨j, l1, l2, _, _, _, q⟩
      · omega
      · obtain ⟨k, y, a, b, p⟩ := t
        rcases hk with e | e
        · have e : k = 7 := e
          subst e
          exact Or.inl q
        · have e : k = 8 := e
          subst e
          exact Or.inr q
    have h1 := key _ h7
    have h2 := N.2.2.2.1
    have h3 := N.2.2.2.2.2.2.1
    show sL1 (tkN true) (flX s) ≤ 4290
    omega
