/-! EVERY RUN ENDS -/
theorem pot_lo {h : Bool} {fs : List Fn} {s : Ac} {rk : Nat → Nat} (J : JR fs s rk) (N : NB s) (Z : Z0 s) : -40000 ≤ pot h s := by
  have n4 := N.2.2.2.1
  have h1 := ng_bd (h := h) J N Z
  have h2 := sI_ng (W := tkW h (aM s)) (g := tkN h) tkW_ng (flX s)
  have h3 := (tpv_bd (s := s)).1
  have h4 := mX_nn (h := h) (mk := mkS h s) (f := aF s) (n := aC s)
  have h5 : qpv s ≤ 1 := by
    unfold qpv
    split <;> decide
  unfold pot
  cases h
  · have h1 : sL1 (tkN false) (flX s) ≤ 34130 := h1
    show _ ≤ (60000 : Int) * _ + _ + _ + _ + _
    omega
  · have h1 : sL1 (tkN true) (flX s) ≤ 4290 := h1
    show _ ≤ (14600 : Int) * _ + _ + _ + _ + _
    omega
theorem pot_hi {h : Bool} {fs : List Fn} {g : Tr} {w : List Nat} (hf : PW fs [] none) (hg : tok fs g) (h40 : w.length ≤ 40) (h100 : ∀ x, x ∈ w → x < 100) : pot h (startA g w) ≤ (if h = true then 3200000 else 13000000) := by
  obtain ⟨⟨rk, J⟩, ⟨N, _⟩, Z, _⟩ := start_f hf hg h40 h100
  have hC : aC (startA g w) ≤ 12 := by
    have n1 := N.1
    have n3 := N.2.2.1
    have : aS (startA g w) = 0 := rfl
    omega
  have h3 := (tpv_bd (s := startA g w)).2
  have h4 : mX h (mkS h (startA g w)) (aF (startA g w)) (aC (startA g w)) ≤ 0 + 18 * ((aC (startA g w) : Nat) : Int) := by
    have := sX_more (g := fun x => thV h (mkS h (startA g w)) x (aF (startA g w) x)) (c := 18) (n := 0) (k := aC (startA g w)) (fun x _ _ => by
      have h1 := (thV_bd (h := h) (mk := mkS h (startA g w)) (x := x) (t := aF (startA g w) x)).2
      have h2 : hC4 h ≤ 18 := by cases h <;> decide
      show thV h (mkS h (startA g w)) x (aF (startA g w) x) ≤ 18
      omega)
    rw [Nat.zero_add] at this
    exact this
  have h5 : 0 ≤ qpv (startA g w) := by
    unfold qpv
    split <;> decide
  have h6 : sI (tkW h (aM (startA g w))) (flX (startA g w)) ≤ 3 := by
    obtain ⟨q, hq⟩ : ∃ q : Option Nat, flX (startA g w) = oT 1 q ++ [] := ⟨_, rfl⟩
    rw [hq, List.append_nil]
    have := (sI_oT (h := h) (m := aM (startA g w)) (y := q)).2
    have h2 : (if h = true then (1 : Int) else 3) ≤ 3 := by cases h <;> decide
    omega
  have e1 : aS (startA g w) = 0 := rfl
  have e2 : aL (startA g w) = 0 := rfl
  unfold pot
  rw [e1, e2]
  cases h
  · show (60000 : Int) * _ + _ + _ + _ + _ ≤ 13000000
    omega
  · show (14600 : Int) * _ + _ + _ + _ + _ ≤ 3200000
    omega
/-- the reference's run ends -/
theorem ends_A {fs : List Fn} {g : Tr} {w : List Nat} (hf : PW fs [] none) (hg : tok fs g) (h40 : w.length ≤ 40) (h100 : ∀ x, x ∈ w → x < 100) (hW : WRA fs g w) : ∀ m, 14000000 ≤ m → aE (itX (doA fs) m (startA g w)) ≠ 0 := by
  have al := fun n => AA.all hf hg h40 h100 n (fun m _ => hW m)
  have key : ∀ n, aE (itX (doA fs) n (startA g w)) = 0 → pot false (itX (doA fs) n (startA g w)) + n ≤ pot false (startA g w) := by
    intro n
    induction n with
    | zero =>
      intro _
      show pot false (startA g w) + ((0 : Nat) : Int) ≤ _
      omega
    | succ n ih =>
      intro h0
      rw [itX_s] at h0 ⊢
      by_cases e : aE (itX (doA fs) n (startA g w)) = 0
      · have := ih e
        have := pot_A hf ((al n).2.2 e) e (hW n e) h0
        omega
      · rw [goX_end e] at h0
        exact absurd h0 e
  intro m hm h0
  have h1 := key _ h0
  obtain ⟨⟨⟨rk, J⟩, M⟩, ⟨N, _⟩, Z, _⟩ := (al _).2.2 h0
  have h2 := pot_lo (h := false) J N Z
  have h3 : pot false (startA g w) ≤ 13000000 := pot_hi hf hg h40 h100
  omega
/-- so does the other one's, in so many turns -/
theorem ends_Q {fs : List Fn} {g : Tr} {w : List Nat} (hf : PW fs [] none) (hg : tok fs g) (h40 : w.length ≤ 40) (h100 : ∀ x, x ∈ w → x < 100) (hW : WRQ fs g w) : ∀ m, 3500000 ≤ m → aE (itX (doQ fs) m (startA g w)) ≠ 0 := by
  have al := fun n => QQ.all hf hg h40 h100 n (fun m _ => hW m)
  have key : ∀ n, aE (itX (doQ fs) n (startA g w)) = 0 → pot true (itX (doQ fs) n (startA g w)) + n ≤ pot true (startA g w) := by
    intro n
    induction n with
    | zero =>
      intro _
      show pot true (startA g w) + ((0 : Nat) : Int) ≤ _
      omega
    | succ n ih =>
      intro h0
      rw [itX_s] at h0 ⊢
      by_cases e : aE (itX (doQ fs) n (startA g w)) = 0
      · have := ih e
        have := pot_Q hf ((al n).2.2 e) e (hW n e) h0
        omega
      · rw [goX_end e] at h0
        exact absurd h0 e
  intro m hm h0
  have h1 := key _ h0
  obtain ⟨⟨⟨rk, J⟩, M⟩, ⟨N, _⟩, Z, _⟩ := (al _).2.2 h0
  have h2 := pot_lo (h := true) J N Z
  have h3 : pot true (startA g w) ≤ 3200000 := pot_hi hf hg h40 h100
  omega
