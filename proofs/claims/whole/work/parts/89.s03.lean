/-! SEARCHES OF THE MODEL: one run -/
/-- steps -/
def nS1 (s S : Ac) : Prop := aS s ≤ 100 → aS S ≤ 100
theorem nS1.tr {s s1 s2 : Ac} (h : nS1 s s1) (h' : nS1 s1 s2) : nS1 s s2 := fun q => h' (h q)
theorem nS1_dec {s : Ac} {o n : Nat} : nS1 s (decA s o n).2 := by
  unfold decA
  split
  · exact id
  · split
    · exact id
    · split
      · exact id
      · exact id
theorem nS1_step {s : Ac} : nS1 s (stepA s) := by
  unfold stepA
  split
  · exact id
  · intro h
    show aS s + 1 ≤ 100
    omega
theorem nS1_fail {s : Ac} {o : Nat} : nS1 s (failA s o) := by
  unfold failA
  split
  · exact id
  · split
    · exact id
    · split
      · exact id
      · exact id
theorem nS1_call {fs : List Fn} {s : Ac} {x : Nat} : nS1 s (callA fs s x) := by
  unfold callA
  split
  · exact nS1_fail
  · have gen : ∀ d : Nat × Ac, nS1 s d.2 → nS1 s (if aE d.2 = 0 then (if aE (stepA d.2) = 0 then takeR (stepA d.2) x ((rulf fs (tO (aF s x))).getD d.1 (none, none, .nil)) else stepA d.2) else d.2) := fun d hd => by
      split
      · split
        · exact hd.tr (nS1_step (s := d.2))
        · exact hd.tr nS1_step
      · exact hd
    refine gen _ ?_
    split
    · exact nS1_dec
    · exact id
theorem nS1_force {fs : List Fn} {h : Bool} {s : Ac} {x : Nat} : nS1 s (forceG fs h s x) := by
  unfold forceG
  split
  · exact nS1_call
  · simp only []
    split
    · split
      · exact nS1_dec (s := s)
      · exact nS1_dec
    · exact nS1_dec
  · exact id
  · exact id
  · exact id
  · exact id
theorem nS1_bind {s : Ac} {x y o : Nat} : nS1 s (bindA s x y o) := by
  unfold bindA
  split
  · exact nS1_fail
  · split
    · exact id
    · split
      · exact id
      · exact id
theorem nS1_unite {s : Ac} {a b u : Nat} : nS1 s (uniteA s a b u) := by
  unfold uniteA
  split
  · exact id
  · simp only []
    split
    · refine nS1_step.tr ?_
      split
      · exact nS1_bind
      · split
        · exact nS1_bind
        · split
          · exact id
          · exact nS1_fail
    · exact nS1_step
theorem nS1_ask {s : Ac} {a b u : Nat} : nS1 s (askA s a b u) := by
  unfold askA
  split
  · exact id
  · split
    · exact id
    · simp only []
      split
      · refine nS1_step.tr ?_
        split
        · exact id
        · exact id
      · exact nS1_step
theorem nS1_A {fs : List Fn} {s : Ac} : nS1 s (goX (doA fs) s) := by
  unfold goX
  split
  · split
    · exact id
    · rename_i t l ht
      suffices h : nS1 (setK s l) (doA fs (setK s l) t) from h
      unfold doA
      split
      · exact nS1_force
      · exact id
      · split
        · exact id
        · exact id
      · exact id
      · split
        · exact id
        · exact id
      · unfold metA
        simp only []
        split
        · split
          · exact id
          · exact id
        · split
          · exact id
          · exact nS1_fail
      · unfold endG
        simp only []
        split
        · exact id
        · exact id
      · exact id
      · exact nS1_fail
      · exact id
      · exact nS1_unite
      · exact nS1_ask
      · unfold runA
        simp only []
        split
        · exact nS1_step (s := setK s l)
        · exact nS1_step
      · exact id
      · exact id

  · exact id
theorem fin_S {fs : List Fn} {g : Tr} {w : List Nat} (hf : PW fs [] none) (hg : tok fs g) (h : OKw fs g w) : aS (finA fs g w) ≤ 100 := by
  obtain ⟨n, e, _⟩ := finA_ends hf hg h
  rw [← e]
  have key : ∀ n, aS (itX (doA fs) n (startA g w)) ≤ 100 := by
    intro n
    induction n with
    | zero => exact Nat.zero_le _
    | succ n ih =>
      rw [itX_s]
      exact nS1_A ih
  exact key n
/-- ways at the end -/
theorem OKw.wys {fs : List Fn} {g : Tr} {w : List Nat} (hf : PW fs [] none) (hg : tok fs g) (h : OKw fs g w) : wy (lD (aV (finA fs g w) 0)) ++ lG (aV (finA fs g w) 0) = w := by
  obtain ⟨n, e, _⟩ := finA_ends hf hg h
  obtain ⟨h40, h100, hW⟩ := h
  have st : ∀ m, wy (lD (aV (itX (doA fs) m (startA g w)) 0)) ++ lG (aV (itX (doA fs) m (startA g w)) 0) = w := by
    intro m
    induction m with
    | zero => rfl
    | succ m ih =>
      rw [itX_s]
      by_cases eE : aE (itX (doA fs) m (startA g w)) = 0
      · have A := (AA.all hf hg h40 h100 m (fun m _ => hW m)).2.2 eE
        obtain ⟨⟨⟨rk, J⟩, _⟩, _⟩ := A
        rcases LVe.all hf J eE (hW _ eE) with ⟨q1, q2⟩ | ⟨x, r, n, q1, _, _, q4, q5⟩
        · rw [q1, q2]
          exact ih
        · rw [q4, q5, wy_cons, List.append_assoc]
          rw [q1] at ih
          exact ih
      · rw [goX_end eE]
        exact ih
  have := st n
  rw [e] at this
  exact this
/-- one run of the model -/
theorem s12_run1 {fs : List Fn} {nds : List Tr} {g : Tr} {w : List Nat} {m : Mm} {Z : Nat} (hpw : PW fs nds (some g)) (hok : OKw fs g w) (hX0 : MX m fs nds (some g)) (hw : WM m w) (hX : RX m Z) (hZ : Z < 2147480000) : C m12_run [.ref 668] m (fun r m' => r = .inl none ∧ Fr SY m m' ∧ MX m' fs nds (some g) ∧ RM m' (finA fs g w) ∧ (∃ Z', RX m' Z' ∧ Z' ≤ Z + 200) ∧ mI m' 668 49 = 0 ∧ mI m' 668 48 = nn (goR g)) := by
  have hg := hpw.2.2.2.2.2 g rfl
  obtain ⟨N, hN, hN0⟩ := finA_ends hpw.no hg hok
  obtain ⟨hI, hi⟩ := invG_of hpw.no hg hok.1 hok.2.1 hok.2.2
  have key := s12_run hI hX0 hpw hw hi hX hZ (n := N) (by rw [hN]; exact hN0)
  rw [hN] at key
  refine C.mono key ?_
  rintro r m' ⟨rfl, fr, rm, ⟨S, x1, x2⟩, z49, y, hy, h48⟩
  have := fin_S hpw.no hg hok
  exact ⟨rfl, fr, hX0.gen fr SY_n, rm, ⟨S, x1, by omega⟩, z49, by rw [h48, goT_R hy]⟩
