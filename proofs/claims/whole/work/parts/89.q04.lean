/-! WHAT A VALUE TELLS: the end of a run whose ways are in range -/
noncomputable def finA (fs : List Fn) (g : Tr) (w : List Nat) : Ac := by
  classical exact if h : ∃ S, EndsX (doA fs) g w S then Classical.choose h else startA g w
theorem finA_ends {fs : List Fn} {g : Tr} {w : List Nat} (hf : PW fs [] none) (hg : tok fs g) (h : OKw fs g w) : EndsX (doA fs) g w (finA fs g w) := by
  have hx : ∃ S, EndsX (doA fs) g w S := ⟨_, 14000000, rfl, ends_A hf hg h.1 h.2.1 h.2.2 14000000 (Nat.le_refl _)⟩
  unfold finA
  rw [dif_pos hx]
  exact Classical.choose_spec hx
/-- the goal's whole -/
def goT (g : Tr) (y : Nat) : Prop := (mkA (opG 0 (ksA g) 0 (fun _ => none)).1 0 0 g (opG 0 (ksA g) 0 (fun _ => none)).2.length).1 = some y
/-- the last turn of a run -/
def Lst (fs : List Fn) (g : Tr) (w : List Nat) (s : Ac) : Prop := aE s = 0 ∧ AA fs s ∧ WR2 fs s ∧ goX (doA fs) s = finA fs g w ∧ lG (aV s 0) = w.drop (lD (aV s 0)).length ∧ Ev (startA g w) s ∧ PZ s ∧ aN s 0 = aN (startA g w) 0 ∧ ∀ y, goT g y → GC s y
theorem OKw.last {fs : List Fn} {g : Tr} {w : List Nat} (hf : PW fs [] none) (hg : tok fs g) (h : OKw fs g w) : (∃ s, Lst fs g w s) ∧ aE (finA fs g w) ≠ 0 ∧ aE (finA fs g w) ≤ 5 := by
  obtain ⟨n, e1, e2⟩ := finA_ends hf hg h
  obtain ⟨h40, h100, hW⟩ := h
  have al := fun n => AA.all hf hg h40 h100 n (fun m _ => hW m)
  obtain ⟨m0, a0, a1⟩ := first_end (d := doA fs) (s := startA g w) rfl n (by rw [e1]; exact e2)
  have sg := OKw.seg hf hg h40 h100 a0 (fun m _ => hW m)
  refine ⟨⟨itX (doA fs) m0 (startA g w), a0, (al m0).2.2 a0, hW m0 a0, ?_, lG0 hf sg m0 (Nat.le_refl _), sg.evk hf (Nat.zero_le _) (Nat.le_refl _), ?_⟩, e2, by rw [← e1]; exact (al n).1⟩
  · rw [← itX_s, a1, e1]
  · have key : ∀ m, m ≤ m0 → PZ (itX (doA fs) m (startA g w)) ∧ aN (itX (doA fs) m (startA g w)) 0 = aN (startA g w) 0 ∧ ∀ y, goT g y → GC (itX (doA fs) m (startA g w)) y := by
      intro m
      induction m with
      | zero =>
        intro _
        refine ⟨⟨Nat.le_refl _, fun x hx k2 kT => ?_⟩, rfl, fun y hy => ?_⟩
        · exfalso
          have hx : x < (opG 0 (ksA g) 0 (fun _ => none)).2.length + (mkA (opG 0 (ksA g) 0 (fun _ => none)).1 0 0 g (opG 0 (ksA g) 0 (fun _ => none)).2.length).2.length := hx
          have k2 : tK (app (app (fun _ => tNil) 0 (opG 0 (ksA g) 0 (fun _ => none)).2) (opG 0 (ksA g) 0 (fun _ => none)).2.length (mkA (opG 0 (ksA g) 0 (fun _ => none)).1 0 0 g (opG 0 (ksA g) 0 (fun _ => none)).2.length).2 x) = 2 := k2
          have kT : tT (app (app (fun _ => tNil) 0 (opG 0 (ksA g) 0 (fun _ => none)).2) (opG 0 (ksA g) 0 (fun _ => none)).2.length (mkA (opG 0 (ksA g) 0 (fun _ => none)).1 0 0 g (opG 0 (ksA g) 0 (fun _ => none)).2.length).2 x) ≠ .nil := kT
          rcases app_or (f := app (fun _ => tNil) 0 (opG 0 (ksA g) 0 (fun _ => none)).2) hx with ⟨b1, b2⟩ | ⟨u, b1, b2⟩
          · rw [b2] at k2
            have b1 : x < 0 + (opG 0 (ksA g) 0 (fun _ => none)).2.length := by omega
            rcases app_or (f := fun _ => tNil) b1 with ⟨c1, _⟩ | ⟨u, c1, c2⟩
            · omega
            · rw [c2, opG_op _ _ _ u c1] at k2
              exact absurd k2 (show ¬ (0 : Nat) = 2 by decide)
          · rw [b2] at k2 kT
            have := mkA_nl hf.1 hg.1 _ u b1 kT
            omega
        · have A := (al 0).2.2 rfl
          obtain ⟨⟨⟨rk, J⟩, _⟩, _⟩ := A
          have eK : lK (aV (startA g w) 0) = [(1, y, 0, 0, .nil)] := by
            show oT 1 (mkA (opG 0 (ksA g) 0 (fun _ => none)).1 0 0 g (opG 0 (ksA g) 0 (fun _ => none)).2.length).1 = _
            rw [show (mkA (opG 0 (ksA g) 0 (fun _ => none)).1 0 0 g (opG 0 (ksA g) 0 (fun _ => none)).2.length).1 = some y from hy]
            rfl
          have hy2 := (J.2.2.2.1 0 (Nat.zero_le _) [] (1, y, 0, 0, .nil) [] eK).1 y (List.mem_singleton.mpr rfl)
          refine ⟨hy2.1, Or.inr ⟨(1, y, 0, 0, .nil), ?_, Or.inl ⟨Or.inl rfl, hy2.1, rfl⟩⟩⟩
          show _ ∈ lK (aV (startA g w) 0)
          rw [eK]
          exact List.mem_singleton.mpr rfl
      | succ m ih =>
        intro hm
        obtain ⟨i1, i2, i3⟩ := ih (by omega)
        have em := ends_stay (show m ≤ m0 by omega) a0
        have em1 := ends_stay hm a0
        rw [itX_s] at em1 ⊢
        have A := (al m).2.2 em
        obtain ⟨⟨⟨rk, J⟩, _⟩, _⟩ := id A
        have p := PSt.go J hf.1 i1 em em1
        exact ⟨i1.ps p, p.1.trans i2, fun y hy => GC.go hf A em (hW m em) em1 (i3 y hy)⟩
    exact key m0 (Nat.le_refl _)
/-- the decisions at the end -/
theorem Lst.dec {fs : List Fn} {g : Tr} {w : List Nat} {s : Ac} (hf : PW fs [] none) (h : Lst fs g w s) (h0 : aE (finA fs g w) ≠ 0) : (lD (aV (finA fs g w) 0)).length + (lG (aV (finA fs g w) 0)).length ≤ 40 ∧ (∀ d, d ∈ lD (aV (finA fs g w) 0) → d.1 < d.2 ∧ d.2 < 100) ∧ lG (aV (finA fs g w) 0) = w.drop (lD (aV (finA fs g w) 0)).length := by
  obtain ⟨a1, a2, a3, a4, a5, _⟩ := h
  obtain ⟨⟨⟨rk, J⟩, _⟩, ⟨_, N, _⟩, _⟩ := id a2
  obtain ⟨_, n1, n2, n3⟩ := N 0 (Nat.zero_le _)
  rw [← a4] at h0 ⊢
  rcases LVe.go hf J a1 a3 h0 with ⟨e1, e2⟩ | ⟨x, r, n, e1, e2, e3, e4, e5⟩
  · rw [e1, e2]
    exact ⟨n1, n2, a5⟩
  · rw [e4, e5]
    refine ⟨?_, fun d hd => ?_, ?_⟩
    · rw [e1, List.length_cons] at n1
      rw [List.length_cons]
      omega
    · rcases List.mem_cons.mp hd with q | q
      · rw [q]
        exact ⟨e2, e3⟩
      · exact n2 d q
    · rw [List.length_cons, ← List.tail_drop, ← a5, e1]
      rfl
/-- a branch -/
theorem OKw.br {fs : List Fn} {g : Tr} {w : List Nat} (hf : PW fs [] none) (hg : tok fs g) (h : OKw fs g w) (h5 : aE (finA fs g w) = 5) : aB (finA fs g w) ≤ 24 ∧ 2 ≤ aB (finA fs g w) ∧ w.length < 40 ∧ (∀ i, i < aB (finA fs g w) → OKw fs g (w ++ [i])) ∧ lG (aV (finA fs g w) 0) = [] := by
  obtain ⟨⟨s, hs⟩, _⟩ := h.last hf hg
  obtain ⟨a1, a2, a3, a4, a5, _⟩ := hs
  obtain ⟨⟨⟨rk, J⟩, _⟩, _⟩ := id a2
  have b := BRx J a1 (by rw [a4]; exact h5)
  rw [a4] at b
  obtain ⟨y, c, d, p, l, k, t0, w0, g0, x0, kk, s0⟩ := b
  have hb : aB (finA fs g w) = k := by rw [s0]; rfl
  have hk : k ≤ 24 ∧ 2 ≤ k := by
    rcases kk with ⟨k2, ek, k1⟩ | ⟨_, ek⟩
    · have hy := (J.2.2.2.1 _ (Nat.le_refl _) [] _ l t0).1 y (List.mem_cons_self ..)
      obtain ⟨⟨xf, hxf, _⟩, _⟩ := (J.2.2.1.1 _ (J.1.lt hy.1)).2.2.2.2.1 k2
      have hru : rulf fs (tO (aF s (root s y))) = xf.2.2 := by
        unfold rulf
        rw [hxf]
      have h24 : xf.2.2.length ≤ 24 := Nat.le_trans (tot_le hxf) hf.2.1
      rw [hru] at ek
      omega
    · omega
  have sn : ∀ i, i < aB (finA fs g w) → OKw fs g (w ++ [i]) := fun i hi => h.snoc hf hg (finA_ends hf hg h) h5 hi
  refine ⟨by omega, by omega, ?_, sn, ?_⟩
  · have := (sn 0 (by omega)).1
    rw [List.length_append] at this
    have this : w.length + 1 ≤ 40 := this
    omega
  · rw [s0]
    show lG (aV (setK s l) 0) = []
    rw [((kg_setK (s := s) (l := l)).2 0).2.2]
    exact g0
/-- only a run without tasks has a value -/
def nv1 (s S : Ac) : Prop := aE s ≠ 1 → aE S ≠ 1
theorem nv1.tr {s s1 s2 : Ac} (h : nv1 s s1) (h' : nv1 s1 s2) : nv1 s s2 := fun q => h' (h q)
theorem nv1_dec {s : Ac} {o n : Nat} : nv1 s (decA s o n).2 := by
  unfold decA
  split
  · exact fun _ => (show (4 : Nat) ≠ 1 by decide)
  · split
    · exact id
    · split
      · exact fun _ => (show (5 : Nat) ≠ 1 by decide)
      · exact id
theorem nv1_step {s : Ac} : nv1 s (stepA s) := by
  unfold stepA
  split
  · exact fun _ => (show (4 : Nat) ≠ 1 by decide)
  · exact id
theorem nv1_fail {s : Ac} {o : Nat} : nv1 s (failA s o) := by
  unfold failA
  split
  · exact fun _ => (show (2 : Nat) ≠ 1 by decide)
  · split
    · exact id
    · split
      · exact fun _ => (show (4 : Nat) ≠ 1 by decide)
      · exact id
theorem nv1_call {fs : List Fn} {s : Ac} {x : Nat} : nv1 s (callA fs s x) := by
  unfold callA
  split
  · exact nv1_fail
  · have gen : ∀ d : Nat × Ac, nv1 s d.2 → nv1 s (if aE d.2 = 0 then (if aE (stepA d.2) = 0 then takeR (stepA d.2) x ((rulf fs (tO (aF s x))).getD d.1 (none, none, .nil)) else stepA d.2) else d.2) := fun d hd => by
      split
      · split
        · exact hd.tr (nv1_step (s := d.2))
        · exact hd.tr nv1_step
      · exact hd
    refine gen _ ?_
    split
    · exact nv1_dec
    · exact id
theorem nv1_force {fs : List Fn} {h : Bool} {s : Ac} {x : Nat} : nv1 s (forceG fs h s x) := by
  unfold forceG
  split
  · exact nv1_call
  · simp only []
    split
    · split
      · exact nv1_dec (s := s)
      · exact nv1_dec
    · exact nv1_dec
  · exact id
  · exact id
  · exact id
  · exact id
theorem nv1_bind {s : Ac} {x y o : Nat} : nv1 s (bindA s x y o) := by
  unfold bindA
  split
  · exact nv1_fail
  · split
    · exact id
    · split
      · exact id
      · exact fun _ => (show (3 : Nat) ≠ 1 by decide)
theorem nv1_unite {s : Ac} {a b u : Nat} : nv1 s (uniteA s a b u) := by
  unfold uniteA
  split
  · exact id
  · simp only []
    split
    · refine nv1_step.tr ?_
      split
      · exact nv1_bind
      · split
        · exact nv1_bind
        · split
          · exact id
          · exact nv1_fail
    · exact nv1_step
theorem nv1_ask {s : Ac} {a b u : Nat} : nv1 s (askA s a b u) := by
  unfold askA
  split
  · exact id
  · split
    · exact fun _ => (show (3 : Nat) ≠ 1 by decide)
    · simp only []
      split
      · refine nv1_step.tr ?_
        split
        · exact id
        · exact id
      · exact nv1_step
theorem n1E {fs : List Fn} {s : Ac} {t : Tk} {l : List Tk} (hE : aE s = 0) : aE (doA fs (setK s l) t) ≠ 1 := by
  have b : aE (setK s l) ≠ 1 := by
    show aE s ≠ 1
    omega
  suffices h : nv1 (setK s l) (doA fs (setK s l) t) from h b
  unfold doA
  split
  · exact nv1_force
  · exact id
  · split
    · exact id
    · exact id
  · exact id
  · split
    · exact id
    · exact id
  · unfold metA
    simp only []
    split
    · split
      · exact fun _ => (show (3 : Nat) ≠ 1 by decide)
      · exact id
    · split
      · exact id
      · exact nv1_fail
  · unfold endG
    simp only []
    split
    · exact id
    · exact id
  · exact id
  · exact nv1_fail
  · exact id
  · exact nv1_unite
  · exact nv1_ask
  · unfold runA
    simp only []
    split
    · exact nv1_step (s := setK s l)
    · exact nv1_step
  · exact id
  · exact id
/-- a value -/
theorem OKw.val {fs : List Fn} {g : Tr} {w : List Nat} (hf : PW fs [] none) (hg : tok fs g) (h : OKw fs g w) (h1 : aE (finA fs g w) = 1) : ∃ s, Lst fs g w s ∧ finA fs g w = sE s 1 ∧ topK s = [] ∧ aL s = 0 ∧ (∀ y, goT g y → y < aC s ∧ Cl s y) ∧ ∀ k y, aN s 0 k = some y → y < aC s ∧ Cl s y := by
  obtain ⟨⟨s, hs⟩, h0, _⟩ := h.last hf hg
  obtain ⟨a1, a2, a3, a4, a5, a6, a7, a8, a9⟩ := id hs
  obtain ⟨⟨⟨rk, J⟩, _⟩, _⟩ := id a2
  obtain ⟨⟨⟨rk0, J0⟩, _⟩, _⟩ := (AA.start hf hg h.1 h.2.1).1
  have ht : topK s = [] := by
    cases ht : topK s with
    | nil => rfl
    | cons t l =>
      exfalso
      rw [← a4, goX_cons a1 ht] at h1
      exact n1E a1 h1
  have hL : aL s = 0 := by
    by_cases w0 : aL s = 0
    · exact w0
    · obtain ⟨_, _, _, l, e, q1, _⟩ := J.2.2.2.2 (aL s) (by omega) (Nat.le_refl _)
      have q1 : topK s = l ++ [e] := q1
      rw [ht] at q1
      simp at q1
  refine ⟨s, hs, ?_, ht, hL, fun y hy => ?_, fun k y hy => ?_⟩
  · rw [← a4]
    unfold goX
    rw [if_pos a1, ht]
  · obtain ⟨b1, b2⟩ := a9 y hy
    refine ⟨b1, ?_⟩
    rcases b2 with q | ⟨t, q, _⟩
    · exact q
    · exfalso
      have ht : lK (aV s (aL s)) = [] := ht
      rw [hL] at ht
      rw [ht] at q
      exact List.not_mem_nil q
  · rw [a8] at hy
    have b1 := J0.2.2.1.2.2 0 k y hy
    refine ⟨Nat.lt_of_lt_of_le b1 a6.1, (a6.2 y b1).2.2.2 ?_⟩
    have hy : (opG 0 (ksA g) 0 (fun _ => none)).1 k = some y := hy
    rcases opG_or _ _ _ _ _ hy with q | ⟨_, q⟩
    · cases q
    · show tK (app (app (fun _ => tNil) 0 (opG 0 (ksA g) 0 (fun _ => none)).2) (opG 0 (ksA g) 0 (fun _ => none)).2.length (mkA (opG 0 (ksA g) 0 (fun _ => none)).1 0 0 g (opG 0 (ksA g) 0 (fun _ => none)).2.length).2 y) = 0
      rw [app_lt (by omega)]
      rcases app_or (f := fun _ => tNil) (show y < 0 + (opG 0 (ksA g) 0 (fun _ => none)).2.length by omega) with ⟨c1, _⟩ | ⟨u, c1, c2⟩
      · omega
      · rw [c2, opG_op _ _ _ u c1]
        rfl
