/-! THE REFERENCE: a task is done; a run is made -/
theorem aS_dec {s : Ac} {o n : Nat} : aS (decA s o n).2 = aS s := decA_t.2.2.2.2.2.2.1
theorem aS_step {s : Ac} : aS s ≤ aS (stepA s) := by
  unfold stepA
  split
  · exact Nat.le_refl _
  · exact Nat.le_succ _
theorem aS_run {s : Ac} : aS s ≤ aS (runA s) := by
  by_cases h : aS s = 100
  · rw [runA_no h]
    exact Nat.le_refl _
  · unfold runA
    rw [show stepA s = sS s (aS s + 1) from if_neg h]
    simp only
    split
    · exact Nat.le_succ _
    · exact Nat.le_succ _
theorem aS_takeR {s : Ac} {x : Nat} {R : Rl} : aS (takeR s x R) = aS s := rfl
theorem aS_go2 {d : Nat × Ac} {x : Nat} {R : Rl} : aS d.2 ≤ aS (if aE d.2 = 0 then (if aE (stepA d.2) = 0 then takeR (stepA d.2) x R else stepA d.2) else d.2) := by
  split
  · split
    · rw [aS_takeR]
      exact aS_step
    · exact aS_step
  · exact Nat.le_refl _
theorem aS_call {fs : List Fn} {s : Ac} {x : Nat} : aS s ≤ aS (callA fs s x) := by
  unfold callA
  split
  · rw [aS_fail]
    exact Nat.le_refl _
  · split
    · have h := aS_go2 (d := decA s (tW (aF s x)) (rulf fs (tO (aF s x))).length) (x := x) (R := (rulf fs (tO (aF s x))).getD (decA s (tW (aF s x)) (rulf fs (tO (aF s x))).length).1 (none, none, .nil))
      rw [aS_dec] at h
      exact h
    · exact aS_go2 (d := (0, s)) (x := x) (R := (rulf fs (tO (aF s x))).getD 0 (none, none, .nil))
theorem aS_force {fs : List Fn} {h : Bool} {s : Ac} {x : Nat} : aS s ≤ aS (forceG fs h s x) := by
  unfold forceG
  split
  · exact aS_call
  · simp only
    split
    · split
      · show _ ≤ aS (decA s (tW (aF s x)) 2).2
        rw [aS_dec]
        exact Nat.le_refl _
      · rw [aS_dec]
        exact Nat.le_refl _
    · rw [aS_dec]
      exact Nat.le_refl _
  · exact Nat.le_refl _
  · exact Nat.le_refl _
  · exact Nat.le_refl _
  · exact Nat.le_refl _
theorem aS_met {fs : List Fn} {s : Ac} {t : Tr} {x c : Nat} : aS s ≤ aS (metA fs s t x c) := by
  unfold metA
  simp only
  split
  · split
    · exact Nat.le_refl _
    · exact Nat.le_refl _
  · split
    · exact Nat.le_refl _
    · rw [aS_fail]
      exact Nat.le_refl _
theorem aS_end {h : Bool} {s : Ac} {c : Nat} : aS (endG h s c) = aS s := by
  unfold endG
  simp only
  split <;> rfl
theorem aS_bind {s : Ac} {x y o : Nat} : aS (bindA s x y o) = aS s := by
  unfold bindA
  split
  · exact aS_fail
  · split
    · rfl
    · split <;> rfl
theorem aS_unite {s : Ac} {a b u : Nat} : aS s ≤ aS (uniteA s a b u) := by
  unfold uniteA
  split
  · exact Nat.le_refl _
  · have h := aS_step (s := s)
    simp only
    split
    · split
      · rw [aS_bind]
        exact h
      · split
        · rw [aS_bind]
          exact h
        · split
          · exact h
          · rw [aS_fail]
            exact h
    · exact h
theorem aS_ask {s : Ac} {a b u : Nat} : aS s ≤ aS (askA s a b u) := by
  unfold askA
  split
  · exact Nat.le_refl _
  · split
    · exact Nat.le_refl _
    · have h := aS_step (s := s)
      simp only
      split
      · split
        · exact h
        · exact h
      · exact h
theorem aS_do {fs : List Fn} {s : Ac} {t : Tk} : aS s ≤ aS (doA fs s t) := by
  unfold doA
  split
  · exact aS_force
  · exact Nat.le_refl _
  · split <;> exact Nat.le_refl _
  · exact Nat.le_refl _
  · split <;> exact Nat.le_refl _
  · exact aS_met
  · rw [aS_end]
    exact Nat.le_refl _
  · exact Nat.le_refl _
  · rw [aS_fail]
    exact Nat.le_refl _
  · exact Nat.le_refl _
  · exact aS_unite
  · exact aS_ask
  · exact aS_run
  · exact Nat.le_refl _
  · exact Nat.le_refl _
/-- after k tasks, one at least -/
def PD (fs : List Fn) (m0 : Mm) (Z : Nat) (s0 : Ac) : Option Value ⊕ String → Mm → Prop := fun r m' => r = .inl none ∧ Fr SX m0 m' ∧ ∃ k, 1 ≤ k ∧ RM m' (itX (doA fs) k s0) ∧ RXZ m' Z (itX (doA fs) k s0)
theorem PD.of {fs : List Fn} {m0 m : Mm} {Z : Nat} {s0 s' : Ac} {r : Option Value ⊕ String} {m' : Mm} (fr : Fr SX m0 m) (hX : RXZ m Z s0) (he : goX (doA fs) s0 = s') (hS : aS s0 ≤ aS s') (h : PM m s' r m') : PD fs m0 Z s0 r m' := by
  obtain ⟨h1, h2, h3⟩ := h
  obtain ⟨S, S1, S2⟩ := hX
  refine ⟨h1, fr.trans (SR_SX h2), 1, Nat.le_refl _, ?_, S, S1.fr h2, ?_⟩
  · show RM m' (goX (doA fs) s0)
    rw [he]
    exact h3
  · show S ≤ Z + 2 * aS (goX (doA fs) s0)
    rw [he]
    omega
theorem PD.st {fs : List Fn} {m0 m : Mm} {Z : Nat} {s0 s' : Ac} {r : Option Value ⊕ String} {m' : Mm} (fr : Fr SX m0 m) (hX : RXZ m Z s0) (he : goX (doA fs) s0 = s') (hS : aS s0 ≤ aS s') (h : PM m (stl s') r m') : PD fs m0 Z s0 r m' := by
  obtain ⟨h1, h2, h3⟩ := h
  obtain ⟨S, S1, S2⟩ := hX
  obtain ⟨k, hk⟩ := stl_it (fs := fs) (s := s')
  have e : itX (doA fs) (1 + k) s0 = stl s' := by
    rw [itX_add]
    show itX (doA fs) k (goX (doA fs) s0) = _
    rw [he, hk]
  refine ⟨h1, fr.trans (SR_SX h2), 1 + k, by omega, ?_, S, S1.fr h2, ?_⟩
  · rw [e]
    exact h3
  · rw [e]
    have := aS_stl (s := s')
    omega
section Does
variable {fs : List Fn} {I : Ac → Prop} {Z : Nat}
theorem s12_does (hI : InvG fs I) {m0 m : Mm} {s : Ac} {t : Tk} {l : List Tk} {q : Nat} (s0 : St m0) (fr : Fr SX m0 m) (hF0 : MF m0 fs) (hi : I s) (hE : aE s = 0) (ht : topK s = t :: l) (h : RM m (setK s l)) (hX : RXZ m Z s) (hZ : Z < 2147480000) (hK : TK m q t) :
    C m12_does [.ref 668, .int (mI m 686 q), .int (mI m 687 q), .int (mI m 688 q), .int (mI m 689 q)] m (PD fs m0 Z s) := by
  have hm := fr.st s0
  have hF := hF0.sx fr
  have hgo : goX (doA fs) s = doA fs (setK s l) t := goX_cons hE ht
  obtain ⟨p, hp⟩ : ∃ p, setK s l = p := ⟨_, rfl⟩
  have facts := hI.2.1 s t l hi hE ht
  rw [hp] at h hgo facts
  have hpE : aE p = 0 := by rw [← hp]; exact hE
  have hpS : aS p = aS s := by rw [← hp]; rfl
  obtain ⟨hO, g2, g3, g4, ⟨rk, g5⟩, g6, g7⟩ := facts
  have hb := hO.1
  have hpw := hO.2.2.2.1
  have htop : (topK p).head?.map (fun t => t.1) ≠ some 12 := by
    obtain ⟨-, -, -, -, f5, -⟩ := h.all hpE
    cases e : topK p with
    | nil => intro w; cases w
    | cons z zs =>
      intro w
      refine (f5.no12 z (List.mem_append_left _ (by rw [show lK (aV p (aL p)) = z :: zs from e]; exact List.mem_cons_self))).1 (Option.some.inj w)
  refine C.of (by decide +kernel) (Nat.le_of_ble_eq_true rfl) rfl (w12_does hm ?_)
  obtain ⟨act, x1, x2, x3, tr⟩ := t
  have hAct : act = 0 ∨ act = 1 ∨ act = 2 ∨ act = 3 ∨ act = 4 ∨ act = 5 ∨ act = 6 ∨ act = 9 ∨ act = 13 ∨ act = 14 := by
    unfold TK at hK
    by_cases q0 : act = 0 ∨ act = 1 ∨ act = 2 ∨ act = 3 ∨ act = 4 ∨ act = 5 ∨ act = 6 ∨ act = 9 ∨ act = 13 ∨ act = 14
    · exact q0
    · split at hK <;> first | omega | exact hK.elim
  have no_ : ∀ (a b : Int32) {P : Prop}, a ≠ b → (a = b → P) := fun a b P w q => (w q).elim
  have aD : ∀ t, aS s ≤ aS (doA fs p t) := fun t => by
    rw [← hpS]
    exact aS_do
  rcases hAct with rfl | rfl | rfl | rfl | rfl | rfl | rfl | rfl | rfl | rfl
  · obtain ⟨k1, k2⟩ := (show mI m 686 q = 0 ∧ mI m 687 q = nn x1 from hK)
    rw [k1, k2]
    refine ⟨fun _ => ?_, no_ _ _ (by decide), no_ _ _ (by decide), no_ _ _ (by decide), no_ _ _ (by decide), no_ _ _ (by decide), no_ _ _ (by decide), no_ _ _ (by decide), no_ _ _ (by decide), fun w => (w rfl).elim⟩
    obtain ⟨y1, y2⟩ := g7
    refine C.mono (s12_force hm hF h hpE hO g2 g3 g5 y1 y2 htop) ?_
    intro o1 m1 hP
    exact ⟨hP.1, hP.2.1.st hm, hP.1 ▸ PD.st fr hX hgo (aD _) hP⟩
  · obtain ⟨k1, k2⟩ := (show mI m 686 q = 1 ∧ mI m 687 q = nn x1 from hK)
    rw [k1, k2]
    refine ⟨no_ _ _ (by decide), fun _ => ?_, no_ _ _ (by decide), no_ _ _ (by decide), no_ _ _ (by decide), no_ _ _ (by decide), no_ _ _ (by decide), no_ _ _ (by decide), no_ _ _ (by decide), fun _ w => (w rfl).elim⟩
    refine C.mono (s12_push1 (k := 2) (x := x1) hm h hpE (Nat.lt_of_le_of_lt hb.2.2.2.1 (by decide)) (by omega)) ?_
    rintro o1 m1 ⟨rfl, fr1, R1⟩
    refine ⟨rfl, (SK_SR fr1).st hm, ?_⟩
    refine C.mono (s12_push1 (k := 0) (x := x1) ((SK_SR fr1).st hm) R1 hpE (by rw [allK_push, List.length_append]; exact Nat.lt_of_le_of_lt (Nat.add_le_add (Nat.le_refl 1) hb.2.2.2.1) (by decide)) (by omega)) ?_
    rintro o2 m2 ⟨rfl, fr2, R2⟩
    rw [push_push] at R2
    exact ⟨rfl, ((SK_SR fr1).trans (SK_SR fr2)).st hm, PD.of fr hX hgo (aD _) ⟨rfl, (SK_SR fr1).trans (SK_SR fr2), R2⟩⟩
  · obtain ⟨k1, k2⟩ := (show mI m 686 q = 2 ∧ mI m 687 q = nn x1 from hK)
    rw [k1, k2]
    refine ⟨no_ _ _ (by decide), no_ _ _ (by decide), fun _ => ?_, no_ _ _ (by decide), no_ _ _ (by decide), no_ _ _ (by decide), no_ _ _ (by decide), no_ _ _ (by decide), no_ _ _ (by decide), fun _ _ w => (w rfl).elim⟩
    refine C.mono (s12_parts hm h hpE hb g5 g7 htop) ?_
    intro o1 m1 hP
    exact ⟨hP.1, hP.2.1.st hm, hP.1 ▸ PD.of fr hX hgo (aD _) hP⟩
  · obtain ⟨k1, k2⟩ := (show mI m 686 q = 3 ∧ mI m 687 q = nn x1 from hK)
    rw [k1, k2]
    have hx : x1 < aC p := g7
    refine ⟨no_ _ _ (by decide), no_ _ _ (by decide), no_ _ _ (by decide), fun _ => ⟨nn_in (by omega) (by omega), ?_⟩, no_ _ _ (by decide), no_ _ _ (by decide), no_ _ _ (by decide), no_ _ _ (by decide), no_ _ _ (by decide), fun _ _ _ w => (w rfl).elim⟩
    rw [nn_tn (a := x1) (by omega)]
    obtain ⟨f1, f2, f3, f4, f5, f6⟩ := h.all hpE
    refine PD.of fr hX hgo (aD _) ⟨rfl, Fr.refl.set (Or.inl (by omega)), ?_⟩
    have fr1 : Fr SU m (mSetI m 684 x1 1) := Fr.refl.set (Or.inl (by omega))
    refine h.tf hpE fr1 (n := aC p) (f := aF p) (g := up1 (aM p) x1 1) ⟨f1.1, fun z hz => ?_⟩
    have hh := f1.2 z hz
    refine ⟨hh.1.fe (fun a a1 a2 => by rw [mI_fn (by omega)]), hh.2.1.fe (mI_fn (by omega)) rfl rfl rfl, ?_⟩
    rw [mI_set]
    by_cases e : z = x1
    · rw [e, up1_at, if_pos ⟨rfl, rfl⟩]
      rfl
    · rw [if_neg (by omega), up1_ne e]
      exact hh.2.2
  · obtain ⟨k1, k2, k3, pos, k4, k5, k6⟩ := (show mI m 686 q = 4 ∧ mI m 688 q = nn x1 ∧ mI m 689 q = nn x2 ∧ ∃ pos, mI m 687 q = nn pos ∧ pos + tsz tr ≤ 876 ∧ TC m pos tr from hK)
    rw [k1, k2, k3, k4]
    refine ⟨no_ _ _ (by decide), no_ _ _ (by decide), no_ _ _ (by decide), no_ _ _ (by decide), fun _ => ?_, no_ _ _ (by decide), no_ _ _ (by decide), no_ _ _ (by decide), no_ _ _ (by decide), fun _ _ _ _ w => (w rfl).elim⟩
    obtain ⟨y1, y2, y3, y4, y5, y6⟩ := g7
    have y6 : x3 = 0 := y6
    subst y6
    refine C.mono (s12_match hm hpw.1 h hpE hb y1 k5 k6 y2 y3 y4 y5) ?_
    intro o1 m1 hP
    exact ⟨hP.1, hP.2.1.st hm, hP.1 ▸ PD.of fr hX hgo (aD _) hP⟩
  · obtain ⟨k1, k2, k3, pos, k4, k5, k6⟩ := (show mI m 686 q = 5 ∧ mI m 688 q = nn x1 ∧ mI m 689 q = nn x2 ∧ ∃ pos, mI m 687 q = nn pos ∧ pos + tsz tr ≤ 876 ∧ TC m pos tr from hK)
    rw [k1, k2, k3, k4]
    refine ⟨no_ _ _ (by decide), no_ _ _ (by decide), no_ _ _ (by decide), no_ _ _ (by decide), no_ _ _ (by decide), fun _ => ?_, no_ _ _ (by decide), no_ _ _ (by decide), no_ _ _ (by decide), fun _ _ _ _ _ w => (w rfl).elim⟩
    obtain ⟨y1, y2, y3, y4, y5, y6, ⟨xf, y7⟩, y8, y9⟩ := g7
    refine C.mono (s12_matchData hm hF h hpE hO g5 y1 y2 k5 k6 y3 y4 y5 y6 y7 y8 y9 (fun x hx hk => ?_)) ?_
    · obtain ⟨d1, d2, d3⟩ := g6 x hx hk
      exact ⟨fun w => by rw [d2]; exact decide_eq_true w, fun w => by rw [d3]; exact decide_eq_true w⟩
    intro o1 m1 hP
    exact ⟨hP.1, hP.2.1.st hm, hP.1 ▸ PD.st fr hX hgo (aD _) hP⟩
  · obtain ⟨k1, k2⟩ := (show mI m 686 q = 6 ∧ mI m 687 q = nn x1 from hK)
    rw [k1, k2]
    refine ⟨no_ _ _ (by decide), no_ _ _ (by decide), no_ _ _ (by decide), no_ _ _ (by decide), no_ _ _ (by decide), no_ _ _ (by decide), fun _ => ?_, no_ _ _ (by decide), no_ _ _ (by decide), fun _ _ _ _ _ _ w => (w rfl).elim⟩
    obtain ⟨y1, y2, y3, y4⟩ := g7
    refine C.mono (s12_endCall hm hF h hpE hb hpw hO.2.1 y1 y2 y3 y4 g4) ?_
    intro o1 m1 hP
    exact ⟨hP.1, hP.2.1.st hm, hP.1 ▸ PD.of fr hX hgo (aD _) hP⟩
  · obtain ⟨k1, k2⟩ := (show mI m 686 q = 9 ∧ mI m 687 q = nn x1 from hK)
    rw [k1, k2]
    refine ⟨no_ _ _ (by decide), no_ _ _ (by decide), no_ _ _ (by decide), no_ _ _ (by decide), no_ _ _ (by decide), no_ _ _ (by decide), no_ _ _ (by decide), no_ _ _ (by decide), no_ _ _ (by decide), fun _ _ _ _ _ _ _ _ _ => ?_⟩
    obtain ⟨y1, y2, y3⟩ := g7
    have y1 : x1 < aC p := y1
    refine C.mono (s12_data (k := 1) hm h hpE (by omega)) ?_
    rintro o1 m1 ⟨rfl, fr1, R1⟩
    have fr1' := SU_SR fr1
    refine ⟨rfl, fr1'.st hm, ?_⟩
    obtain ⟨f1, f2, f3, f4, f5, f6⟩ := R1.all hpE
    rw [f3.1]
    have y2 : 1 ≤ aL p := y2
    rw [show nn (aL (data p x1 1 none none)) - 1 = nn (aL p - 1) from nn_pred y2]
    have fr2 : Fr SR m (mSetI m1 668 31 (nn (aL p - 1))) := fr1'.set (Or.inr ⟨rfl, by omega⟩)
    have hne : allK (data p x1 1 none none) = flatB (aV p) (aL p) := by
      show lK (aV p (aL p)) ++ flatB (aV p) (aL p) = _
      rw [show lK (aV p (aL p)) = [] from y3]
      rfl
    rw [hne] at f4 f5
    have hne2 : allK (sL (data p x1 1 none none) (aL p - 1) (aV p)) = flatB (aV p) (aL p) := by
      show flatB (aV p) (aL p - 1 + 1) = _
      rw [show aL p - 1 + 1 = aL p by omega]
    refine PD.of (s' := sL (data p x1 1 none none) (aL p - 1) (aV p)) fr hX hgo (aD (9, x1, x2, x3, tr)) ⟨rfl, fr2, R1.1, fun w => ?_, R1.2.2.1.fe2 (fun a a1 a2 => mI_fn (by omega)), fun _ => ⟨f1.fe (fun a a1 a2 => mI_fn (by omega)) rfl, f2.fe rfl rfl, ⟨?_, fun j hj => ?_⟩, ?_, ?_, f6⟩⟩
    · have w2 : aE p = 5 := w
      omega
    · rw [mI_set, if_pos ⟨rfl, rfl⟩]
      rfl
    · have hj2 : j ≤ aL p - 1 := hj
      have f3' : RV (mSetI (mSetI m1 668 31 (nn (aL p - 1))) 668 31 (nn (aL p))) (aL p) (aV p) := f3.fe (fun a a1 a2 => by rw [mI_fn (by omega), mI_fn (by omega)]) (by simp [mI_set]; exact f3.1.symm)
      exact f3'.2 j (by omega)
    · rw [hne2]
      exact f4
    · rw [hne2]
      exact f5.fe2 rfl (fun a a1 a2 => mI_fn (by omega))
  · obtain ⟨k1, k2⟩ := (show mI m 686 q = 7 ∧ mI m 687 q = nn x3 from hK)
    rw [k1, k2]
    refine ⟨no_ _ _ (by decide), no_ _ _ (by decide), no_ _ _ (by decide), no_ _ _ (by decide), no_ _ _ (by decide), no_ _ _ (by decide), no_ _ _ (by decide), fun _ => ?_, no_ _ _ (by decide), fun _ _ _ _ _ _ _ w => (w rfl).elim⟩
    obtain ⟨y1, y2, y3, y4⟩ := g7
    have hs' : goX (doA fs) s = cs 10 7 p [(x1, x2)] x3 := hgo
    have hi2 := hI.1 _ hi
    rw [hs'] at hi2
    obtain ⟨S, S1, S2⟩ := hX
    refine C.mono (s12_endSame hI hm hF h hpE hb ⟨S, S1, by rw [hpS]; exact S2⟩ hZ hi2 y1 y4 y2 y3) ?_
    rintro o1 m1 ⟨rfl, fr1, k, R1, X1⟩
    refine ⟨rfl, fr1.st hm, rfl, fr.trans fr1, 1 + k, by omega, ?_, ?_⟩
    · rw [itX_add]
      show RM m1 (itX (doA fs) k (goX (doA fs) s))
      rw [hs']
      exact R1
    · rw [itX_add]
      show RXZ m1 Z (itX (doA fs) k (goX (doA fs) s))
      rw [hs']
      exact X1
  · obtain ⟨k1, k2⟩ := (show mI m 686 q = 8 ∧ mI m 687 q = nn x3 from hK)
    rw [k1, k2]
    refine ⟨no_ _ _ (by decide), no_ _ _ (by decide), no_ _ _ (by decide), no_ _ _ (by decide), no_ _ _ (by decide), no_ _ _ (by decide), no_ _ _ (by decide), no_ _ _ (by decide), fun _ => ?_, fun _ _ _ _ _ _ _ _ w => (w rfl).elim⟩
    obtain ⟨y1, y2, y3, y4⟩ := g7
    have hs' : goX (doA fs) s = cs 11 8 p [(x1, x2)] x3 := hgo
    have hi2 := hI.1 _ hi
    rw [hs'] at hi2
    obtain ⟨S, S1, S2⟩ := hX
    refine C.mono (s12_endUnlike hI hm hF h hpE hb ⟨S, S1, by rw [hpS]; exact S2⟩ hi2 y1 y4 y2 y3) ?_
    rintro o1 m1 ⟨rfl, fr1, k, R1, X1⟩
    refine ⟨rfl, fr1.st hm, rfl, fr.trans fr1, 1 + k, by omega, ?_, ?_⟩
    · rw [itX_add]
      show RM m1 (itX (doA fs) k (goX (doA fs) s))
      rw [hs']
      exact R1
    · rw [itX_add]
      show RXZ m1 Z (itX (doA fs) k (goX (doA fs) s))
      rw [hs']
      exact X1
end Does
