/-! WHAT HOLDS IN EVERY RUN: ends of calls, runs within -/
theorem opG_or {o : Nat} : ∀ (ks : List Nat) (n : Nat) (g : Nat → Option Nat) (k y : Nat), (opG o ks n g).1 k = some y → g k = some y ∨ (n ≤ y ∧ y < n + (opG o ks n g).2.length)
  | [], _, _, _, _, h => Or.inl h
  | c :: ks, n, g, k, y, h => by
    unfold opG at h ⊢
    split
    · rename_i w
      rw [if_pos w] at h
      rw [List.length_cons]
      rcases opG_or ks (n + 1) (up1 g c (some n)) k y h with q | q
      · rcases up1_or (f := g) (x := c) (y := k) (v := some n) with ⟨_, e2⟩ | ⟨_, e2⟩
        · rw [e2] at q
          cases q
          exact Or.inr (by omega)
        · rw [e2] at q
          exact Or.inl q
      · exact Or.inr (by omega)
    · rename_i w
      rw [if_neg w] at h
      exact opG_or ks n g k y h
theorem opG_op {o : Nat} : ∀ (ks : List Nat) (n : Nat) (g : Nat → Option Nat) (u : Th), u ∈ (opG o ks n g).2 → u = tOpen o
  | [], _, _, _, h => (List.not_mem_nil h).elim
  | c :: ks, n, g, u, h => by
    unfold opG at h
    split at h
    · rcases List.mem_cons.mp h with e | e
      · exact e
      · exact opG_op ks _ _ u e
    · exact opG_op ks _ _ u h
def rk1 (rk : Nat → Nat) (n c z : Nat) : Nat := if z < n then 2 * rk z + 2 else 2 * rk c + 1
theorem rk1_lt {rk : Nat → Nat} {n c z : Nat} (h : z < n) : rk1 rk n c z = 2 * rk z + 2 := if_pos h
abbrev opsC (s : Ac) (c : Nat) : Ac := opsA s (tT (aF s c)) (tP (aF s c)) (tW (aF s c))
theorem ops_T {fs : List Fn} {s : Ac} {rk : Nat → Nat} {c : Nat} (g : GR s rk) (jt : JT fs s) (hc : c < aC s) (h2 : tK (aF s c) = 2) (hn : tT (aF s c) ≠ .nil) : JT fs (opsC s c) ∧ GR (opsC s c) (rk1 rk (aC s) c) ∧ aC s ≤ aC (opsC s c) ∧ (∀ x, x < aC s → aF (opsC s c) x = aF s x) ∧ NmO (aN (opsC s c) (tP (aF s c))) (aC (opsC s c)) (tT (aF s c)) := by
  obtain ⟨t1, t2, t3⟩ := jt
  obtain ⟨q, hq⟩ : ∃ q, q = opG (tW (aF s c)) (ksA (tT (aF s c))) (aC s) (aN s (tP (aF s c))) := ⟨_, rfl⟩
  have hs : opsC s c = addT (sN s (aP s) (up1 (aN s) (tP (aF s c)) q.1)) q.2 := by rw [hq]; rfl
  have hw := (t1 c hc).2.2.2.2.1 h2
  have hC : aC (opsC s c) = aC s + q.2.length := by rw [hs]; rfl
  have ef : ∀ x, x < aC s → aF (opsC s c) x = aF s x := fun x hx => by rw [hs]; exact app_lt hx
  have en : ∀ x, aC s ≤ x → x < aC s + q.2.length → aF (opsC s c) x = tOpen (tW (aF s c)) := fun x h1 h2 => by
    obtain ⟨i, rfl⟩ := Nat.le.dest h1
    have hi : i < q.2.length := by omega
    rw [hs, show aF (addT (sN s (aP s) (up1 (aN s) (tP (aF s c)) q.1)) q.2) (aC s + i) = q.2[i] from app_at (List.getElem?_eq_getElem hi)]
    refine opG_op (ksA (tT (aF s c))) (aC s) (aN s (tP (aF s c))) _ ?_
    rw [← hq]
    exact List.getElem_mem hi
  have ep : ∀ p, (p = tP (aF s c) ∧ aN (opsC s c) p = q.1) ∨ (p ≠ tP (aF s c) ∧ aN (opsC s c) p = aN s p) := fun p => by
    rw [hs]
    exact up1_or
  have hP : aP (opsC s c) = aP s := by rw [hs]; rfl
  have hqor : ∀ k y, q.1 k = some y → aN s (tP (aF s c)) k = some y ∨ (aC s ≤ y ∧ y < aC s + q.2.length) := fun k y h => by
    rw [hq] at h ⊢
    exact opG_or _ _ _ k y h
  have pd : ∀ z, z < aC s → (tK (aF s z) = 6 ∨ (tK (aF s z) = 2 ∧ tT (aF s z) ≠ .nil)) → tP (aF s z) = tP (aF s c) → z = c := fun z hz h3 h4 => t2 c z hc hz h2 hn h3 h4
  refine ⟨⟨fun z hz => ?_, fun u z hu hz h1 h2' h3 h4 => ?_, fun p k y h => ?_⟩, fun z hz => ?_, by omega, ef, ?_⟩
  · rw [hC] at hz
    by_cases zn : z < aC s
    · obtain ⟨a1, a2, a3, a4, a5, a6, a7⟩ := t1 z zn
      unfold ThO
      rw [ef z zn, hP]
      refine ⟨a1, a2, a3, a4, a5, a6, fun q => ?_⟩
      obtain ⟨b1, b2, b3, b4⟩ := a7 q
      refine ⟨b1, b2, b3, ?_⟩
      rcases ep (tP (aF s z)) with ⟨f1, _⟩ | ⟨_, f2⟩
      · have := pd z zn (Or.inl q) f1
        subst this
        omega
      · rw [f2]
        exact b4.le (by omega)
    · unfold ThO
      rw [en z (by omega) hz]
      exact ⟨show (0 : Nat) < 8 by decide, show (0 : Nat) < 100 by decide, fun _ => ⟨rfl, rfl⟩, fun q => (by cases q), fun q => (by cases q), fun q => absurd q (show ¬ 3 ≤ (0 : Nat) by decide), fun q => by cases q⟩
  · rw [hC] at hu hz
    have old : ∀ w, w < aC s + q.2.length → (tK (aF (opsC s c) w) = 6 ∨ (tK (aF (opsC s c) w) = 2 ∧ tT (aF (opsC s c) w) ≠ .nil)) → w < aC s := fun w hw2 q => by
      by_cases wn : w < aC s
      · exact wn
      · rw [en w (by omega) hw2] at q
        rcases q with q | q
        · cases q
        · cases q.1
    have u1 := old u hu (Or.inr ⟨h1, h2'⟩)
    have z1 := old z hz h3
    rw [ef u u1] at h1 h2' h4
    rw [ef z z1] at h3 h4
    exact t2 u z u1 z1 h1 h2' h3 h4
  · rw [hC]
    rcases ep p with ⟨_, f2⟩ | ⟨_, f2⟩
    · rw [f2] at h
      rcases hqor k y h with q | q
      · have := t3 _ _ _ q
        omega
      · omega
    · rw [f2] at h
      have := t3 _ _ _ h
      omega
  · rw [hC] at hz
    by_cases zn : z < aC s
    · obtain ⟨g1, g2⟩ := g z zn
      rw [ef z zn]
      refine ⟨g1, fun y hy => ?_⟩
      have oldy : Ed s z y → y < aC (opsC s c) ∧ rk1 rk (aC s) c y < rk1 rk (aC s) c z ∧ tW (aF (opsC s c) y) ≤ tW (aF s z) := fun w => by
        obtain ⟨q1, q2, q3⟩ := g2 y w
        rw [rk1_lt zn, rk1_lt q1, hC, ef y q1]
        exact ⟨by omega, by omega, q3⟩
      unfold Ed at hy
      rw [ef z zn] at hy
      rcases hy with w | w | ⟨w1, k, w⟩
      · exact oldy (Or.inl w)
      · exact oldy (Or.inr (Or.inl w))
      · rcases ep (tP (aF s z)) with ⟨f1, f2⟩ | ⟨_, f2⟩
        · rw [f2] at w
          have ez := pd z zn w1 f1
          rcases hqor k y w with w | w
          · exact oldy (Or.inr (Or.inr ⟨w1, k, by rw [f1]; exact w⟩))
          · rw [rk1_lt zn, hC, en y w.1 w.2, ez]
            refine ⟨w.2, ?_, Nat.le_refl _⟩
            unfold rk1
            rw [if_neg (by omega)]
            omega
        · rw [f2] at w
          exact oldy (Or.inr (Or.inr ⟨w1, k, w⟩))
    · have e2 := en z (by omega) hz
      refine ⟨fun q => (by rw [e2] at q; cases q), fun y hy => ?_⟩
      unfold Ed at hy
      rw [e2] at hy
      rcases hy with q | ⟨_, q⟩ | ⟨q | q, _⟩
      · cases q
      · cases q
      · cases q
      · cases q.1
  · rcases ep (tP (aF s c)) with ⟨_, f2⟩ | ⟨f1, _⟩
    · rw [f2, hC, hq]
      exact opG_NmO (hw.2 hn).1 (fun k y h => t3 _ _ _ h) (Nat.le_refl _)
    · exact absurd rfl f1
/-- the things of a tree for a call or a run within -/
abbrev mkL (s : Ac) (o p : Nat) (t : Tr) : Option Nat × List Th := mkA (aN s p) o p t (aC s)
def endT (s : Ac) (c y : Nat) : Ac := link (addT (opsC s c) (mkL (opsC s c) (tW (aF s c)) (tP (aF s c)) (tT (aF s c))).2) c y
theorem end_T {fs : List Fn} (hf8 : fs.length ≤ 8) {s : Ac} {rk : Nat → Nat} {c : Nat} (g : GR s rk) (jt : JT fs s) (hc : c < aC s) (h2 : tK (aF s c) = 2) (hn : tT (aF s c) ≠ .nil) : ∃ y, (mkL (opsC s c) (tW (aF s c)) (tP (aF s c)) (tT (aF s c))).1 = some y ∧ y < aC (endT s c y) ∧ tW (aF (endT s c y) y) ≤ tW (aF s c) ∧ JT fs (endT s c y) ∧ GR (endT s c y) (rkN (rk1 rk (aC s) c) (aC (opsC s c)) c) ∧ Ev s (endT s c y) ∧ (∀ x, x < aC s → x ≠ c → aF (endT s c y) x = aF s x) ∧ (∀ x u, x < aC s → u < aC s → rk x < rk u → rkN (rk1 rk (aC s) c) (aC (opsC s c)) c x < rkN (rk1 rk (aC s) c) (aC (opsC s c)) c u) ∧ rkN (rk1 rk (aC s) c) (aC (opsC s c)) c y < rkN (rk1 rk (aC s) c) (aC (opsC s c)) c c ∧ aF (endT s c y) c = (7, tO (aF s c), some y, tB (aF s c), tW (aF s c), tP (aF s c), tT (aF s c)) := by
  obtain ⟨j2, g2, n2, f2, N2⟩ := ops_T g jt hc h2 hn
  have pd := jt.2.1
  have hw := ((jt.1 c hc).2.2.2.2.1 h2).2 hn
  have c2 : c < aC (opsC s c) := by omega
  obtain ⟨y, hy, hy2⟩ := mkA_nm (g := aN (opsC s c) (tP (aF s c))) (o := tW (aF s c)) (p := tP (aF s c)) hw.1 N2 (aC (opsC s c))
  obtain ⟨L, hL⟩ : ∃ L, L = (mkL (opsC s c) (tW (aF s c)) (tP (aF s c)) (tT (aF s c))).2 := ⟨_, rfl⟩
  have hLl : L.length ≤ 12 := by
    rw [hL]
    exact Nat.le_trans (mkA_len hw.1 _) hw.2.1
  have hP2 : aP (opsC s c) = aP s := rfl
  have edc : ∀ k z, aN (opsC s c) (tP (aF s c)) k = some z → z < aC (opsC s c) ∧ rk1 rk (aC s) c z < rk1 rk (aC s) c c ∧ tW (aF (opsC s c) z) ≤ tW (aF s c) := fun k z hz => by
    have := (g2 c c2).2 z (Or.inr (Or.inr ⟨by rw [f2 c hc]; exact Or.inr ⟨h2, hn⟩, k, by rw [f2 c hc]; exact hz⟩))
    rw [f2 c hc] at this
    exact this
  obtain ⟨a1, a2, a3, a4, a5⟩ := add_T (fs := fs) (s := opsC s c) (rk := rk1 rk (aC s) c) (c := c) (o := tW (aF s c)) (p := tP (aF s c)) (t := tT (aF s c)) (L := L) g2 j2.1 j2.2.2 c2 hLl (by rw [hP2]; exact hw.2.2) N2 hw.2.1 (fun k z hz => (edc k z hz).2) (fun i u hu => by
    rw [hL] at hu ⊢
    exact mkA_spec hf8 hw.1 N2 _ i u hu)
  have es : addT (opsC s c) (mkL (opsC s c) (tW (aF s c)) (tP (aF s c)) (tT (aF s c))).2 = addT (opsC s c) L := by rw [hL]
  have hC : aC (addT (opsC s c) L) = aC (opsC s c) + L.length := rfl
  have ec : aF (addT (opsC s c) L) c = aF s c := by rw [a4 c c2, f2 c hc]
  have yf : y < aC (addT (opsC s c) L) ∧ rkN (rk1 rk (aC s) c) (aC (opsC s c)) c y < rkN (rk1 rk (aC s) c) (aC (opsC s c)) c c ∧ tW (aF (addT (opsC s c) L) y) ≤ tW (aF s c) := by
    rcases hy2 with ⟨k, hk⟩ | ⟨e1, e2⟩
    · obtain ⟨q1, q2, q3⟩ := edc k y hk
      rw [hC, rkN_lt q1, rkN_lt c2, a4 y q1]
      exact ⟨by omega, by omega, q3⟩
    · have e2 : 1 ≤ L.length := by
        rw [hL]
        exact e2
      have := (a5 y (by omega) (by omega)).1
      rw [hC, this, rkN_lt c2]
      refine ⟨by omega, ?_, Nat.le_refl _⟩
      unfold rkN
      rw [if_neg (by omega)]
      omega
  have lk := link_T (fs := fs) (s := addT (opsC s c) L) (x := c) (y := y) a3 a1 (fun u z hu hz e1 e2 h1 h2' h3 h4 => ?_) a2 (by rw [hC]; omega) yf.1 yf.2.1 (by rw [ec]; exact yf.2.2)
  · have eC : aC (endT s c y) = aC (opsC s c) + L.length := by
      unfold endT
      rw [es]
      rfl
    have ef : ∀ x, x ≠ c → aF (endT s c y) x = aF (addT (opsC s c) L) x := fun x hx => by
      unfold endT
      rw [es]
      exact up1_ne hx
    have efo : ∀ x, x < aC s → x ≠ c → aF (endT s c y) x = aF s x := fun x hx hxc => by rw [ef x hxc, a4 x (by omega), f2 x hx]
    have efc : aF (endT s c y) c = (7, tO (aF s c), some y, tB (aF s c), tW (aF s c), tP (aF s c), tT (aF s c)) := by
      unfold endT
      rw [es]
      refine (up1_at).trans ?_
      rw [ec]
    refine ⟨y, hy, by rw [eC]; exact yf.1, ?_, ?_, ?_, ?_, efo, fun x u hx hu hr => ?_, yf.2.1, efc⟩
    · rcases Nat.decEq y c with q | q
      · rw [ef y q]
        exact yf.2.2
      · exact absurd yf.2.1 (by rw [q]; exact Nat.lt_irrefl _)
    · have := lk.1
      unfold endT
      rw [es]
      exact this
    · have := lk.2
      unfold endT
      rw [es]
      exact this
    · exact Ev.chg (x := c) (by rw [eC]; omega) efo (by rw [efc]) (by omega) (by omega)
    · rw [rkN_lt (by omega), rkN_lt (by omega), rk1_lt hx, rk1_lt hu]
      omega
  · have hu : u < aC (opsC s c) + L.length := hu
    have hz : z < aC (opsC s c) + L.length := hz
    by_cases un : u < aC (opsC s c)
    · rw [a4 u un] at h1 h2' h4
      by_cases zn : z < aC (opsC s c)
      · rw [a4 z zn] at h3 h4
        exact j2.2.1 u z un zn h1 h2' h3 h4
      · exfalso
        have sp := a5 z (by omega) hz
        rcases h3 with q | q
        · have e9 := (sp.2.2.2.2.2.2.2.2 q).1
          rw [e9] at h4
          have := j2.2.1 u c un c2 h1 h2' (Or.inr ⟨by rw [f2 c hc]; exact h2, by rw [f2 c hc]; exact hn⟩) (by rw [f2 c hc]; exact h4)
          exact e1 this.symm
        · exact q.2 (sp.2.2.2.2.2.2.1 q.1).1
    · exfalso
      have sp := a5 u (by omega) hu
      exact h2' (sp.2.2.2.2.2.2.1 h1).1
/-- the things of a run within -/
theorem run_T {fs : List Fn} (hf8 : fs.length ≤ 8) {s : Ac} {rk : Nat → Nat} {x o : Nat} (g : GR s rk) (jt : JT fs s) (hx : x < aC s) (h6 : tK (aF s x) = 6) (ho : tW (aF s x) ≤ o) : ∃ y, (mkL s o (tP (aF s x)) (tT (aF s x))).1 = some y ∧ y < aC (addT s (mkL s o (tP (aF s x)) (tT (aF s x))).2) ∧ tW (aF (addT s (mkL s o (tP (aF s x)) (tT (aF s x))).2) y) ≤ o ∧ JT fs (addT s (mkL s o (tP (aF s x)) (tT (aF s x))).2) ∧ GR (addT s (mkL s o (tP (aF s x)) (tT (aF s x))).2) (rkN rk (aC s) x) ∧ (∀ z, z < aC s → aF (addT s (mkL s o (tP (aF s x)) (tT (aF s x))).2) z = aF s z) ∧ (∀ z u, z < aC s → u < aC s → rk z < rk u → rkN rk (aC s) x z < rkN rk (aC s) x u) ∧ rkN rk (aC s) x y < rkN rk (aC s) x x := by
  obtain ⟨t1, t2, t3⟩ := jt
  obtain ⟨w1, w2, w3, w4⟩ := (t1 x hx).2.2.2.2.2.2 h6
  obtain ⟨y, hy, hy2⟩ := mkA_nm (g := aN s (tP (aF s x))) (o := o) (p := tP (aF s x)) w1 w4 (aC s)
  obtain ⟨L, hL⟩ : ∃ L, L = (mkL s o (tP (aF s x)) (tT (aF s x))).2 := ⟨_, rfl⟩
  have hLl : L.length ≤ 12 := by
    rw [hL]
    exact Nat.le_trans (mkA_len w1 _) w2
  have edx : ∀ k z, aN s (tP (aF s x)) k = some z → z < aC s ∧ rk z < rk x ∧ tW (aF s z) ≤ tW (aF s x) := fun k z hz => (g x hx).2 z (Or.inr (Or.inr ⟨Or.inl h6, k, hz⟩))
  obtain ⟨a1, a2, a3, a4, a5⟩ := add_T (fs := fs) (s := s) (rk := rk) (c := x) (o := o) (p := tP (aF s x)) (t := tT (aF s x)) (L := L) g t1 t3 hx hLl w3 w4 w2 (fun k z hz => ⟨(edx k z hz).2.1, by have := (edx k z hz).2.2; omega⟩) (fun i u hu => by
    rw [hL] at hu ⊢
    exact mkA_spec hf8 w1 w4 _ i u hu)
  rw [← hL]
  have hC : aC (addT s L) = aC s + L.length := rfl
  have yf : y < aC (addT s L) ∧ rkN rk (aC s) x y < rkN rk (aC s) x x ∧ tW (aF (addT s L) y) ≤ o := by
    rcases hy2 with ⟨k, hk⟩ | ⟨e1, e2⟩
    · obtain ⟨q1, q2, q3⟩ := edx k y hk
      rw [hC, rkN_lt q1, rkN_lt hx, a4 y q1]
      exact ⟨by omega, by omega, by omega⟩
    · have e2 : 1 ≤ L.length := by
        rw [hL]
        exact e2
      have := (a5 y (by omega) (by omega)).1
      rw [hC, this, rkN_lt hx]
      refine ⟨by omega, ?_, Nat.le_refl _⟩
      unfold rkN
      rw [if_neg (by omega)]
      omega
  refine ⟨y, hy, yf.1, yf.2.2, ⟨a1, fun u z hu hz h1 h2' h3 h4 => ?_, a2⟩, a3, a4, fun z u hz hu hr => by rw [rkN_lt hz, rkN_lt hu]; omega, yf.2.1⟩
  have hu : u < aC s + L.length := hu
  have hz : z < aC s + L.length := hz
  by_cases un : u < aC s
  · rw [a4 u un] at h1 h2' h4
    by_cases zn : z < aC s
    · rw [a4 z zn] at h3 h4
      exact t2 u z un zn h1 h2' h3 h4
    · exfalso
      have sp := a5 z (by omega) hz
      rcases h3 with q | q
      · have e9 := (sp.2.2.2.2.2.2.2.2 q).1
        rw [e9] at h4
        have := t2 u x un hx h1 h2' (Or.inl h6) h4
        rw [this, h1] at h6
        cases h6
      · exact q.2 (sp.2.2.2.2.2.2.1 q.1).1
  · exfalso
    have sp := a5 u (by omega) hu
    exact h2' (sp.2.2.2.2.2.2.1 h1).1
