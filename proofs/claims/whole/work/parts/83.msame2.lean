/-! THE REFERENCE: uniting and asking, to the end -/
/-- an invariant that gives what is needed -/
def InvG (fs : List Fn) (I : Ac → Prop) : Prop := (∀ s, I s → I (goX (doA fs) s)) ∧ (∀ s t l, I s → aE s = 0 → topK s = t :: l → FactsA fs (setK s l) t) ∧ (∀ s, I s → aE s = 0 → topK s = [] → aL s = 0) ∧ ∀ s, I s → aE s ≤ 5
theorem goX_cons {d : Ac → Tk → Ac} {s : Ac} {t : Tk} {l : List Tk} (hE : aE s = 0) (h : topK s = t :: l) : goX d s = d (setK s l) t := by
  unfold goX
  rw [if_pos hE, h]
theorem rm_ep {m : Mm} {s : Ac} {l : List Tk} {e : Nat} (he : 2 ≤ e) (h : RM m (sE s e)) : RM m (sE (push s l) e) := by
  refine ⟨h.1, h.2.1, ?_, fun q => by have : e < 2 := q; omega⟩
  show RD m 0 (lD (aV (push s l) 0)) (lG (aV (push s l) 0))
  rw [(aV_push (s := s) (l := l) 0).1, (aV_push (s := s) (l := l) 0).2.1]
  exact h.2.2.1
section Same
variable {fs : List Fn} {I : Ac → Prop} {m0 : Mm} {Z u : Nat}
def PE (fs : List Fn) (m0 : Mm) (Z : Nat) (s0 : Ac) : Option Value ⊕ String → Mm → Prop := fun r m' => r = .inl none ∧ Fr SX m0 m' ∧ ∃ k, RM m' (itX (doA fs) k s0) ∧ RXZ m' Z (itX (doA fs) k s0)
theorem PE.go {s0 : Ac} {r : Option Value ⊕ String} {m' : Mm} (h : PE fs m0 Z (goX (doA fs) s0) r m') : PE fs m0 Z s0 r m' := by
  obtain ⟨h1, h2, k, h3, h4⟩ := h
  exact ⟨h1, h2, k + 1, h3, h4⟩
theorem PE.at0 {s0 s' : Ac} {m' : Mm} (hf : Fr SX m0 m') (h : ∃ k, itX (doA fs) k s0 = s') (hR : RM m' s') (hX : RXZ m' Z s') : PE fs m0 Z s0 (.inl none) m' := by
  obtain ⟨k, rfl⟩ := h
  exact ⟨rfl, hf, k, hR, hX⟩
/-- the way out, with nothing more to do -/
theorem es_out {m : Mm} {v2 v3 v4 x6 x10 : Int32} {K : Option Value ⊕ String → Mm → Prop} (hm : St m) (h : K (.inl none) m) : V m12_endSame 262 [some (.ref 668), some (.int (nn u)), some (.int v2), some (.int v3), some (.int v4), some (.int 0), some (.int x6), some (.int x10)] [] m K := by
  have h301 : V m12_endSame 42 [some (.ref 668), some (.int (nn u)), some (.int v2), some (.int v3), some (.int v4), some (.int 0), none, none] [] m K := u12_endSame_42 hm ⟨fun _ => u12_endSame_301 hm ⟨fun _ => u12_endSame_312 hm h, fun w => (w rfl).elim⟩, fun w => (w rfl).elim⟩
  refine u12_endSame_262 hm ⟨fun _ => u12_endSame_295 hm (u12_endSame_296 hm (u12_endSame_298 hm (V.weak (L' := [some (.ref 668), some (.int (nn u)), some (.int v2), some (.int v3), some (.int v4), some (.int 0), none, none]) rfl (fun i v hi => by
    match i, hi with
    | 0, hi => exact hi
    | 1, hi => exact hi
    | 2, hi => exact hi
    | 3, hi => exact hi
    | 4, hi => exact hi
    | 5, hi => exact hi
    | 6, hi => cases hi
    | 7, hi => cases hi
    | n + 8, hi => cases hi) h301))), fun w => (w rfl).elim⟩
theorem es_loop (hI : InvG fs I) (hm0 : St m0) (hF0 : MF m0 fs) (hZ : Z < 2147480000) : ∀ (d : Nat) (s : Ac) (Q : List (Nat × Nat)) (m : Mm), 3 * (100 - aS s) + Q.length ≤ d → Fr SX m0 m → RM m s → aE s = 0 → I (cs 10 7 s Q u) → RXZ m Z s → mI m 668 42 = nn Q.length → PS m Q → Q.length ≤ 2 + aS s → u < aC s → tW (aF s u) ≤ aL s →
    V m12_endSame 42 [some (.ref 668), some (.int (nn u)), some (.int (nn (tW (aF s u)))), some (.int (nn (aL s))), some (.int (nn (allK s).length)), some (.int 1), none, none] [] m (PE fs m0 Z (cs 10 7 s Q u)) := by
  intro d
  induction d with
  | zero =>
    intro s Q m hd fr h hE hi hX h42 hQ hQl hu hw
    obtain rfl : Q = [] := by
      cases Q with
      | nil => rfl
      | cons _ _ => simp at hd
    have hm := fr.st hm0
    obtain ⟨t1, t2⟩ := cs_nil (k := 10) (e := 7) (s := s) (u := u)
    obtain ⟨g1, g2, g3, g4, g5, g6, g7⟩ := hI.2.1 _ _ _ hi hE t1
    refine u12_endSame_42 hm ⟨fun w => absurd w (by decide), fun _ => ⟨fun _ => ?_, fun w => ?_⟩⟩
    · refine u12_endSame_301 hm ⟨fun w => absurd w (by decide), fun _ => ?_⟩
      rw [t2] at g4
      refine C.mono (s12_data (k := 1) hm h hE (by omega)) ?_
      rintro o1 m1 ⟨rfl, fr1, R1⟩
      have frA := fr.trans (SR_SX (SU_SR fr1))
      refine ⟨rfl, frA.st hm0, u12_endSame_312 (frA.st hm0) ?_⟩
      obtain ⟨S, S1, S2⟩ := hX
      refine PE.at0 frA ⟨1, ?_⟩ R1 ⟨S, S1.fr (SU_SR fr1), S2⟩
      show goX (doA fs) _ = _
      rw [goX_cons (show aE (cs 10 7 s [] u) = 0 from hE) t1, t2]
      rfl
    · rw [h42] at w
      exact absurd (by decide) w
  | succ d ih =>
    intro s Q m hd fr h hE hi hX h42 hQ hQl hu hw
    have hm := fr.st hm0
    cases Q with
    | nil => exact (show V m12_endSame 42 _ [] m _ from by
        obtain ⟨t1, t2⟩ := cs_nil (k := 10) (e := 7) (s := s) (u := u)
        obtain ⟨g1, g2, g3, g4, g5, g6, g7⟩ := hI.2.1 _ _ _ hi hE t1
        refine u12_endSame_42 hm ⟨fun w => absurd w (by decide), fun _ => ⟨fun _ => ?_, fun w => ?_⟩⟩
        · refine u12_endSame_301 hm ⟨fun w => absurd w (by decide), fun _ => ?_⟩
          rw [t2] at g4
          refine C.mono (s12_data (k := 1) hm h hE (by omega)) ?_
          rintro o1 m1 ⟨rfl, fr1, R1⟩
          have frA := fr.trans (SR_SX (SU_SR fr1))
          refine ⟨rfl, frA.st hm0, u12_endSame_312 (frA.st hm0) ?_⟩
          obtain ⟨S, S1, S2⟩ := hX
          refine PE.at0 frA ⟨1, ?_⟩ R1 ⟨S, S1.fr (SU_SR fr1), S2⟩
          show goX (doA fs) _ = _
          rw [goX_cons (show aE (cs 10 7 s [] u) = 0 from hE) t1, t2]
          rfl
        · rw [h42] at w
          exact absurd (by decide) w)
    | cons q Q =>
      obtain ⟨a, b⟩ := q
      simp only [List.length_cons] at hd hQl h42
      obtain ⟨t1, t2⟩ := cs_cons (k := 10) (e := 7) (s := s) (Q := Q) (u := u) (a := a) (b := b)
      obtain ⟨g1, g2, g3, g4, ⟨rk, g5⟩, g6, g7⟩ := hI.2.1 _ _ _ hi hE t1
      have hgo := hI.1 _ hi
      have ego : goX (doA fs) (cs 10 7 s ((a, b) :: Q) u) = uniteA (cs 10 7 s Q u) (root s a) (root s b) u := by
        rw [goX_cons (show aE (cs 10 7 s ((a, b) :: Q) u) = 0 from hE) t1, t2]
        rfl
      rw [t2] at g1 g4 g5 g6 g7
      have hO : OKs fs s := g1.un
      obtain ⟨a1, b1, u1, ka, kb, uw⟩ := g7
      have a1 : a < aC s := a1
      have b1 : b < aC s := b1
      have ka : tK (aF s (root s a)) < 2 := ka
      have kb : tK (aF s (root s b)) < 2 := kb
      have g5 : LkR (aC s) (aF s) rk := g5
      have g4 : aC s ≤ 4900 := g4
      have hb := hO.1
      have bS := hb.2.2.2.2.1
      obtain ⟨ra1, ra2⟩ := root_end g5 a1
      obtain ⟨rb1, rb2⟩ := root_end g5 b1
      obtain ⟨x, hx⟩ : ∃ x, root s a = x := ⟨_, rfl⟩
      obtain ⟨y, hy⟩ : ∃ y, root s b = y := ⟨_, rfl⟩
      rw [hx] at ra2 ka ego
      rw [hy] at rb2 kb ego
      have l0 : nn (Q.length + 1) ≤ 0 ↔ Q.length + 1 ≤ 0 := nn_le (b := 0) (by omega) (by decide)
      have hiq := nn_in (a := Q.length) (n := 6000) (by omega) (by omega)
      have hix := nn_in (a := x) (n := 6000) (by omega) (by omega)
      have hiy := nn_in (a := y) (n := 6000) (by omega) (by omega)
      refine u12_endSame_42 hm ⟨fun w => absurd w (by decide), fun _ => ?_⟩
      rw [h42, l0, nn_pred (by omega), Nat.add_sub_cancel, nn_tn (a := Q.length) (by omega), hQ.1]
      refine ⟨fun w => by omega, fun _ => ⟨hiq, ?_⟩⟩
      have fq : Fr SP m (mSetI m 668 42 (nn Q.length)) := Fr.refl.set (Or.inr (Or.inr ⟨rfl, rfl⟩))
      refine C.mono (s12_root2 (fq.st hm) (h.sp fq) hE hb g5 a1) ?_
      rintro o1 m1 ⟨rfl, rfl⟩
      refine ⟨_, rfl, fq.st hm, ?_⟩
      rw [show mI (mSetI m 668 42 (nn Q.length)) 668 42 = nn Q.length from rfl, nn_tn (a := Q.length) (by omega), show mI (mSetI m 668 42 (nn Q.length)) 700 Q.length = nn b from hQ.2.1]
      refine ⟨hiq, C.mono (s12_root2 (fq.st hm) (h.sp fq) hE hb g5 b1) ?_⟩
      rintro o2 m2 ⟨rfl, rfl⟩
      refine ⟨_, rfl, fq.st hm, ?_⟩
      rw [hx, hy]
      obtain ⟨M, hM⟩ : ∃ M, mSetI m 668 42 (nn Q.length) = M := ⟨_, rfl⟩
      rw [hM] at fq ⊢
      have frM : Fr SX m0 M := fr.trans (SP_SX fq)
      have sM := frM.st hm0
      have RM1 := h.sp fq
      have hQM : PS M Q := hQ.2.2.fe (fun i _ => by rw [← hM]; exact ⟨rfl, rfl⟩)
      have h42M : mI M 668 42 = nn Q.length := by rw [← hM]; rfl
      obtain ⟨S, S1, S2⟩ := hX
      have SM := S1.sp fq
      have exy : nn x = nn y ↔ x = y := nn_eq (by omega) (by omega)
      rw [exy]
      -- on with the loop
      have next : ∀ (s2 : Ac) (Q2 : List (Nat × Nat)) (m2 : Mm) {x6 x10 : Int32}, 3 * (100 - aS s2) + Q2.length ≤ d → Fr SX m0 m2 → RM m2 s2 → aE s2 = 0 → goX (doA fs) (cs 10 7 s ((a, b) :: Q) u) = cs 10 7 s2 Q2 u → RXZ m2 Z s2 → mI m2 668 42 = nn Q2.length → PS m2 Q2 → Q2.length ≤ 2 + aS s2 → aC s2 = aC s → tW (aF s2 u) = tW (aF s u) → aL s2 = aL s → allK s2 = allK s →
          V m12_endSame 298 [some (.ref 668), some (.int (nn u)), some (.int (nn (tW (aF s u)))), some (.int (nn (aL s))), some (.int (nn (allK s).length)), some (.int 1), some (.int x6), some (.int x10)] [] m2 (PE fs m0 Z (cs 10 7 s ((a, b) :: Q) u)) := by
        intro s2 Q2 m2 x6 x10 w1 w2 w3 w4 w5 w6 w7 w8 w9 w10 w11 w12 w13
        refine u12_endSame_298 (w2.st hm0) (V.weak (L' := [some (.ref 668), some (.int (nn u)), some (.int (nn (tW (aF s u)))), some (.int (nn (aL s))), some (.int (nn (allK s).length)), some (.int 1), none, none]) rfl (fun i v hi => by
          match i, hi with
          | 0, hi => exact hi
          | 1, hi => exact hi
          | 2, hi => exact hi
          | 3, hi => exact hi
          | 4, hi => exact hi
          | 5, hi => exact hi
          | 6, hi => cases hi
          | 7, hi => cases hi
          | n + 8, hi => cases hi) (V.mono ?_ (fun o m' hh => PE.go hh)))
        rw [w5, ← w11, ← w12, ← w13]
        rw [w5] at hgo
        exact ih s2 Q2 m2 w1 w2 w3 w4 hgo w6 w7 w8 w9 (by rw [w10]; exact hu) (by rw [w11, w12]; exact hw)
      have cont : ∀ (s2 : Ac) (Q2 : List (Nat × Nat)) (m2 : Mm) {x6 x10 : Int32}, 3 * (100 - aS s2) + Q2.length ≤ d → Fr SX m0 m2 → RM m2 s2 → aE s2 = 0 → goX (doA fs) (cs 10 7 s ((a, b) :: Q) u) = cs 10 7 s2 Q2 u → RXZ m2 Z s2 → mI m2 668 42 = nn Q2.length → PS m2 Q2 → Q2.length ≤ 2 + aS s2 → aC s2 = aC s → tW (aF s2 u) = tW (aF s u) → aL s2 = aL s → allK s2 = allK s →
          V m12_endSame 262 [some (.ref 668), some (.int (nn u)), some (.int (nn (tW (aF s u)))), some (.int (nn (aL s))), some (.int (nn (allK s).length)), some (.int 1), some (.int x6), some (.int x10)] [] m2 (PE fs m0 Z (cs 10 7 s ((a, b) :: Q) u)) := by
        intro s2 Q2 m2 x6 x10 w1 w2 w3 w4 w5 w6 w7 w8 w9 w10 w11 w12 w13
        obtain ⟨f1, f2, f3, f4, f5, f6⟩ := w3.all w4
        have e29 : mI m2 668 29 = 0 := by
          have := w3.1
          rw [w4] at this
          exact this
        refine u12_endSame_262 (w2.st hm0) ⟨fun q => absurd q (by decide), fun _ => ⟨fun q => (q e29).elim, fun _ => ⟨fun q => (q (by rw [f3.1, w12])).elim, fun _ => ⟨fun q => (q (by rw [f4, w13])).elim, fun _ => u12_endSame_296 (w2.st hm0) (next s2 Q2 m2 w1 w2 w3 w4 w5 w6 w7 w8 w9 w10 w11 w12 w13)⟩⟩⟩⟩
      refine ⟨fun w => ?_, fun w => ?_⟩
      · have e : goX (doA fs) (cs 10 7 s ((a, b) :: Q) u) = cs 10 7 s Q u := by
          rw [ego]
          unfold uniteA
          rw [if_pos w]
        exact next s Q M (by omega) frM RM1 hE e ⟨S, SM, S2⟩ h42M hQM (by omega) rfl rfl rfl rfl
      · refine C.mono (s12_step sM RM1 hE bS) ?_
        rintro o3 m3 ⟨rfl, fr3, R3⟩
        have fr3' : Fr SB M m3 := fr3.mono (fun a j q => Or.inl (by unfold SR; omega))
        have frB := frM.trans (SB_SX fr3')
        have s3 := frB.st hm0
        have X3 : RX m3 S := SM.fr (fr3.mono (fun a j q => by unfold SR; omega))
        have Q3 : PS m3 Q := hQM.sb fr3'
        have h423 : mI m3 668 42 = nn Q.length := (fr3.i (by omega)).trans h42M
        refine ⟨rfl, s3, ?_⟩
        by_cases hS : aS s = 100
        · have est : stepA s = sE s 4 := if_pos hS
          rw [est] at R3
          have e29 : mI m3 668 29 = nn 4 := R3.1
          rw [e29]
          refine ⟨fun q => absurd q (by decide), fun _ => es_out s3 ?_⟩
          refine PE.at0 frB ⟨1, ?_⟩ (rm_ep (l := Q.map (fun q => (10, q.1, q.2, u, .nil)) ++ [(7, u, 0, 0, .nil)]) (by decide) R3) ⟨S, X3, S2⟩
          show goX (doA fs) _ = _
          rw [ego]
          unfold uniteA
          rw [if_neg w, show stepA (cs 10 7 s Q u) = sE (cs 10 7 s Q u) 4 from if_pos hS]
          exact if_neg (show ¬ (4 : Nat) = 0 by decide)
        · have est : stepA s = sS s (aS s + 1) := if_neg hS
          rw [est] at R3
          have e29 : mI m3 668 29 = nn (aE s) := R3.1
          rw [e29, hE]
          refine ⟨fun _ => ?_, fun q => (q rfl).elim⟩
          have ego2 : uniteA (cs 10 7 s Q u) x y u = (if tK (aF s x) = 0 then bindA (cs 10 7 (sS s (aS s + 1)) Q u) x y (tW (aF s u)) else if tK (aF s y) = 0 then bindA (cs 10 7 (sS s (aS s + 1)) Q u) y x (tW (aF s u)) else if tO (aF s x) = tO (aF s y) then push (cs 10 7 (sS s (aS s + 1)) Q u) (pairs 10 s x y u) else failA (cs 10 7 (sS s (aS s + 1)) Q u) (tW (aF s u))) := by
            unfold uniteA
            rw [if_neg w, show stepA (cs 10 7 s Q u) = sS (cs 10 7 s Q u) (aS s + 1) from if_neg hS]
            exact if_pos hE
          obtain ⟨s1, hs1⟩ : ∃ s1, sS s (aS s + 1) = s1 := ⟨_, rfl⟩
          have hO1 : OKs fs s1 := by
            obtain ⟨⟨c1, c2, c3, c4, c5, c6⟩, d2⟩ := hO
            rw [← hs1]
            exact ⟨⟨c1, c2, c3, c4, by show aS s + 1 ≤ 100; omega, c6⟩, d2⟩
          have p1 : aC s1 = aC s := by rw [← hs1]; rfl
          have p2 : aF s1 = aF s := by rw [← hs1]; rfl
          have p3 : aL s1 = aL s := by rw [← hs1]; rfl
          have p4 : allK s1 = allK s := by rw [← hs1]; rfl
          have p5 : aS s1 = aS s + 1 := by rw [← hs1]; rfl
          have p6 : aE s1 = 0 := by rw [← hs1]; exact hE
          have p7 : ∀ z, root s1 z = root s z := fun z => by rw [← hs1]; rfl
          rw [hs1] at R3 ego2
          obtain ⟨f1, f2, f3, f4, f5, f6⟩ := R3.all p6
          obtain ⟨⟨x1, x2, x3, x4, x5⟩, -, -⟩ := f1.2 x (by rw [p1]; exact ra2)
          obtain ⟨⟨y1, y2, y3, y4, y5⟩, -, -⟩ := f1.2 y (by rw [p1]; exact rb2)
          rw [p2] at x1 x2 x3 x4 y1 y2 y3 y4
          have ekx : nn (tK (aF s x)) = 0 ↔ tK (aF s x) = 0 := nn_eq (b := 0) (by omega) (by decide)
          have eky : nn (tK (aF s y)) = 0 ↔ tK (aF s y) = 0 := nn_eq (b := 0) (by omega) (by decide)
          rw [nn_tn (a := x) (by omega), nn_tn (a := y) (by omega), x1, ekx, y1, eky]
          have hl1 : LkR (aC s1) (aF s1) rk := by rw [p1, p2]; exact g5
          have Slt : S + 1 < 2147483600 := by omega
          -- binding
          have bnd : ∀ (z z' : Nat), z < aC s → z' < aC s → tK (aF s z) = 0 → goX (doA fs) (cs 10 7 s ((a, b) :: Q) u) = bindA (cs 10 7 s1 Q u) z z' (tW (aF s u)) → ∀ (X Y : Int32), (∀ (m4 : Mm) (v : Int32), St m4 → C m12_bind [.ref 668, .int (nn z), .int (nn z'), .int (nn (tW (aF s u)))] m4 (fun o m5 => o = .inl none ∧ St m5 ∧ V m12_endSame 262 [some (.ref 668), some (.int (nn u)), some (.int (nn (tW (aF s u)))), some (.int (nn (aL s))), some (.int (nn (allK s).length)), some (.int v), some (.int X), some (.int Y)] [] m5 (PE fs m0 Z (cs 10 7 s ((a, b) :: Q) u))) → True) →
              ∀ (m4 : Mm) (v : Int32), Fr SN m3 m4 → RX m4 (S + 1) → (v = 0 ↔ Rc s z' z) → (¬ v = 0 → v = 1) →
              C m12_bind [.ref 668, .int (nn z), .int (nn z'), .int (nn (tW (aF s u)))] m4 (fun o m5 => o = .inl none ∧ St m5 ∧ V m12_endSame 262 [some (.ref 668), some (.int (nn u)), some (.int (nn (tW (aF s u)))), some (.int (nn (aL s))), some (.int (nn (allK s).length)), some (.int v), some (.int X), some (.int Y)] [] m5 (PE fs m0 Z (cs 10 7 s ((a, b) :: Q) u))) := by
            intro z z' hz hz' hkz he X Y _ m4 v fr4 X4 hv hv1
            have frC := frB.trans (SB_SX (SN_SB fr4))
            have R4 := R3.sn fr4
            refine C.mono (s12_bind (fs := fs) (o := tW (aF s u)) (frC.st hm0) (hF0.sx frC) R4 p6 hO1 hl1 X4 Slt (by rw [p1]; exact hz) (by rw [p1]; exact hz') (by rw [p2]; exact hkz) (by rw [p3]; exact hw)) ?_
            rintro o5 m5 ⟨rfl, fr5, X5, R5, R6⟩
            have frD := frC.trans (SB_SX fr5)
            have eRc : Rc s1 z' z ↔ Rc s z' z := by rw [← hs1]; exact Iff.rfl
            refine ⟨rfl, frD.st hm0, ?_⟩
            by_cases q : Rc s z' z
            · rw [hv.mpr q]
              refine es_out (frD.st hm0) ?_
              have R7 := fail_push (l := Q.map (fun q => (10, q.1, q.2, u, .nil)) ++ [(7, u, 0, 0, .nil)]) (by rw [p3]; exact hw) (R5 (eRc.mpr q))
              obtain ⟨k, hk⟩ := stl_it (fs := fs) (s := failA (cs 10 7 s1 Q u) (tW (aF s u)))
              refine PE.at0 frD ⟨1 + k, ?_⟩ R7 ⟨S + 2, X5, ?_⟩
              · rw [itX_add]
                show itX (doA fs) k (goX (doA fs) _) = _
                rw [he]
                have : bindA (cs 10 7 s1 Q u) z z' (tW (aF s u)) = failA (cs 10 7 s1 Q u) (tW (aF s u)) := by
                  unfold bindA
                  exact if_pos (eRc.mpr q)
                rw [this]
                exact hk
              · have h1 := aS_stl (s := failA (cs 10 7 s1 Q u) (tW (aF s u)))
                rw [aS_fail] at h1
                have h2 : aS (cs 10 7 s1 Q u) = aS s + 1 := p5
                show S + 2 ≤ Z + 2 * aS (stl (failA (cs 10 7 s1 Q u) (tW (aF s u))))
                omega
            · obtain ⟨R8, R9⟩ := R6 (fun w => q (eRc.mp w))
              have v1 : v = 1 := hv1 (fun w => q (hv.mp w))
              rw [v1]
              have hbe : ∀ t, bindA s1 z z' (tW (aF s u)) = t → (t = link s1 z z' ∨ t = link s1 z' z ∨ t = sE s1 3) → True := fun _ _ _ => trivial
              have lk : ∀ (c e : Nat), bindA s1 z z' (tW (aF s u)) = link s1 c e → bindA (cs 10 7 s1 Q u) z z' (tW (aF s u)) = link (cs 10 7 s1 Q u) c e → V m12_endSame 262 [some (.ref 668), some (.int (nn u)), some (.int (nn (tW (aF s u)))), some (.int (nn (aL s))), some (.int (nn (allK s).length)), some (.int 1), some (.int X), some (.int Y)] [] m5 (PE fs m0 Z (cs 10 7 s ((a, b) :: Q) u)) := by
                intro c e h1 h2
                rw [h1] at R8
                refine cont (link s1 c e) Q m5 (by show 3 * (100 - aS s1) + Q.length ≤ d; omega) frD R8 p6 (by rw [he, h2]; rfl) ⟨S + 2, X5, by show S + 2 ≤ Z + 2 * aS s1; omega⟩ ?_ ?_ (by show Q.length ≤ 2 + aS s1; omega) p1 ?_ p3 p4
                · rw [fr5.i (by unfold SB SR SN; omega), fr4.i (by unfold SN; omega)]
                  exact h423
                · exact (Q3.sb (SN_SB fr4)).sb fr5
                · show tW (up1 (aF s1) c _ u) = _
                  by_cases e2 : u = c
                  · rw [e2, up1_at, p2]
                  · rw [up1_ne e2, p2]
              by_cases w1 : tW (aF s1 z) = tW (aF s u)
              · refine lk z z' ?_ ?_
                · unfold bindA
                  rw [if_neg (fun w => q (eRc.mp w)), if_pos w1]
                · unfold bindA
                  exact (if_neg (show ¬ Rc (cs 10 7 s1 Q u) z' z from fun w => q (eRc.mp w))).trans (if_pos w1)
              · by_cases w2 : tK (aF s1 z') = 0 ∧ tW (aF s1 z') = tW (aF s u)
                · refine lk z' z ?_ ?_
                  · unfold bindA
                    rw [if_neg (fun w => q (eRc.mp w)), if_neg w1, if_pos w2]
                  · unfold bindA
                    exact (if_neg (show ¬ Rc (cs 10 7 s1 Q u) z' z from fun w => q (eRc.mp w))).trans ((if_neg w1).trans (if_pos w2))
                · have e1 : bindA s1 z z' (tW (aF s u)) = sE s1 3 := by
                    unfold bindA
                    rw [if_neg (fun w => q (eRc.mp w)), if_neg w1, if_neg w2]
                  have e2 : bindA (cs 10 7 s1 Q u) z z' (tW (aF s u)) = sE (cs 10 7 s1 Q u) 3 := by
                    unfold bindA
                    exact (if_neg (show ¬ Rc (cs 10 7 s1 Q u) z' z from fun w => q (eRc.mp w))).trans ((if_neg w1).trans (if_neg w2))
                  rw [e1] at R8
                  have e29' : ¬ mI m5 668 29 = 0 := by
                    rw [R8.1]
                    exact (by decide : ¬ nn 3 = 0)
                  refine u12_endSame_262 (frD.st hm0) ⟨fun q => absurd q (by decide), fun _ => ⟨fun _ => ?_, fun q => (e29' q).elim⟩⟩
                  refine u12_endSame_295 (frD.st hm0) (u12_endSame_296 (frD.st hm0) (u12_endSame_298 (frD.st hm0) (V.weak (L' := [some (.ref 668), some (.int (nn u)), some (.int (nn (tW (aF s u)))), some (.int (nn (aL s))), some (.int (nn (allK s).length)), some (.int 0), none, none]) rfl (fun i v hi => by
                    match i, hi with
                    | 0, hi => exact hi
                    | 1, hi => exact hi
                    | 2, hi => exact hi
                    | 3, hi => exact hi
                    | 4, hi => exact hi
                    | 5, hi => exact hi
                    | 6, hi => cases hi
                    | 7, hi => cases hi
                    | n + 8, hi => cases hi) (u12_endSame_42 (frD.st hm0) ⟨fun _ => u12_endSame_301 (frD.st hm0) ⟨fun _ => u12_endSame_312 (frD.st hm0) ?_, fun w => (w rfl).elim⟩, fun w => (w rfl).elim⟩))))
                  refine PE.at0 frD ⟨1, ?_⟩ (rm_ep (l := Q.map (fun q => (10, q.1, q.2, u, .nil)) ++ [(7, u, 0, 0, .nil)]) (by decide) R8) ⟨S + 2, X5, by show S + 2 ≤ Z + 2 * aS s1; omega⟩
                  show goX (doA fs) _ = _
                  rw [he, e2]
                  rfl
          refine ⟨hix, fun kx => ⟨hiy, fun ky => ⟨hix, hiy, ?_⟩, fun ky => ?_⟩, fun kx => ?_⟩
          · have kx1 : tK (aF s x) = 1 := by omega
            have ky1 : tK (aF s y) = 1 := by omega
            have ex : tO (aF s x) < 100 := (hb.2.2.2.2.2.2.1 x ra2).2.1
            have ey : tO (aF s y) < 100 := (hb.2.2.2.2.2.2.1 y rb2).2.1
            have eo : nn (tO (aF s x)) = nn (tO (aF s y)) ↔ tO (aF s x) = tO (aF s y) := nn_eq (by omega) (by omega)
            rw [x2 (by omega), y2 (by omega), eo]
            rw [if_neg kx, if_neg ky] at ego2
            refine ⟨fun w2 => ⟨hix, hiy, ?_⟩, fun w2 => ?_⟩
            · rw [if_pos w2] at ego2
              obtain ⟨d1, d2, d3⟩ := g6 x ra2 kx1
              obtain ⟨d4, d5, d6⟩ := g6 y rb2 ky1
              have d2 : (tA (aF s x)).isSome = decide (2 ≤ tO (aF s x)) := d2
              have d3 : (tB (aF s x)).isSome = decide (4 ≤ tO (aF s x)) := d3
              have d5 : (tA (aF s y)).isSome = decide (2 ≤ tO (aF s y)) := d5
              have d6 : (tB (aF s y)).isSome = decide (4 ≤ tO (aF s y)) := d6
              rw [x4, y4]
              obtain ⟨-, -, -, -, q5, q6⟩ := hb.2.2.2.2.2.2.1 x ra2
              refine C.mono (s12_pair s3 h423 Q3 (by omega) (fun z hz => by have := q6 z hz; omega) (by rw [d3, d6, w2])) ?_
              rintro o4 m4 ⟨rfl, fr4, h424, Q4⟩
              have l1 := oq_len (tB (aF s x)) (tB (aF s y))
              have l2 := oq_len (tA (aF s x)) (tA (aF s y))
              have frC := frB.trans (SP_SX fr4)
              refine ⟨rfl, frC.st hm0, hix, hiy, ?_⟩
              rw [fr4.i (a := 679) (by unfold SP; omega), fr4.i (a := 679) (by unfold SP; omega), x3, y3]
              refine C.mono (s12_pair (frC.st hm0) h424 Q4 (by rw [List.length_append]; omega) (fun z hz => by have := q5 z hz; omega) (by rw [d2, d5, w2])) ?_
              rintro o5 m5 ⟨rfl, fr5, h425, Q5⟩
              have frD := frC.trans (SP_SX fr5)
              refine ⟨rfl, frD.st hm0, ?_⟩
              refine cont s1 (oq (tA (aF s x)) (tA (aF s y)) ++ (oq (tB (aF s x)) (tB (aF s y)) ++ Q)) m5 ?_ frD ((R3.sp fr4).sp fr5) p6 ?_ ⟨S, (X3.sp fr4).sp fr5, by rw [p5]; omega⟩ h425 Q5 ?_ p1 (by rw [p2]) p3 p4
              · simp only [List.length_append]
                omega
              · rw [ego, ego2]
                unfold cs pairs
                rw [push_push, pairs_map, pairs_map, List.map_append, List.map_append, List.append_assoc, List.append_assoc, List.append_assoc]
              · simp only [List.length_append]
                omega
            · rw [if_neg w2] at ego2
              refine C.mono (s12_fail (fs := fs) s3 (hF0.sx frB).1 hO1.2.2.2.1.fp R3 p6 hO1.1 hO1.2.1 (by rw [p3]; exact hw) (fun q => hO1.2.2.1 _ q (by rw [p3]; exact hw))) ?_
              rintro o4 m4 ⟨rfl, fr4, R4⟩
              have frC := frB.trans (SR_SX fr4)
              refine ⟨rfl, frC.st hm0, es_out (frC.st hm0) ?_⟩
              have R7 := fail_push (l := Q.map (fun q => (10, q.1, q.2, u, .nil)) ++ [(7, u, 0, 0, .nil)]) (by rw [p3]; exact hw) R4
              obtain ⟨k, hk⟩ := stl_it (fs := fs) (s := failA (cs 10 7 s1 Q u) (tW (aF s u)))
              refine PE.at0 frC ⟨1 + k, ?_⟩ R7 ⟨S, X3.fr fr4, ?_⟩
              · rw [itX_add]
                show itX (doA fs) k (goX (doA fs) _) = _
                rw [ego, ego2]
                exact hk
              · have h1 := aS_stl (s := failA (cs 10 7 s1 Q u) (tW (aF s u)))
                rw [aS_fail] at h1
                have h2 : aS (cs 10 7 s1 Q u) = aS s + 1 := p5
                show S ≤ Z + 2 * aS (stl (failA (cs 10 7 s1 Q u) (tW (aF s u))))
                omega
          · rw [if_neg kx, if_pos ky] at ego2
            refine C.mono (s12_isIn s3 R3 p6 hO1.1 hl1 X3 (by omega) (x := y) (y := x) (by rw [p1]; exact rb2) (by rw [p1]; exact ra2)) ?_
            rintro o4 m4 ⟨fr4, X4, v, rfl, hv⟩
            have eRc : Rc s1 x y ↔ Rc s x y := by rw [← hs1]; exact Iff.rfl
            rw [eRc] at hv
            have s4 := (frB.trans (SB_SX (SN_SB fr4))).st hm0
            refine ⟨v, rfl, s4, fun w2 => u12_endSame_184 s4 ?_, fun w2 => u12_endSame_184 s4 ?_⟩
            · exact bnd y x rb2 ra2 ky (ego.trans ego2) (nn x) (nn y) (fun _ _ _ _ => trivial) m4 0 fr4 X4 ⟨fun _ => hv.mp w2, fun _ => rfl⟩ (fun w => (w rfl).elim)
            · exact bnd y x rb2 ra2 ky (ego.trans ego2) (nn x) (nn y) (fun _ _ _ _ => trivial) m4 1 fr4 X4 ⟨fun w => absurd w (by decide), fun q => (hv.mpr q w2).elim⟩ (fun _ => rfl)
          · rw [if_pos kx] at ego2
            refine C.mono (s12_isIn s3 R3 p6 hO1.1 hl1 X3 (by omega) (x := x) (y := y) (by rw [p1]; exact ra2) (by rw [p1]; exact rb2)) ?_
            rintro o4 m4 ⟨fr4, X4, v, rfl, hv⟩
            have eRc : Rc s1 y x ↔ Rc s y x := by rw [← hs1]; exact Iff.rfl
            rw [eRc] at hv
            have s4 := (frB.trans (SB_SX (SN_SB fr4))).st hm0
            refine ⟨v, rfl, s4, fun w2 => u12_endSame_144 s4 ?_, fun w2 => u12_endSame_144 s4 ?_⟩
            · exact bnd x y ra2 rb2 kx (ego.trans ego2) (nn x) (nn y) (fun _ _ _ _ => trivial) m4 0 fr4 X4 ⟨fun _ => hv.mp w2, fun _ => rfl⟩ (fun w => (w rfl).elim)
            · exact bnd x y ra2 rb2 kx (ego.trans ego2) (nn x) (nn y) (fun _ _ _ _ => trivial) m4 1 fr4 X4 ⟨fun w => absurd w (by decide), fun q => (hv.mpr q w2).elim⟩ (fun _ => rfl)
end Same
