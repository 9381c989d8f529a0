/-! THE REFERENCE: the ends of SAME and UNLIKE -/
section Same
variable {fs : List Fn} {I : Ac → Prop} {Z u : Nat}
theorem s12_endSame {m : Mm} {s : Ac} {a b : Nat} (hI : InvG fs I) (hm : St m) (hF : MF m fs) (h : RM m s) (hE : aE s = 0) (hb : BD s) (hX : RXZ m Z s) (hZ : Z < 2147480000) (hi : I (cs 10 7 s [(a, b)] u)) (hu : u < aC s) (hw : tW (aF s u) ≤ aL s) (ha : tA (aF s u) = some a) (hb2 : tB (aF s u) = some b) :
    C m12_endSame [.ref 668, .int (nn u)] m (PE fs m Z (cs 10 7 s [(a, b)] u)) := by
  refine C.of (by decide +kernel) (Nat.le_of_ble_eq_true rfl) rfl (u12_endSame hm ?_)
  obtain ⟨f1, f2, f3, f4, f5, f6⟩ := h.all hE
  obtain ⟨⟨t1, t2, t3, t4, t5⟩, -, -⟩ := f1.2 u hu
  have b1 := hb.1
  have hi0 := nn_in (a := u) (n := 6000) (by omega) (by omega)
  have ha2 := (hb.2.2.2.2.2.2.1 u hu).2.2.2.2.1 a ha
  rw [nn_tn (a := u) (by omega), t3, t4, t5, f3.1, f4, ha, hb2]
  have fq : Fr SP m (mSetI m 668 42 0) := Fr.refl.set (Or.inr (Or.inr ⟨rfl, rfl⟩))
  refine ⟨hi0, hi0, hi0, C.mono (s12_pair (Q := []) (fq.st hm) rfl trivial (by decide) (fun z hz => by cases hz; omega) rfl) ?_⟩
  rintro o1 m1 ⟨rfl, fr1, h42, hQ⟩
  have frA : Fr SP m m1 := fq.trans fr1
  obtain ⟨S, S1, S2⟩ := hX
  exact ⟨rfl, frA.st hm, es_loop hI hm hF hZ _ s [(a, b)] m1 (Nat.le_refl _) (SP_SX frA) (h.sp frA) hE hi ⟨S, S1.sp frA, S2⟩ h42 hQ (by show 1 ≤ 2 + aS s; omega) hu hw⟩
theorem dropA_cs {Q : List (Nat × Nat)} {l : List Tk} : dropA ((Q.map (fun q => (11, q.1, q.2, u, .nil)) ++ [(8, u, 0, 0, .nil)]) ++ l) = l := by
  induction Q with
  | nil => rfl
  | cons q Q ih => exact ih
theorem eu_out {m : Mm} {v2 : Int32} {K : Option Value ⊕ String → Mm → Prop} (hm : St m) (he : ¬ mI m 668 29 = 0) (h : K (.inl none) m) {x y : Int32} : V m12_endUnlike 183 [some (.ref 668), some (.int (nn u)), some (.int v2), some (.int x), some (.int y)] [] m K := by
  have h186 : V m12_endUnlike 186 [some (.ref 668), some (.int (nn u)), some (.int v2), none, none] [] m K := u12_endUnlike_186 hm ⟨fun w => (he w).elim, fun _ => h⟩
  refine u12_endUnlike_183 hm (V.w5 (u12_endUnlike_23 hm ⟨fun _ => h186, fun _ => ⟨fun _ => h186, fun w => (he w).elim⟩⟩))
theorem eu_loop {m0 : Mm} (hI : InvG fs I) (hm0 : St m0) (hF0 : MF m0 fs) : ∀ (d : Nat) (s : Ac) (Q : List (Nat × Nat)) (m : Mm), 3 * (100 - aS s) + Q.length ≤ d → Fr SX m0 m → RM m s → aE s = 0 → I (cs 11 8 s Q u) → RXZ m Z s → mI m 668 42 = nn Q.length → PS m Q → Q.length ≤ 2 + aS s → u < aC s → tW (aF s u) ≤ aL s →
    V m12_endUnlike 23 [some (.ref 668), some (.int (nn u)), some (.int 1), none, none] [] m (PE fs m0 Z (cs 11 8 s Q u)) := by
  have nil_ : ∀ (s : Ac) (m : Mm), Fr SX m0 m → RM m s → aE s = 0 → I (cs 11 8 s [] u) → RXZ m Z s → mI m 668 42 = nn 0 → u < aC s → tW (aF s u) ≤ aL s →
      V m12_endUnlike 23 [some (.ref 668), some (.int (nn u)), some (.int 1), none, none] [] m (PE fs m0 Z (cs 11 8 s [] u)) := by
    intro s m fr h hE hi hX h42 hu hw
    have hm := fr.st hm0
    obtain ⟨t1, t2⟩ := cs_nil (k := 11) (e := 8) (s := s) (u := u)
    obtain ⟨g1, g2, g3, g4, g5, g6, g7⟩ := hI.2.1 _ _ _ hi hE t1
    rw [t2] at g1 g4
    have e29 : mI m 668 29 = 0 := by
      have := h.1
      rw [hE] at this
      exact this
    have hiu := nn_in (a := u) (n := 6000) (by omega) (by omega)
    refine u12_endUnlike_23 hm ⟨fun w => absurd w (by decide), fun _ => ⟨fun w => (w e29).elim, fun _ => ⟨fun _ => ?_, fun w => ?_⟩⟩⟩
    · refine u12_endUnlike_186 hm ⟨fun _ => ⟨fun w => absurd w (by decide), fun _ => ⟨hiu, ?_⟩⟩, fun w => (w e29).elim⟩
      obtain ⟨⟨x1, x2, x3, x4, x5⟩, -, -⟩ := (h.all hE).1.2 u hu
      rw [nn_tn (a := u) (by omega), x5]
      refine C.mono (s12_fail (fs := fs) hm (hF0.sx fr).1 g1.2.2.2.1.fp h hE g1.1 g1.2.1 hw (fun q => g1.2.2.1 _ q hw)) ?_
      rintro o1 m1 ⟨rfl, fr1, R1⟩
      have frA := fr.trans (SR_SX fr1)
      refine ⟨rfl, frA.st hm0, u12_endUnlike_217 (frA.st hm0) ?_⟩
      obtain ⟨S, S1, S2⟩ := hX
      obtain ⟨k, hk⟩ := stl_it (fs := fs) (s := failA s (tW (aF s u)))
      refine PE.at0 frA ⟨1 + k, ?_⟩ R1 ⟨S, S1.fr fr1, ?_⟩
      · rw [itX_add]
        show itX (doA fs) k (goX (doA fs) _) = _
        rw [goX_cons (show aE (cs 11 8 s [] u) = 0 from hE) t1, t2]
        exact hk
      · have h1 := aS_stl (s := failA s (tW (aF s u)))
        rw [aS_fail] at h1
        omega
    · rw [h42] at w
      exact absurd (by decide) w
  intro d
  induction d with
  | zero =>
    intro s Q m hd fr h hE hi hX h42 hQ hQl hu hw
    cases Q with
    | nil => exact nil_ s m fr h hE hi hX h42 hu hw
    | cons _ _ => simp at hd
  | succ d ih =>
    intro s Q m hd fr h hE hi hX h42 hQ hQl hu hw
    have hm := fr.st hm0
    cases Q with
    | nil => exact nil_ s m fr h hE hi hX h42 hu hw
    | cons q Q =>
      obtain ⟨a, b⟩ := q
      simp only [List.length_cons] at hd hQl h42
      obtain ⟨t1, t2⟩ := cs_cons (k := 11) (e := 8) (s := s) (Q := Q) (u := u) (a := a) (b := b)
      obtain ⟨g1, g2, g3, g4, ⟨rk, g5⟩, g6, g7⟩ := hI.2.1 _ _ _ hi hE t1
      have hgo := hI.1 _ hi
      have ego : goX (doA fs) (cs 11 8 s ((a, b) :: Q) u) = askA (cs 11 8 s Q u) (root s a) (root s b) u := by
        rw [goX_cons (show aE (cs 11 8 s ((a, b) :: Q) u) = 0 from hE) t1, t2]
        rfl
      rw [t2] at g1 g4 g5 g6 g7
      have hO : OKs fs s := g1.un
      obtain ⟨a1, b1, u1, ka, kb, uw⟩ := g7
      have a1 : a < aC s := a1
      have b1 : b < aC s := b1
      have ka : tK (aF s (root s a)) < 2 := ka
      have kb : tK (aF s (root s b)) < 2 := kb
      have g5 : LkR (aC s) (aF s) rk := g5
      have g4 : aC s ≤ 4900 := g4
      have hb := hO.1
      have bS := hb.2.2.2.2.1
      obtain ⟨ra1, ra2⟩ := root_end g5 a1
      obtain ⟨rb1, rb2⟩ := root_end g5 b1
      obtain ⟨x, hx⟩ : ∃ x, root s a = x := ⟨_, rfl⟩
      obtain ⟨y, hy⟩ : ∃ y, root s b = y := ⟨_, rfl⟩
      rw [hx] at ra2 ka ego
      rw [hy] at rb2 kb ego
      have e29 : mI m 668 29 = 0 := by
        have := h.1
        rw [hE] at this
        exact this
      have l0 : nn (Q.length + 1) ≤ 0 ↔ Q.length + 1 ≤ 0 := nn_le (b := 0) (by omega) (by decide)
      have hiq := nn_in (a := Q.length) (n := 6000) (by omega) (by omega)
      have hix := nn_in (a := x) (n := 6000) (by omega) (by omega)
      have hiy := nn_in (a := y) (n := 6000) (by omega) (by omega)
      refine u12_endUnlike_23 hm ⟨fun w => absurd w (by decide), fun _ => ⟨fun w => (w e29).elim, fun _ => ?_⟩⟩
      rw [h42, l0, nn_pred (by omega), Nat.add_sub_cancel, nn_tn (a := Q.length) (by omega), hQ.1]
      refine ⟨fun w => by omega, fun _ => ⟨hiq, ?_⟩⟩
      have fq : Fr SP m (mSetI m 668 42 (nn Q.length)) := Fr.refl.set (Or.inr (Or.inr ⟨rfl, rfl⟩))
      refine C.mono (s12_root2 (fq.st hm) (h.sp fq) hE hb g5 a1) ?_
      rintro o1 m1 ⟨rfl, rfl⟩
      refine ⟨_, rfl, fq.st hm, ?_⟩
      rw [show mI (mSetI m 668 42 (nn Q.length)) 668 42 = nn Q.length from rfl, nn_tn (a := Q.length) (by omega), show mI (mSetI m 668 42 (nn Q.length)) 700 Q.length = nn b from hQ.2.1]
      refine ⟨hiq, C.mono (s12_root2 (fq.st hm) (h.sp fq) hE hb g5 b1) ?_⟩
      rintro o2 m2 ⟨rfl, rfl⟩
      refine ⟨_, rfl, fq.st hm, ?_⟩
      rw [hx, hy]
      obtain ⟨M, hM⟩ : ∃ M, mSetI m 668 42 (nn Q.length) = M := ⟨_, rfl⟩
      rw [hM] at fq ⊢
      have frM : Fr SX m0 M := fr.trans (SP_SX fq)
      have sM := frM.st hm0
      have RM1 := h.sp fq
      have hQM : PS M Q := hQ.2.2.fe (fun i _ => by rw [← hM]; exact ⟨rfl, rfl⟩)
      have h42M : mI M 668 42 = nn Q.length := by rw [← hM]; rfl
      obtain ⟨S, S1, S2⟩ := hX
      have SM := S1.sp fq
      have exy : nn x = nn y ↔ x = y := nn_eq (by omega) (by omega)
      obtain ⟨f1, f2, f3, f4, f5, f6⟩ := RM1.all hE
      obtain ⟨⟨x1, x2, x3, x4, x5⟩, -, -⟩ := f1.2 x ra2
      obtain ⟨⟨y1, y2, y3, y4, y5⟩, -, -⟩ := f1.2 y rb2
      have ekx : nn (tK (aF s x)) = 0 ↔ tK (aF s x) = 0 := nn_eq (b := 0) (by omega) (by decide)
      have eky : nn (tK (aF s y)) = 0 ↔ tK (aF s y) = 0 := nn_eq (b := 0) (by omega) (by decide)
      rw [exy, nn_tn (a := x) (by omega), nn_tn (a := y) (by omega), x1, ekx, y1, eky]
      -- on with the loop
      have next : ∀ (s2 : Ac) (Q2 : List (Nat × Nat)) (m2 : Mm) {x6 x10 : Int32}, 3 * (100 - aS s2) + Q2.length ≤ d → Fr SX m0 m2 → RM m2 s2 → aE s2 = 0 → goX (doA fs) (cs 11 8 s ((a, b) :: Q) u) = cs 11 8 s2 Q2 u → RXZ m2 Z s2 → mI m2 668 42 = nn Q2.length → PS m2 Q2 → Q2.length ≤ 2 + aS s2 → aC s2 = aC s → tW (aF s2 u) = tW (aF s u) → aL s2 = aL s →
          V m12_endUnlike 183 [some (.ref 668), some (.int (nn u)), some (.int 1), some (.int x6), some (.int x10)] [] m2 (PE fs m0 Z (cs 11 8 s ((a, b) :: Q) u)) := by
        intro s2 Q2 m2 x6 x10 w1 w2 w3 w4 w5 w6 w7 w8 w9 w10 w11 w12
        refine u12_endUnlike_183 (w2.st hm0) (V.w5 (V.mono ?_ (fun o m' hh => PE.go hh)))
        rw [w5]
        rw [w5] at hgo
        exact ih s2 Q2 m2 w1 w2 w3 w4 hgo w6 w7 w8 w9 (by rw [w10]; exact hu) (by rw [w11, w12]; exact hw)
      have flo : ¬ x = y → (tK (aF s x) = 0 ∨ tK (aF s y) = 0) → V m12_endUnlike 105 [some (.ref 668), some (.int (nn u)), some (.int 1), some (.int (nn x)), some (.int (nn y))] [] M (PE fs m0 Z (cs 11 8 s ((a, b) :: Q) u)) := fun w1 w2 => by
        refine u12_endUnlike_105 sM (eu_out (St.i sM) (by rw [mI_set, if_pos ⟨rfl, rfl⟩]; decide) ?_)
        have fr3 : Fr SR M (mSetI M 668 29 3) := Fr.refl.set (Or.inr ⟨rfl, by omega⟩)
        refine PE.at0 (frM.trans (SR_SX fr3)) ⟨1, ?_⟩ (rm_ep (l := Q.map (fun q => (11, q.1, q.2, u, .nil)) ++ [(8, u, 0, 0, .nil)]) (by decide) (RM1.sE (e := 3) (by decide) (by decide) rfl (fun a a1 a2 => mI_fn (by omega)))) ⟨S, SM.fr fr3, S2⟩
        show goX (doA fs) _ = _
        rw [ego]
        unfold askA
        rw [if_neg w1]
        exact if_pos w2
      refine ⟨fun w => ?_, fun w => ⟨hix, fun w2 => flo w (Or.inl w2), fun w2 => ⟨hiy, fun w3 => ?_, fun w3 => flo w (Or.inr w3)⟩⟩⟩
      · have e : goX (doA fs) (cs 11 8 s ((a, b) :: Q) u) = cs 11 8 s Q u := by
          rw [ego]
          unfold askA
          rw [if_pos w]
        refine u12_endUnlike_113 sM ⟨fun _ => next s Q M (by omega) frM RM1 hE e ⟨S, SM, S2⟩ h42M hQM (by omega) rfl rfl rfl, fun q => (q (exy.mpr w)).elim⟩
      · refine u12_endUnlike_113 sM ⟨fun q => (w (exy.mp q)).elim, fun _ => ?_⟩
        refine C.mono (s12_step sM RM1 hE bS) ?_
        rintro o3 m3 ⟨rfl, fr3, R3⟩
        have fr3' : Fr SB M m3 := fr3.mono (fun a j q => Or.inl (by unfold SR; omega))
        have frB := frM.trans (SB_SX fr3')
        have s3 := frB.st hm0
        have X3 : RX m3 S := SM.fr (fr3.mono (fun a j q => by unfold SR; omega))
        have Q3 : PS m3 Q := hQM.sb fr3'
        have h423 : mI m3 668 42 = nn Q.length := (fr3.i (by omega)).trans h42M
        refine ⟨rfl, s3, hix, hiy, ?_⟩
        have ex : tO (aF s x) < 100 := (hb.2.2.2.2.2.2.1 x ra2).2.1
        have ey : tO (aF s y) < 100 := (hb.2.2.2.2.2.2.1 y rb2).2.1
        have eo : nn (tO (aF s x)) = nn (tO (aF s y)) ↔ tO (aF s x) = tO (aF s y) := nn_eq (by omega) (by omega)
        rw [nn_tn (a := x) (by omega), nn_tn (a := y) (by omega), fr3.i (a := 678) (by omega), fr3.i (a := 678) (by omega), x2 (by omega), y2 (by omega), eo]
        obtain ⟨d1, d2, d3⟩ := g6 x ra2 (by show tK (aF s x) = 1; omega)
        obtain ⟨d4, d5, d6⟩ := g6 y rb2 (by show tK (aF s y) = 1; omega)
        have d2 : (tA (aF s x)).isSome = decide (2 ≤ tO (aF s x)) := d2
        have d3 : (tB (aF s x)).isSome = decide (4 ≤ tO (aF s x)) := d3
        have d5 : (tA (aF s y)).isSome = decide (2 ≤ tO (aF s y)) := d5
        have d6 : (tB (aF s y)).isSome = decide (4 ≤ tO (aF s y)) := d6
        obtain ⟨-, -, -, -, q5, q6⟩ := hb.2.2.2.2.2.2.1 x ra2
        have a680 : ∀ z, mI m3 680 z = mI M 680 z := fun z => fr3.i (by omega)
        have a679 : ∀ z, mI m3 679 z = mI M 679 z := fun z => fr3.i (by omega)
        -- both pairs
        have two : tO (aF s x) = tO (aF s y) → ∀ (K : Option Value ⊕ String → Mm → Prop), (∀ m5, Fr SP m3 m5 → mI m5 668 42 = nn (oq (tA (aF s x)) (tA (aF s y)) ++ (oq (tB (aF s x)) (tB (aF s y)) ++ Q)).length → PS m5 (oq (tA (aF s x)) (tA (aF s y)) ++ (oq (tB (aF s x)) (tB (aF s y)) ++ Q)) → V m12_endUnlike 183 [some (.ref 668), some (.int (nn u)), some (.int 1), some (.int (nn x)), some (.int (nn y))] [] m5 K) →
            V m12_endUnlike 144 [some (.ref 668), some (.int (nn u)), some (.int 1), some (.int (nn x)), some (.int (nn y))] [(.int 1)] m3 K := by
          intro w4 K hK
          refine u12_endUnlike_144 s3 ⟨fun q => absurd q (by decide), fun _ => ⟨hix, hiy, ?_⟩⟩
          rw [nn_tn (a := x) (by omega), nn_tn (a := y) (by omega), a680, a680, x4, y4]
          refine C.mono (s12_pair s3 h423 Q3 (by omega) (fun z hz => by have := q6 z hz; omega) (by rw [d3, d6, w4])) ?_
          rintro o4 m4 ⟨rfl, fr4, h424, Q4⟩
          have l1 := oq_len (tB (aF s x)) (tB (aF s y))
          have frC := frB.trans (SP_SX fr4)
          refine ⟨rfl, frC.st hm0, hix, hiy, ?_⟩
          rw [fr4.i (a := 679) (by unfold SP; omega), fr4.i (a := 679) (by unfold SP; omega), a679, a679, x3, y3]
          refine C.mono (s12_pair (frC.st hm0) h424 Q4 (by rw [List.length_append]; omega) (fun z hz => by have := q5 z hz; omega) (by rw [d2, d5, w4])) ?_
          rintro o5 m5 ⟨rfl, fr5, h425, Q5⟩
          exact ⟨rfl, (frC.trans (SP_SX fr5)).st hm0, hK m5 (fr4.trans fr5) h425 Q5⟩
        by_cases hS : aS s = 100
        · have est : stepA s = sE s 4 := if_pos hS
          rw [est] at R3
          have e29' : mI m3 668 29 = nn 4 := R3.1
          have fin : ∀ m5, Fr SP m3 m5 → ∀ {v2 : Int32}, V m12_endUnlike 183 [some (.ref 668), some (.int (nn u)), some (.int v2), some (.int (nn x)), some (.int (nn y))] [] m5 (PE fs m0 Z (cs 11 8 s ((a, b) :: Q) u)) := fun m5 f5 {v2} => by
            have frC := frB.trans (SP_SX f5)
            refine eu_out (frC.st hm0) (by rw [f5.i (by unfold SP; omega), e29']; decide) ?_
            refine PE.at0 frC ⟨1, ?_⟩ (rm_ep (l := Q.map (fun q => (11, q.1, q.2, u, .nil)) ++ [(8, u, 0, 0, .nil)]) (by decide) (R3.sp f5)) ⟨S, X3.sp f5, S2⟩
            show goX (doA fs) _ = _
            rw [ego]
            unfold askA
            rw [if_neg w, if_neg (show ¬ (tK (aF (cs 11 8 s Q u) x) = 0 ∨ tK (aF (cs 11 8 s Q u) y) = 0) from fun q => q.elim w2 w3), show stepA (cs 11 8 s Q u) = sE (cs 11 8 s Q u) 4 from if_pos hS]
            exact if_neg (show ¬ (4 : Nat) = 0 by decide)
          refine ⟨fun _ => u12_endUnlike_144 s3 ⟨fun _ => fin m3 Fr.refl, fun q => (q rfl).elim⟩, fun w4 => two w4 _ (fun m5 f5 _ _ => fin m5 f5)⟩
        · have est : stepA s = sS s (aS s + 1) := if_neg hS
          rw [est] at R3
          have ego2 : askA (cs 11 8 s Q u) x y u = (if tO (aF s x) = tO (aF s y) then push (cs 11 8 (sS s (aS s + 1)) Q u) (pairs 11 s x y u) else data (setK (cs 11 8 (sS s (aS s + 1)) Q u) (dropA (topK (cs 11 8 (sS s (aS s + 1)) Q u)))) u 1 none none) := by
            unfold askA
            rw [if_neg w, if_neg (show ¬ (tK (aF (cs 11 8 s Q u) x) = 0 ∨ tK (aF (cs 11 8 s Q u) y) = 0) from fun q => q.elim w2 w3), show stepA (cs 11 8 s Q u) = sS (cs 11 8 s Q u) (aS s + 1) from if_neg hS]
            exact if_pos hE
          refine ⟨fun w4 => ?_, fun w4 => two w4 _ (fun m5 f5 h425 Q5 => ?_)⟩
          · rw [if_neg w4] at ego2
            have ed : setK (cs 11 8 (sS s (aS s + 1)) Q u) (dropA (topK (cs 11 8 (sS s (aS s + 1)) Q u))) = sS s (aS s + 1) := by
              have e1 : topK (cs 11 8 (sS s (aS s + 1)) Q u) = (Q.map (fun q => (11, q.1, q.2, u, .nil)) ++ [(8, u, 0, 0, .nil)]) ++ topK (sS s (aS s + 1)) := topK_push
              rw [e1, dropA_cs]
              exact setK_push.trans setK_self
            rw [ed] at ego2
            have e29' : mI m3 668 29 = 0 := by
              have := R3.1
              rw [show aE (sS s (aS s + 1)) = 0 from hE] at this
              exact this
            refine u12_endUnlike_144 s3 ⟨fun _ => u12_endUnlike_183 s3 (V.w5 (u12_endUnlike_23 s3 ⟨fun _ => u12_endUnlike_186 s3 ⟨fun _ => ⟨fun _ => ?_, fun q => (q rfl).elim⟩, fun q => (q e29').elim⟩, fun q => (q rfl).elim⟩)), fun q => (q rfl).elim⟩
            refine C.mono (s12_data (k := 1) s3 R3 hE (by show u < 6000; omega)) ?_
            rintro o4 m4 ⟨rfl, fr4, R4⟩
            have frC := frB.trans (SR_SX (SU_SR fr4))
            refine ⟨rfl, frC.st hm0, u12_endUnlike_217 (frC.st hm0) ?_⟩
            refine PE.at0 frC ⟨1, ?_⟩ R4 ⟨S, X3.fr (SU_SR fr4), by show S ≤ Z + 2 * (aS s + 1); omega⟩
            show goX (doA fs) _ = _
            rw [ego, ego2]
          · rw [if_pos w4] at ego2
            have l1 := oq_len (tB (aF s x)) (tB (aF s y))
            have l2 := oq_len (tA (aF s x)) (tA (aF s y))
            refine next (sS s (aS s + 1)) (oq (tA (aF s x)) (tA (aF s y)) ++ (oq (tB (aF s x)) (tB (aF s y)) ++ Q)) m5 ?_ (frB.trans (SP_SX f5)) (R3.sp f5) hE ?_ ⟨S, X3.sp f5, by show S ≤ Z + 2 * (aS s + 1); omega⟩ h425 Q5 ?_ rfl rfl rfl
            · simp only [List.length_append]
              show 3 * (100 - (aS s + 1)) + _ ≤ d
              omega
            · rw [ego, ego2]
              unfold cs pairs
              rw [push_push, pairs_map, pairs_map, List.map_append, List.map_append, List.append_assoc, List.append_assoc, List.append_assoc]
            · simp only [List.length_append]
              show _ ≤ 2 + (aS s + 1)
              omega
theorem s12_endUnlike {m : Mm} {s : Ac} {a b : Nat} (hI : InvG fs I) (hm : St m) (hF : MF m fs) (h : RM m s) (hE : aE s = 0) (hb : BD s) (hX : RXZ m Z s) (hi : I (cs 11 8 s [(a, b)] u)) (hu : u < aC s) (hw : tW (aF s u) ≤ aL s) (ha : tA (aF s u) = some a) (hb2 : tB (aF s u) = some b) :
    C m12_endUnlike [.ref 668, .int (nn u)] m (PE fs m Z (cs 11 8 s [(a, b)] u)) := by
  refine C.of (by decide +kernel) (Nat.le_of_ble_eq_true rfl) rfl (u12_endUnlike hm ?_)
  obtain ⟨f1, f2, f3, f4, f5, f6⟩ := h.all hE
  obtain ⟨⟨t1, t2, t3, t4, t5⟩, -, -⟩ := f1.2 u hu
  have b1 := hb.1
  have hi0 := nn_in (a := u) (n := 6000) (by omega) (by omega)
  have ha2 := (hb.2.2.2.2.2.2.1 u hu).2.2.2.2.1 a ha
  rw [nn_tn (a := u) (by omega), t3, t4, ha, hb2]
  have fq : Fr SP m (mSetI m 668 42 0) := Fr.refl.set (Or.inr (Or.inr ⟨rfl, rfl⟩))
  refine ⟨hi0, hi0, C.mono (s12_pair (Q := []) (fq.st hm) rfl trivial (by decide) (fun z hz => by cases hz; omega) rfl) ?_⟩
  rintro o1 m1 ⟨rfl, fr1, h42, hQ⟩
  have frA : Fr SP m m1 := fq.trans fr1
  obtain ⟨S, S1, S2⟩ := hX
  exact ⟨rfl, frA.st hm, eu_loop hI hm hF _ s [(a, b)] m1 (Nat.le_refl _) (SP_SX frA) (h.sp frA) hE hi ⟨S, S1.sp frA, S2⟩ h42 hQ (by show 1 ≤ 2 + aS s; omega) hu hw⟩
end Same
