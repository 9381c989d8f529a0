/-! THE OTHER ONE: binding, uniting -/
/-- a look changes nothing else -/
theorem HM.sl {fs : List Fn} {m m' : Mm} {s : Ac} {rh : Nat → Nat} {pd : Prop} (h : HM m s rh pd) (hE : aE s = 0) (hO : QOK fs s) (f : Fr SLc m m') (hL : HL m' (aC s) (aS s) rh) : HM m' s rh pd := by
  obtain ⟨f1, f2, f3, f4, f5, f6, f7, f8⟩ := h.all hE
  obtain ⟨b1, b2, b3, b4, b5, b6, b7, b8, b9, b10, b11⟩ := hO
  have e8 : ∀ a j, ¬ SLc a j → mI m' a j = mI m a j := fun a j q => f.i q
  have ef : ∀ a, a ≠ 13 → a ≠ 21 → a ≠ 22 → mI m' a = mI m a := fun a a1 a2 a3 => f.fn (fun j => by unfold SLc; omega)
  refine h.gen (fs := fs) hE hE (e8 12 12 (by unfold SLc; omega)) (h.2.2.1.fe (fun a i a1 a2 _ => by rw [ef a (by omega) (by omega) (by omega)])) ⟨f1.fe (fs := fs) (fun x hx => (b7 x hx).1) (SLc_zr f).up (fun a a1 a2 => ef a (by omega) (by omega) (by omega)) (e8 13 9 (by unfold SLc; omega)) (fun _ _ => by rw [f.r]), f2.fe b2 (fun a a1 a2 => ef a (by omega) (by omega) (by omega)) (e8 12 8 (by unfold SLc; omega)), f3.fe (fun a a1 a2 => ef a (by omega) (by omega) (by omega)) (e8 12 9 (by unfold SLc; omega)) (fun _ _ _ => rfl), (e8 23 4 (by unfold SLc; omega)).trans f4, f5.fe2 (fs := fs) (fun t ht => (b10 t ht).1) (SLc_zr f).up (fun a a1 a2 => ef a (by omega) (by omega) (by omega)) (ef 18 (by decide) (by decide) (by decide)) f.r, (e8 12 11 (by unfold SLc; omega)).trans f6, (e8 12 10 (by unfold SLc; omega)).trans f7, hL⟩
theorem s3_bind {fs : List Fn} {m : Mm} {s : Ac} {rh : Nat → Nat} {x y o k : Nat} {rk : Nat → Nat} (hm : St m) (h : HM m s rh False) (hE : aE s = 0) (hO : QOK fs s) (hl : LkR (aC s) (aF s) rk) (hDK : ∀ x, x < aC s → DKx s x) (hk : HL m (aC s) k rh) (hkS : k < aS s) (hx : x < aC s) (hy : y < aC s) (ho : tW (aF s x) ≤ 101) (ho2 : o ≤ 101) (hsg : ∀ j, 1 ≤ j → j ≤ aL s → lX (aV s j) < aC s) (hF : FOK s o) (npd : ¬ pdT s) : C m3_bind [.ref 12, .int (nn (rh x)), .int (nn (rh y)), .int (nn o)] m (PQ m (bindA s x y o) rh) := by
  refine C.of (by decide +kernel) (Nat.le_of_ble_eq_true rfl) rfl (w3_bind hm ?_)
  obtain ⟨f1, f2, f3, f4, f5, f6, f7, f8⟩ := h.all hE
  obtain ⟨k0, k1, k2, k3⟩ := hk
  have b5 := hO.2.2.2.2.1
  have b7 := hO.2.2.2.2.2.2.1
  have b1 := hO.1
  have hrx := f1.2.1 x hx
  have hry := f1.2.1 y hy
  have hi := nn_in (a := rh x) (n := 3500) (by omega) (by omega)
  have hj := nn_in (a := rh y) (n := 3500) (by omega) (by omega)
  refine C.mono (s10_isIn hm f1 hO hl hDK (by omega) k2 (fun z hz => by
    obtain ⟨j, j1, j2⟩ := k3 z hz
    exact ⟨j, j1, j2⟩) hx hy) ?_
  rintro o1 m1 ⟨fr1, hL, v, rfl, hv⟩
  have s1 := fr1.st hm
  have z1 := SLc_zr fr1
  have R1 : HM m1 s rh False := h.sl hE hO fr1 (by
    obtain ⟨q0, q1, q2, q3⟩ := hL
    exact ⟨q0, by omega, q2, q3⟩)
  obtain ⟨g1, -⟩ := R1.all hE
  obtain ⟨⟨t1, t2, t3, t4, t5⟩, -⟩ := g1.2.2.2 x hx
  obtain ⟨⟨v1, v2, v3, v4, v5⟩, -⟩ := g1.2.2.2 y hy
  have ex : nn (tW (aF s x)) = nn o ↔ tW (aF s x) = o := nn_eq (by omega) (by omega)
  have ey : nn (tW (aF s y)) = nn o ↔ tW (aF s y) = o := nn_eq (by have := (b7 y hy).2.2.2.1; omega) (by omega)
  refine ⟨v, rfl, s1, ?_⟩
  rw [nn_tn (a := rh x) (by omega), nn_tn (a := rh y) (by omega), t5, v5, v1, ex, ey, tg7 (b7 y hy).2.1]
  have flo : bindA s x y o = sE s 3 → PQ m (bindA s x y o) rh (.inl none) (mSetI m1 12 12 2) := by
    intro e
    rw [e]
    have fr : Fr (fun a j => a = 12 ∧ j = 12) m1 (mSetI m1 12 12 2) := Fr.refl.set ⟨rfl, rfl⟩
    exact ⟨rfl, z1.trans (fr.zr (fun a j q => by omega)), fr.st s1, (R1.sE (by decide) (by decide) (by rw [mI_set, if_pos ⟨rfl, rfl⟩]; rfl) (fun a a1 a2 => mI_fn (by omega))).fin (fun w => absurd w (show ¬ 3 < 2 by decide))⟩
  have lk2 : ∀ {a b : Nat}, a < aC s → bindA s x y o = link s a b → C m10_become [.ref 13, .int (nn (rh a)), .int (nn (rh b))] m1 (fun r m11 => r = .inl none ∧ St m11 ∧ PQ m (bindA s x y o) rh (.inl none) m11) := by
    intro a b ha e
    refine C.mono (s10_link (x := a) (y := b) s1 R1 hE hO ha hsg) ?_
    rintro o2 m2 ⟨rfl, fr2, R2⟩
    refine ⟨rfl, fr2.st s1, rfl, z1.trans (STc_zr fr2), fr2.st s1, ?_⟩
    rw [e]
    exact R2.fin (fun _ => npd)
  refine ⟨fun w => ?_, fun w => ?_⟩
  · have nrc : ¬ Rc s y x := fun q => (hv.mpr q) w
    refine ⟨hi, fun ne => ⟨hj, fun nk => flo ?_, fun k0 => ⟨hj, fun ne2 => flo ?_, fun e2 => lk2 hy ?_⟩⟩, fun e => lk2 hx ?_⟩
    · unfold bindA
      rw [if_neg nrc, if_neg ne, if_neg (fun q => nk q.1)]
    · unfold bindA
      rw [if_neg nrc, if_neg ne, if_neg (fun q => ne2 q.2)]
    · unfold bindA
      rw [if_neg nrc, if_neg ne, if_pos ⟨k0, e2⟩]
    · unfold bindA
      rw [if_neg nrc, if_pos e]
  · have rc : Rc s y x := hv.mp w
    have e : bindA s x y o = failA s o := by
      unfold bindA
      rw [if_pos rc]
    refine C.mono (s3_fail s1 R1 hE hO hF) ?_
    rintro o2 m2 ⟨rfl, z2, s2, R2⟩
    refine ⟨rfl, s2, rfl, z1.trans z2, s2, ?_⟩
    rw [e]
    exact R2
theorem s3_unite {fs : List Fn} {m : Mm} {s : Ac} {rh : Nat → Nat} {x y u : Nat} {rk : Nat → Nat} (hm : St m) (h : HM m s rh False) (hE : aE s = 0) (hO : QOK fs s) (hl : LkR (aC s) (aF s) rk) (hDK : ∀ x, x < aC s → DKx s x) (hc : cn3 (allK s) ≤ 4980) (hx : x < aC s) (hy : y < aC s) (hu : u < aC s) (hkx : tK (aF s x) < 2) (hky : tK (aF s y) < 2) (hsg : ∀ j, 1 ≤ j → j ≤ aL s → lX (aV s j) < aC s) (hF : FOK s (tW (aF s u))) (npd : ¬ pdT s) : C m3_unite [.ref 12, .int (nn (rh x)), .int (nn (rh y)), .int (nn (tW (aF s u))), .int (nn (rh u))] m (PQ m (uniteA s x y u) rh) := by
  refine C.of (by decide +kernel) (Nat.le_of_ble_eq_true rfl) rfl (w3_unite hm ?_)
  obtain ⟨f1, f2, f3, f4, f5, f6, f7, f8⟩ := h.all hE
  have hrx := f1.2.1 x hx
  have hry := f1.2.1 y hy
  have b1 := hO.1
  have b7 := hO.2.2.2.2.2.2.1
  have hi := nn_in (a := rh x) (n := 3500) (by omega) (by omega)
  have hj := nn_in (a := rh y) (n := 3500) (by omega) (by omega)
  have exy : nn (rh x) = nn (rh y) ↔ x = y := (nn_eq (by omega) (by omega)).trans ⟨fun q => f1.2.2.1 x y hx hy q, fun q => by rw [q]⟩
  rw [exy]
  refine ⟨fun eq => ⟨rfl, Zr.refl, hm, ?_⟩, fun ne => ?_⟩
  · have : uniteA s x y u = s := if_pos eq
    rw [this]
    exact h.fin (fun _ => npd)
  · have hf : uniteA s x y u = if aE (stepA s) = 0 then (if tK (aF (stepA s) x) = 0 then bindA (stepA s) x y (tW (aF (stepA s) u)) else if tK (aF (stepA s) y) = 0 then bindA (stepA s) y x (tW (aF (stepA s) u)) else if tO (aF (stepA s) x) = tO (aF (stepA s) y) then push (stepA s) (pairs 10 (stepA s) x y u) else failA (stepA s) (tW (aF (stepA s) u))) else stepA s := by
      unfold uniteA
      rw [if_neg ne]
    refine C.mono (s3_doStep hm h hE hO) ?_
    rintro o1 m1 ⟨fr1, R1, rfl⟩
    have s1 := fr1.st hm
    have z1 : Zr m m1 := fr1.zr (fun a j q => by omega)
    have hO1 := hO.step
    have hs : aC (stepA s) = aC s ∧ aF (stepA s) = aF s ∧ aL (stepA s) = aL s ∧ aV (stepA s) = aV s := by
      unfold stepA
      split <;> exact ⟨rfl, rfl, rfl, rfl⟩
    obtain ⟨e1, e2, e3, e4⟩ := hs
    have eK : allK (stepA s) = allK s := by
      show lK (aV (stepA s) (aL (stepA s))) ++ flatB (aV (stepA s)) (aL (stepA s)) = _
      rw [e3, e4]
      rfl
    have eT : topK (stepA s) = topK s := by
      show lK (aV (stepA s) (aL (stepA s))) = _
      rw [e3, e4]
    have npd1 : ¬ pdT (stepA s) := by
      unfold pdT
      rw [eT]
      exact npd
    refine ⟨_, rfl, s1, fun w => ?_, fun w => ⟨rfl, z1, s1, ?_⟩⟩
    · have hD : aE (stepA s) = 0 := by
        by_cases q : aE (stepA s) = 0
        · exact q
        · rw [if_neg q] at w
          exact (w rfl).elim
      have hS : aS (stepA s) = aS s + 1 := by
        revert hD
        unfold stepA
        split
        · exact fun q => absurd q (show ¬ (4 : Nat) = 0 by decide)
        · exact fun _ => rfl
      rw [if_pos hD] at hf
      obtain ⟨g1, -⟩ := R1.all hD
      have i14 : mI m1 14 = mI m 14 := fr1.fn (fun j q => by omega)
      have i15 : mI m1 15 = mI m 15 := fr1.fn (fun j q => by omega)
      obtain ⟨⟨t1, t2, t3, t4, t5⟩, -⟩ := f1.2.2.2 x hx
      obtain ⟨⟨v1, v2, v3, v4, v5⟩, -⟩ := f1.2.2.2 y hy
      rw [nn_tn (a := rh x) (by omega), nn_tn (a := rh y) (by omega), i14, i15, t1, v1, tg7 (by omega), tg7 (by omega)]
      have hsg1 : ∀ j, 1 ≤ j → j ≤ aL (stepA s) → lX (aV (stepA s) j) < aC (stepA s) := by
        rw [e1, e3, e4]
        exact hsg
      have hdk1 : ∀ x, x < aC (stepA s) → DKx (stepA s) x := by
        unfold DKx
        rw [e1, e2]
        exact hDK
      have hF1 : FOK (stepA s) (tW (aF s u)) := by
        unfold FOK
        rw [e1, e3, e4]
        exact hF
      have hl1 : LkR (aC (stepA s)) (aF (stepA s)) rk := by
        rw [e1, e2]
        exact hl
      have hL1 : HL m1 (aC (stepA s)) (aS s) rh := by
        rw [e1]
        exact f8.fe (fr1.i (by omega)) (fr1.fn (fun j q => by omega))
      have hwu := (b7 u hu).2.2.2.1
      have bd : ∀ a b, a < aC s → b < aC s → uniteA s x y u = bindA (stepA s) a b (tW (aF s u)) → C m3_bind [.ref 12, .int (nn (rh a)), .int (nn (rh b)), .int (nn (tW (aF s u)))] m1 (fun r m17 => r = .inl none ∧ St m17 ∧ PQ m (uniteA s x y u) rh (.inl none) m17) := by
        intro a b ha hb e
        refine C.mono (s3_bind s1 R1 hD hO1 hl1 hdk1 hL1 (by omega) (by rw [e1]; exact ha) (by rw [e1]; exact hb) (by rw [e2]; exact (b7 a ha).2.2.2.1) hwu hsg1 hF1 npd1) ?_
        rintro o2 m2 ⟨rfl, z2, s2, R2⟩
        refine ⟨rfl, s2, rfl, z1.trans z2, s2, ?_⟩
        rw [e]
        exact R2
      rw [e2] at hf
      refine ⟨hi, fun nk => ⟨hj, fun nk2 => ⟨hi, hj, ?_⟩, fun k2 => bd y x hy hx ?_⟩, fun k1 => bd x y hx hy ?_⟩
      · have kx : tK (aF s x) = 1 := by omega
        have ky : tK (aF s y) = 1 := by omega
        rw [if_neg nk, if_neg nk2] at hf
        have eo : nn (tO (aF s x)) = nn (tO (aF s y)) ↔ tO (aF s x) = tO (aF s y) := nn_eq (by have := (hDK x hx kx).1; omega) (by have := (hDK y hy ky).1; omega)
        rw [t2 (Or.inl kx), v2 (Or.inl ky), eo]
        refine ⟨fun w2 => ?_, fun w2 => ?_⟩
        · rw [if_pos w2] at hf
          refine C.mono (s3_pushPairs (k := 10) (x := x) (y := y) (u := u) s1 R1 hD hO1 (by rw [eK]; exact hc) (by rw [e1]; exact hx) (by rw [e1]; exact hy) (by rw [e1]; exact hu) (Or.inl ⟨rfl, rfl⟩) (by rw [e2]; exact kx) (by rw [e2]; exact ky) (by rw [e2]; exact w2) (hdk1 x (by rw [e1]; exact hx)) (hdk1 y (by rw [e1]; exact hy))) ?_
          rintro o3 m3 ⟨rfl, fr3, R3⟩
          refine ⟨rfl, fr3.st s1, rfl, z1.trans (SKc_zr fr3), fr3.st s1, ?_⟩
          rw [hf]
          refine R3.fin (fun _ => ?_)
          unfold pdT
          rw [topK_push, eT]
          unfold pairs pr1
          rw [e2]
          split <;> split <;> first | exact (fun q => absurd (Option.some.inj q) (show ¬ (10 : Nat) = 12 by decide)) | exact npd
        · rw [if_neg w2] at hf
          refine C.mono (s3_fail s1 R1 hD hO1 hF1) ?_
          rintro o2 m2 ⟨rfl, z2, s2, R2⟩
          refine ⟨rfl, s2, rfl, z1.trans z2, s2, ?_⟩
          rw [hf]
          exact R2
      · rw [hf, if_neg nk, if_pos k2]
      · rw [hf, if_pos k1]
    · have hD : ¬ aE (stepA s) = 0 := by
        intro q
        rw [if_pos q] at w
        exact absurd w (by decide)
      rw [hf, if_neg hD]
      exact R1.fin (fun q => by have := stepA_E hE hD; omega)
