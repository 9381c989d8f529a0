/-! THE REFERENCE: patterns, ends of calls, parts -/
theorem s12_match {fs : List Fn} {m : Mm} {s : Ac} {q y c : Nat} {t : Tr} (hm : St m) (hf8 : fs.length ≤ 8) (h : RM m s) (hE : aE s = 0) (hb : BD s) (hw : twf fs.length (fpf fs) t) (hq : q + tsz t ≤ 876) (ht : TC m q t) (hc : c < aC s) (hk : tK (aF s c) = 2) (hT : tT (aF s c) ≠ .nil) (hP : tP (aF s c) < aP s) :
    C m12_match [.ref 668, .int (nn q), .int (nn y), .int (nn c)] m (PM m (if tcode t < 10 then nameA s c (tcode t) y else push s [(0, y, 0, 0, .nil), (5, y, c, 0, t)])) := by
  refine C.of (by decide +kernel) (Nat.le_of_ble_eq_true rfl) rfl (w12_match hm ?_)
  obtain ⟨f1, f2, f3, f4, f5, f6⟩ := h.all hE
  obtain ⟨bb1, bb2, bb3, bb4, bb5, bb6, bb7, bb8, bb9⟩ := hb
  obtain ⟨e1, e2⟩ := TC_root hw ht
  have hp := tsz_pos hw
  have hc40 : tcode t < 40 := by
    unfold cok at e2
    omega
  have l10 : 10 ≤ nn (tcode t) ↔ 10 ≤ tcode t := nn_le (a := 10) (by decide) (by omega)
  obtain ⟨-, ⟨-, t2⟩, -⟩ := f1.2 c hc
  obtain ⟨t3, -⟩ := t2 hk hT
  have hiq := nn_in (a := q) (n := 876) (by omega) (by omega)
  rw [nn_tn (a := q) (by omega), nn_tn (a := c) (by omega), e1, l10, t3, show (6 : Int32) * nn (tP (aF s c)) = nn (6 * tP (aF s c)) from nn_mul 6 _, nn_add]
  refine ⟨hiq, fun w => ?_, fun w => ?_⟩
  · rw [if_neg (by omega)]
    refine C.mono (s12_push4 (k := 5) (t := t) hm h hE (by omega) (Or.inr rfl) hq ht) ?_
    rintro o1 m1 ⟨rfl, fr1, R1⟩
    have frA := SK_SR fr1
    refine ⟨rfl, frA.st hm, ?_⟩
    refine C.mono (s12_push1 (k := 0) (x := y) (frA.st hm) R1 hE (by rw [allK_push, List.length_append]; exact Nat.lt_of_le_of_lt (Nat.add_le_add (Nat.le_refl 1) bb4) (by decide)) (by omega)) ?_
    rintro o2 m2 ⟨rfl, fr2, R2⟩
    have frB := frA.trans (SK_SR fr2)
    rw [push_push] at R2
    exact ⟨rfl, frB.st hm, rfl, frB, R2⟩
  · rw [if_pos (by omega)]
    have c6 : tcode t < 6 := by
      unfold cok at e2
      omega
    refine ⟨nn_in (by omega) (by omega), hiq, nn_in (by omega) (by omega), rfl, Fr.refl.set (Or.inl (by omega)), ?_⟩
    rw [nn_tn (by omega)]
    refine h.n hE (fun a a1 a2 => mI_fn a1) (fun j hj => rfl) ⟨f2.1, fun p hp j hj => ?_⟩
    rw [mI_set]
    by_cases e : 6 * p + j = 6 * tP (aF s c) + tcode t
    · obtain ⟨rfl, rfl⟩ : p = tP (aF s c) ∧ j = tcode t := by omega
      rw [if_pos ⟨rfl, rfl⟩, up1_at, up1_at]
      rfl
    · rw [if_neg (by omega)]
      have := f2.2 p hp j hj
      by_cases e2 : p = tP (aF s c)
      · subst e2
        rw [up1_at, up1_ne (by omega)]
        exact this
      · rw [up1_ne e2]
        exact this
theorem s12_parts {m : Mm} {s : Ac} {x : Nat} {rk : Nat → Nat} (hm : St m) (h : RM m s) (hE : aE s = 0) (hb : BD s) (hl : LkR (aC s) (aF s) rk) (hx : x < aC s) (htop : (topK s).head?.map (fun t => t.1) ≠ some 12) :
    C m12_parts [.ref 668, .int (nn x)] m (PM m (if tK (aF s (root s x)) = 1 ∧ aM s (root s x) = 0 then push s (oT 1 (tA (aF s (root s x))) ++ oT 1 (tB (aF s (root s x))) ++ [(3, root s x, 0, 0, .nil)]) else s)) := by
  refine C.of (by decide +kernel) (Nat.le_of_ble_eq_true rfl) rfl (w12_parts hm (C.mono (s12_root2 hm h hE hb hl hx) ?_))
  rintro o0 m0 ⟨rfl, rfl⟩
  have hr := root_end hl hx
  obtain ⟨r, hr0⟩ : ∃ r, root s x = r := ⟨_, rfl⟩
  rw [hr0] at hr ⊢
  obtain ⟨f1, f2, f3, f4, f5, f6⟩ := h.all hE
  obtain ⟨bb1, bb2, bb3, bb4, bb5, bb6, bb7, bb8, bb9⟩ := hb
  obtain ⟨⟨t1, t2, t3, t4, t5⟩, -, t6⟩ := f1.2 r hr.2
  obtain ⟨k1, k2, k3, k4, k5, k6⟩ := bb7 r hr.2
  have hi := nn_in (a := r) (n := 6000) (by omega) (by omega)
  have e1 : nn (tK (aF s r)) = 1 ↔ tK (aF s r) = 1 := nn_eq (b := 1) (by omega) (by decide)
  have e0 : nn (aM s r) = 0 ↔ aM s r = 0 := nn_eq (b := 0) (by omega) (by decide)
  refine ⟨_, rfl, hm, ?_⟩
  rw [nn_tn (a := r) (by omega), t1, t6, e1, e0]
  refine ⟨hi, fun w => ?_, fun w => ⟨hi, fun w2 => ?_, fun w2 => ?_⟩⟩
  · rw [if_neg (fun q => w q.1)]
    exact ⟨rfl, Fr.refl, h⟩
  · rw [if_neg (fun q => w2 q.2)]
    exact ⟨rfl, Fr.refl, h⟩
  · rw [if_pos ⟨w, w2⟩]
    refine C.mono (s12_push1 (k := 3) (x := r) hm h hE (by omega) (by omega)) ?_
    rintro o1 m1 ⟨rfl, fr1, R1⟩
    have frA := SK_SR fr1
    have a79 : mI m1 679 r = no (tA (aF s r)) := (fr1.i (by unfold SK; omega)).trans t3
    have a80 : mI m1 680 r = no (tB (aF s r)) := (fr1.i (by unfold SK; omega)).trans t4
    have m79 : no (tA (aF s r)) = -1 ↔ tA (aF s r) = none := no_m1 (fun y hy => by have := k5 y hy; omega)
    have m80 : no (tB (aF s r)) = -1 ↔ tB (aF s r) = none := no_m1 (fun y hy => by have := k6 y hy; omega)
    have last : ∀ (m2 : Mm) (l : List Tk), Fr SR m0 m2 → mI m2 679 r = no (tA (aF s r)) → l.length ≤ 2 → RM m2 (push s l) → (∀ a, tA (aF s r) = some a → C m12_task [.ref 668, .int 1, .int (mI m2 679 r), .int 0, .int 0] m2 (fun o m15 => o = .inl none ∧ St m15 ∧ PM m0 (push s (oT 1 (tA (aF s r)) ++ l)) (.inl none) m15)) := by
      intro m2 l w1 w3 w4 w5 a ha
      rw [w3, ha, no_some]
      refine C.mono (s12_push1 (k := 1) (x := a) (w1.st hm) w5 hE (by rw [allK_push, List.length_append]; exact Nat.lt_of_le_of_lt (Nat.add_le_add w4 bb4) (by decide)) (by omega)) ?_
      rintro o3 m3 ⟨rfl, fr3, R3⟩
      have frC := w1.trans (SK_SR fr3)
      rw [push_push] at R3
      exact ⟨rfl, frC.st hm, rfl, frC, R3⟩
    refine ⟨rfl, frA.st hm, hi, ?_⟩
    rw [a80, m80, a79, m79]
    refine ⟨fun w3 => ⟨hi, fun w4 => ?_, fun w4 => ⟨hi, ?_⟩⟩, fun w3 => ⟨hi, ?_⟩⟩
    · rw [w3, w4]
      exact ⟨rfl, frA, R1⟩
    · cases ha : tA (aF s r) with
      | none => exact (w4 ha).elim
      | some a =>
        have := last m1 _ frA a79 (Nat.le_of_ble_eq_true rfl) R1 a ha
        rw [a79, ha] at this
        rw [w3]
        exact this
    · cases hb2 : tB (aF s r) with
      | none => exact (w3 hb2).elim
      | some b =>
        rw [no_some]
        refine C.mono (s12_push1 (k := 1) (x := b) (frA.st hm) R1 hE (by rw [allK_push, List.length_append]; exact Nat.lt_of_le_of_lt (Nat.add_le_add (Nat.le_refl 1) bb4) (by decide)) (by omega)) ?_
        rintro o2 m2 ⟨rfl, fr2, R2⟩
        have frB := frA.trans (SK_SR fr2)
        rw [push_push] at R2
        have b79 : mI m2 679 r = no (tA (aF s r)) := (fr2.i (by unfold SK; omega)).trans a79
        refine ⟨rfl, frB.st hm, hi, ?_⟩
        rw [b79, m79]
        refine ⟨fun w4 => ?_, fun w4 => ⟨hi, ?_⟩⟩
        · rw [w4]
          exact ⟨rfl, frB, R2⟩
        · cases ha : tA (aF s r) with
          | none => exact (w4 ha).elim
          | some a =>
            have := last m2 _ frB b79 (Nat.le_of_ble_eq_true rfl) R2 a ha
            rw [b79, ha] at this
            exact this
theorem opG_len {o : Nat} : ∀ (ks : List Nat) (n : Nat) (g : Nat → Option Nat), (opG o ks n g).2.length ≤ ks.length
  | [], _, _ => Nat.le_refl _
  | k :: ks, n, g => by
    unfold opG
    split
    · exact Nat.succ_le_succ (opG_len ks _ _)
    · exact Nat.le_succ_of_le (opG_len ks _ _)
theorem ksA_len {t : Tr} : (ksA t).length ≤ 6 := List.length_filter_le _ _
theorem endG_eq {h : Bool} {s : Ac} {c y : Nat} (hy : (mkA (aN (opsA s (tT (aF s c)) (tP (aF s c)) (tW (aF s c))) (tP (aF s c))) (tW (aF s c)) (tP (aF s c)) (tT (aF s c)) (aC (opsA s (tT (aF s c)) (tP (aF s c)) (tW (aF s c))))).1 = some y) :
    endG h s c = push (link (addT (opsA s (tT (aF s c)) (tP (aF s c)) (tW (aF s c))) (mkA (aN (opsA s (tT (aF s c)) (tP (aF s c)) (tW (aF s c))) (tP (aF s c))) (tW (aF s c)) (tP (aF s c)) (tT (aF s c)) (aC (opsA s (tT (aF s c)) (tP (aF s c)) (tW (aF s c))))).2) c y) [(0, if h = true then c else y, 0, 0, .nil)] := by
  unfold endG
  simp only [hy]
theorem s12_endCall {fs : List Fn} {m : Mm} {s : Ac} {c : Nat} (hm : St m) (hF : MF m fs) (h : RM m s) (hE : aE s = 0) (hb : BD s) (hpw : PW fs [] none) (hw : WT fs s) (hc : c < aC s) (hk : tK (aF s c) = 2) (hT : tT (aF s c) ≠ .nil) (hN : NmO (aN (opsA s (tT (aF s c)) (tP (aF s c)) (tW (aF s c))) (tP (aF s c))) 6000 (tT (aF s c))) (hC : aC s ≤ 4900) :
    C m12_endCall [.ref 668, .int (nn c)] m (PM m (endG false s c)) := by
  refine C.of (by decide +kernel) (Nat.le_of_ble_eq_true rfl) rfl (w12_endCall hm ?_)
  obtain ⟨f1, f2, f3, f4, f5, f6⟩ := h.all hE
  obtain ⟨bb1, bb2, bb3, bb4, bb5, bb6, bb7, bb8, bb9⟩ := hb
  obtain ⟨w1, w2, w3⟩ := (hw c hc).2 hk hT
  obtain ⟨⟨-, -, -, -, t5⟩, ⟨-, tx⟩, -⟩ := f1.2 c hc
  obtain ⟨t1, sl, s1, s2, s3, s4⟩ := tx hk hT
  have hi := nn_in (a := c) (n := 6000) (by omega) (by omega)
  rw [nn_tn (a := c) (by omega), s2]
  refine ⟨hi, C.mono (s12_at hm (s := sl) (w := 2) (by omega) (by omega)) ?_⟩
  rintro o0 m0 ⟨rfl, rfl⟩
  refine ⟨_, rfl, hm, hi, hi, ?_⟩
  rw [t1, t5, show 12 + 36 * sl + 12 * 2 = 36 + 36 * sl by omega]
  have ol := opG_len (o := tW (aF s c)) (ksA (tT (aF s c))) (aC s) (aN s (tP (aF s c)))
  have kl := ksA_len (t := tT (aF s c))
  have hC2 : aC (opsA s (tT (aF s c)) (tP (aF s c)) (tW (aF s c))) = aC s + (opG (tW (aF s c)) (ksA (tT (aF s c))) (aC s) (aN s (tP (aF s c)))).2.length := rfl
  have ml := mkA_len (g := aN (opsA s (tT (aF s c)) (tP (aF s c)) (tW (aF s c))) (tP (aF s c))) (o := tW (aF s c)) (p := tP (aF s c)) w1 (aC (opsA s (tT (aF s c)) (tP (aF s c)) (tW (aF s c))))
  refine C.mono (s12_opens (F := app (aF s) (aC s) (opG (tW (aF s c)) (ksA (tT (aF s c))) (aC s) (aN s (tP (aF s c)))).2) hm hF.1 w1 (by omega) s4 (f1.ge (fun x hx => app_lt hx)) f2 w3 (by omega) (by omega) bb6 (fun k y hy => by have := bb8 _ _ _ hy; omega) app_new) ?_
  rintro o1 m1 ⟨rfl, fr1, T1, N1⟩
  have frA := SO_SR fr1
  refine ⟨rfl, frA.st hm, hi, hi, ?_⟩
  have a82 : mI m1 682 c = nn (tP (aF s c)) := by
    have := (T1.2 c (by omega)).2.1
    rw [app_lt hc] at this
    exact (this.2 hk hT).1
  have a81 : mI m1 681 c = nn (tW (aF s c)) := by
    have := (T1.2 c (by omega)).1
    rw [app_lt hc] at this
    exact this.2.2.2.2
  rw [a82, a81]
  obtain ⟨s2', hs2⟩ : ∃ s2', opsA s (tT (aF s c)) (tP (aF s c)) (tW (aF s c)) = s2' := ⟨_, rfl⟩
  have hcs : aC s ≤ aC s2' := by rw [← hs2, hC2]; omega
  have R1 : RM m1 s2' := by
    rw [← hs2]
    have hn : RM m1 (sN s (aP s) (up1 (aN s) (tP (aF s c)) (opG (tW (aF s c)) (ksA (tT (aF s c))) (aC s) (aN s (tP (aF s c)))).1)) → True := fun _ => trivial
    refine ⟨(fr1.i (by unfold SO; omega)).trans h.1, fun w => ?_, h.2.2.1.fe2 (fun a a1 a2 => fr1.fn (fun j => by unfold SO; omega)), fun _ => ⟨T1, N1, f3.fe (fun a a1 a2 => fr1.fn (fun j => by unfold SO; omega)) (fr1.i (by unfold SO; omega)), (fr1.i (by unfold SO; omega)).trans f4, f5.fe2 (fr1.fn (fun j => by unfold SO; omega)) (fun a a1 a2 => fr1.fn (fun j => by unfold SO; omega)), (fr1.i (by unfold SO; omega)).trans f6⟩⟩
    have w5 : aE s = 5 := w
    omega
  rw [hs2] at ml hN
  obtain ⟨f1', f2', -, -, -, -⟩ := R1.all (by rw [← hs2]; exact hE)
  have hlen2 : aC s2' ≤ 4906 := by rw [← hs2, hC2]; omega
  obtain ⟨r, hr⟩ : ∃ r, mkA (aN s2' (tP (aF s c))) (tW (aF s c)) (tP (aF s c)) (tT (aF s c)) (aC s2') = r := ⟨_, rfl⟩
  rw [hr] at ml
  have hm2 : aM s2' = aM s := by rw [← hs2]; rfl
  have hP2 : aP s2' = aP s := by rw [← hs2]; rfl
  refine C.mono (s12_make (fs := fs) (o := tW (aF s c)) (p := tP (aF s c)) (F := app (aF s2') (aC s2') r.2) (frA.st hm) (Fr.mf2 hF frA).1 hpw.fp (by omega) w1 w2 (s4.fe (fr1.fn (fun j => by unfold SO; omega))) (by omega) (f1'.ge (fun x hx => app_lt hx)) (fun k hk => f2'.2 _ (by rw [hP2]; exact w3) k hk) (by rw [hr]; omega) (fun x hx => by rw [hm2]; exact bb6 x (by omega)) (by rw [hr]; exact app_new) hN) ?_
  rintro o2 m2 ⟨y, y1, rfl, fr2, T2⟩
  rw [hr] at y1 T2
  have frB := frA.trans (SQ_SR fr2)
  refine ⟨_, rfl, frB.st hm, ?_⟩
  have hE2 : aE s2' = 0 := by rw [← hs2]; exact hE
  have R2 : RM m2 (addT s2' r.2) := by
    obtain ⟨g1, g2, g3, g4, g5, g6⟩ := R1.all hE2
    refine ⟨(fr2.i (by unfold SQ; omega)).trans R1.1, fun w => ?_, R1.2.2.1.fe2 (fun a a1 a2 => fr2.fn (fun j => by unfold SQ; omega)), fun _ => ⟨T2, g2.fe (fr2.fn (fun j => by unfold SQ; omega)) (fr2.i (by unfold SQ; omega)), g3.fe (fun a a1 a2 => fr2.fn (fun j => by unfold SQ; omega)) (fr2.i (by unfold SQ; omega)), (fr2.i (by unfold SQ; omega)).trans g4, g5.fe2 (fr2.fn (fun j => by unfold SQ; omega)) (fun a a1 a2 => fr2.fn (fun j => by unfold SQ; omega)), (fr2.i (by unfold SQ; omega)).trans g6⟩⟩
    have w5 : aE s2' = 5 := w
    omega
  have hK2 : allK s2' = allK s := by rw [← hs2]; rfl
  refine C.mono (s12_link (frB.st hm) R2 hE2 (by omega) (by
    show tK (app (aF s2') (aC s2') r.2 c) ≠ 6
    rw [app_lt (by omega), ← hs2]
    show tK (app (aF s) (aC s) _ c) ≠ 6
    rw [app_lt hc, hk]
    decide)) ?_
  rintro o3 m3 ⟨rfl, fr3, R3⟩
  have frC := frB.trans (SU_SR fr3)
  refine ⟨rfl, frC.st hm, ?_⟩
  refine C.mono (s12_push1 (k := 0) (x := y) (frC.st hm) R3 hE2 (by show (allK s2').length < 20000; rw [hK2]; omega) (by omega)) ?_
  rintro o4 m4 ⟨rfl, fr4, R4⟩
  have frD := frC.trans (SK_SR fr4)
  refine ⟨rfl, frD.st hm, rfl, frD, ?_⟩
  have := endG_eq (h := false) (s := s) (c := c) (y := y) (by rw [hs2, hr]; exact y1)
  rw [hs2, hr] at this
  rw [this]
  exact R4
