/-! THE REFERENCE: calls -/
def PM (m : Mm) (s : Ac) : Option Value ⊕ String → Mm → Prop := fun r m' => r = .inl none ∧ Fr SR m m' ∧ RM m' s
theorem PM.pre {m m1 : Mm} {s : Ac} {r : Option Value ⊕ String} {m' : Mm} (f : Fr SR m m1) (h : PM m1 s r m') : PM m s r m' := ⟨h.1, f.trans h.2.1, h.2.2⟩
theorem Fr.mf2 {m m' : Mm} {fs : List Fn} (h : MF m fs) (f : Fr SR m m') : MF m' fs := by
  have e : ∀ a, a < 677 → a ≠ 668 → mI m' a = mI m a := fun a a1 a2 => f.fn (fun j => by unfold SR; omega)
  obtain ⟨⟨f1, f2, f3⟩, f4, f5, sl, us, r1, r2, r3, r4, r5, r6⟩ := h
  have e6 : ∀ j, mI m' 676 j = mI m 676 j := fun j => by rw [e 676 (by decide) (by decide)]
  refine ⟨⟨(f.i (by unfold SR; omega)).trans f1, f2, fun g x hx => ?_⟩, (f.i (by unfold SR; omega)).trans f4, fun g q1 q2 => ?_, sl, us, r1, r2, r3, fun s hs => ?_, fun g x hx => ?_, r6⟩
  · rw [e 669 (by decide) (by decide), e 670 (by decide) (by decide)]
    exact f3 g x hx
  · rw [e 673 (by decide) (by decide)]
    exact f5 g q1 q2
  · rw [e 675 (by decide) (by decide)]
    exact r4 s hs
  · rw [e 673 (by decide) (by decide), e 674 (by decide) (by decide)]
    obtain ⟨q1, q2⟩ := r5 g x hx
    refine ⟨q1, fun k R hR => ?_⟩
    obtain ⟨p1, p2, p3, p4, p5⟩ := q2 k R hR
    exact ⟨p1, p2, fun t ht => (p3 t ht).eq (fun j _ _ => e6 j), fun t ht => (p4 t ht).eq (fun j _ _ => e6 j), p5.eq (fun j _ _ => e6 j)⟩
theorem MF.rule {m : Mm} {fs : List Fn} {f k : Nat} {x : Fn} {R : Rl} (h : MF m fs) (hx : fs[f]? = some x) (hk : x.2.2[k]? = some R) : ∃ sl, sl < 24 ∧ mI m 674 (24 * f + k) = nn sl ∧ RC m sl R := by
  obtain ⟨-, -, -, sl, us, -, -, r3, -, r5, -⟩ := h
  obtain ⟨p1, p2, p3⟩ := (r5 f x hx).2 k R hk
  exact ⟨sl f k, r3 _ p2, p1, p3⟩
theorem MF.many {m : Mm} {fs : List Fn} {f : Nat} {x : Fn} (h : MF m fs) (hx : fs[f]? = some x) : mI m 673 f = nn x.2.2.length := by
  obtain ⟨-, -, -, sl, us, -, -, r3, -, r5, -⟩ := h
  exact (r5 f x hx).1
theorem stepA_k {s : Ac} (h : aE (stepA s) = 0) : stepA s = sS s (aS s + 1) := by
  unfold stepA at h ⊢
  split at h
  · exact absurd h (show ¬ (4 : Nat) = 0 by decide)
  · rename_i w
    rw [if_neg w]
/-- the shape of a call -/
def CS (fs : List Fn) (s : Ac) (x : Nat) (xf : Fn) : Prop := tK (aF s x) = 2 ∧ fs[tO (aF s x)]? = some xf ∧ (1 ≤ xf.1 → (tA (aF s x)).isSome = true) ∧ (2 ≤ xf.1 → (tB (aF s x)).isSome = true)
theorem decA_t {s : Ac} {o n : Nat} : aC (decA s o n).2 = aC s ∧ aF (decA s o n).2 = aF s ∧ aM (decA s o n).2 = aM s ∧ aP (decA s o n).2 = aP s ∧ aN (decA s o n).2 = aN s ∧ aL (decA s o n).2 = aL s ∧ aS (decA s o n).2 = aS s ∧ ∀ j, lK (aV (decA s o n).2 j) = lK (aV s j) := by
  have k : ∀ d g j, lK (aV (setD s o d g) j) = lK (aV s j) := fun d g j => by
    show lK (up1 (aV s) o _ j) = _
    by_cases e : j = o
    · rw [e, up1_at]
    · rw [up1_ne e]
  unfold decA
  split
  · exact ⟨rfl, rfl, rfl, rfl, rfl, rfl, rfl, fun _ => rfl⟩
  · split
    · exact ⟨rfl, rfl, rfl, rfl, rfl, rfl, rfl, k _ _⟩
    · split
      · exact ⟨rfl, rfl, rfl, rfl, rfl, rfl, rfl, fun _ => rfl⟩
      · exact ⟨rfl, rfl, rfl, rfl, rfl, rfl, rfl, k _ _⟩
theorem s12_takeR {fs : List Fn} {m : Mm} {s : Ac} {x f way : Nat} {v3 v4 : Int32} {xf : Fn} {R : Rl} {m0 : Mm} (hm : St m) (hF : MF m fs) (hfr : Fr SR m0 m) (h : RM m s) (hE : aE s = 0) (hC : aC s ≤ 5000) (hP : aP s < 150) (hK : (allK s).length ≤ 19000) (hx : x < aC s) (hS : CS fs s x xf) (hf : f = tO (aF s x)) (hr : rok fs xf.1 R) (hR : xf.2.2[way]? = some R) (hf8 : f < 8) (hw24 : way < 24) (hx1 : xf.1 ≤ 2) :
    V m12_call_ 63 [some (.ref 668), some (.int (nn x)), some (.int (nn f)), some (.int v3), some (.int v4), some (.int (nn way)), none] [] m (PM m0 (takeR s x R)) := by
  obtain ⟨f1, f2, f3, f4, f5, f6⟩ := h.all hE
  obtain ⟨S1, S2, S3, S4⟩ := hS
  rw [← hf] at S2
  obtain ⟨sl, sl1, sl2, sl3, sl4, sl5⟩ := hF.rule S2 hR
  have e29 : mI m 668 29 = 0 := by
    have := h.1
    rw [hE] at this
    exact this
  have hi := nn_in (a := x) (n := 6000) (by omega) (by omega)
  have hif := nn_in (a := f) (n := 8) (by omega) hf8
  refine u12_call__63 hm ⟨fun _ => ?_, fun w => (w e29).elim⟩
  rw [show (24 : Int32) * nn f = nn (24 * f) from nn_mul 24 f, nn_add, nn_tn (a := 24 * f + way) (by omega), sl2, nn_tn (a := x) (by omega)]
  refine ⟨nn_in (by omega) (by omega), ?_⟩
  refine C.mono (s12_newNames hm f2 (by omega)) ?_
  rintro o1 m1 ⟨rfl, n1, fr1⟩
  have frA : Fr SR m0 m1 := hfr.trans (fr1.mono (fun a j q => by unfold SR; omega))
  refine ⟨_, rfl, fr1.st hm, hi, hi, ?_⟩
  generalize hM : mSetI (mSetI m1 682 x (nn (aP s))) 683 x (nn sl) = M
  have fr2 : Fr (fun a j => a = 685 ∨ a = 682 ∨ a = 683 ∨ a = 668 ∧ j = 22) m M := by
    rw [← hM]
    exact ((fr1.mono (fun a j q => by omega)).set (Or.inr (Or.inl rfl))).set (Or.inr (Or.inr (Or.inl rfl)))
  have frB : Fr SR m0 M := hfr.trans (fr2.mono (fun a j q => by unfold SR; omega))
  have T1 : RT M (aC s) (up1 (aF s) x (tK (aF s x), tO (aF s x), tA (aF s x), tB (aF s x), tW (aF s x), aP s, R.2.2)) (aM s) := by
    refine ⟨(fr2.i (by omega)).trans f1.1, fun y hy => ?_⟩
    have hh := f1.2 y hy
    by_cases e : y = x
    · subst e
      rw [up1_at]
      refine ⟨⟨?_, fun q => ?_, ?_, ?_, ?_⟩, ⟨fun q => ?_, fun _ _ => ⟨?_, sl, sl1, ?_, hr.1.2.2.2, sl5.fe (fr2.fn (fun j => by omega))⟩⟩, ?_⟩
      · rw [fr2.i (by omega)]; exact hh.1.1
      · rw [fr2.i (by omega)]; exact hh.1.2.1 q
      · rw [fr2.i (by omega)]; exact hh.1.2.2.1
      · rw [fr2.i (by omega)]; exact hh.1.2.2.2.1
      · rw [fr2.i (by omega)]; exact hh.1.2.2.2.2
      · have q2 : tK (aF s y) = 6 := q
        omega
      · rw [← hM]; simp [mI_set]
      · rw [← hM]; simp [mI_set]
      · rw [fr2.i (by omega)]; exact hh.2.2
    · rw [up1_ne e]
      refine ⟨hh.1.fe (fun a a1 a2 => fr2.i (by omega)), hh.2.1.fe (fr2.fn (fun j => by omega)) (fr2.i (by omega)) ?_ ?_, by rw [fr2.i (by omega)]; exact hh.2.2⟩
      · rw [← hM]
        simp only [mI_set]
        rw [if_neg (by omega), if_neg (by omega)]
        exact fr1.i (by omega)
      · rw [← hM]
        simp only [mI_set]
        rw [if_neg (by omega), if_neg (by omega)]
        exact fr1.i (by omega)
  have R1 : RM M (sN (sT s (aC s) (up1 (aF s) x (tK (aF s x), tO (aF s x), tA (aF s x), tB (aF s x), tW (aF s x), aP s, R.2.2))) (aP s + 1) (up1 (aN s) (aP s) (fun _ => none))) := by
    refine ⟨(fr2.i (by omega)).trans h.1, fun w => ?_, h.2.2.1.fe2 (fun a a1 a2 => fr2.fn (fun j => by omega)), fun _ => ⟨T1, n1.fe (by rw [← hM, mI_fn (by omega), mI_fn (by omega)]) (by rw [← hM]; simp [mI_set]), f3.fe (fun a a1 a2 => fr2.fn (fun j => by omega)) (fr2.i (by omega)), (fr2.i (by omega)).trans f4, f5.fe2 (fr2.fn (fun j => by omega)) (fun a a1 a2 => fr2.fn (fun j => by omega)), (fr2.i (by omega)).trans f6⟩⟩
    have w5 : aE s = 5 := w
    omega
  refine C.mono (s12_push1 (k := 6) (x := x) (frB.st (by exact Fr.st (hfr.mono (S' := fun _ _ => True) (fun _ _ _ => trivial) |> fun q => (⟨q.1.symm, q.2.1.symm, q.2.2.1.symm, q.2.2.2.1.symm, q.2.2.2.2.1.symm, fun a j w => (w trivial).elim⟩ : Fr (fun _ _ => True) m m0)) hm)) R1 hE (by exact Nat.lt_of_le_of_lt hK (by decide)) (by omega)) ?_
  rintro o2 m2 ⟨rfl, fr3, R2⟩
  have s0 : St m0 := Fr.st (⟨hfr.1.symm, hfr.2.1.symm, hfr.2.2.1.symm, hfr.2.2.2.1.symm, hfr.2.2.2.2.1.symm, fun a j w => (w trivial).elim⟩ : Fr (fun _ _ => True) m m0) hm
  have frC : Fr SR m0 m2 := frB.trans (SK_SR fr3)
  have frm2 : Fr SR m m2 := (fr2.mono (fun a j q => by unfold SR; omega)).trans (SK_SR fr3)
  have sm2 := frC.st s0
  refine ⟨rfl, sm2, hif, ?_⟩
  have hF2 : MF m2 fs := Fr.mf2 hF frm2
  rw [nn_tn (a := f) (by omega), (hF2.1.2.2 f xf S2).2.1]
  have l1 : nn xf.1 ≤ 1 ↔ xf.1 ≤ 1 := nn_le (b := 1) (by omega) (by decide)
  have l0 : nn xf.1 ≤ 0 ↔ xf.1 ≤ 0 := nn_le (b := 0) (by omega) (by decide)
  rw [l1]
  have T2 := (R2.all hE).1.2 x hx
  have hc676 : mI m2 676 = mI m 676 := frm2.fn (fun j => by unfold SR; omega)
  have fin : ∀ (m3 : Mm) (l : List Tk), Fr SR m0 m3 → Fr SR m m3 → mI m3 679 x = no (tA (aF s x)) → l.length ≤ 2 → RM m3 (push (sN (sT s (aC s) (up1 (aF s) x (tK (aF s x), tO (aF s x), tA (aF s x), tB (aF s x), tW (aF s x), aP s, R.2.2))) (aP s + 1) (up1 (aN s) (aP s) (fun _ => none))) l) → mt1 R.2.1 (tB (aF s x)) x ++ [(6, x, 0, 0, .nil)] = l →
      V m12_call_ 140 [some (.ref 668), some (.int (nn x)), some (.int (nn f)), some (.int v3), some (.int v4), some (.int (nn way)), some (.int (nn sl))] [] m3 (PM m0 (takeR s x R)) := by
    intro m3 l w1 w2 w3 w4 w5 w6
    have s3 := w1.st s0
    have hF3 : MF m3 fs := Fr.mf2 hF w2
    refine u12_call__140 s3 ?_
    rw [nn_tn (by omega), (hF3.1.2.2 f xf S2).2.1, l0]
    refine ⟨hif, fun q => ?_, fun q => ?_⟩
    · refine u12_call__167 s3 ⟨rfl, w1, ?_⟩
      have : R.1 = none := by
        cases e : R.1 with
        | none => rfl
        | some t =>
          have := hr.2.1
          rw [e] at this
          have h1 : decide (1 ≤ xf.1) = true := this.symm
          have := of_decide_eq_true h1
          omega
      unfold takeR
      rw [this, List.append_assoc, w6]
      exact w5
    · obtain ⟨t, ht⟩ : ∃ t, R.1 = some t := by
        cases e : R.1 with
        | some t => exact ⟨t, rfl⟩
        | none =>
          have := hr.2.1
          rw [e] at this
          have h1 : decide (1 ≤ xf.1) = false := this.symm
          have := of_decide_eq_false h1
          omega
      obtain ⟨y, hy⟩ := Option.isSome_iff_exists.mp (S3 (by omega))
      refine C.mono (s12_at s3 (s := sl) (w := 0) (by omega) (by omega)) ?_
      rintro o4 m4 ⟨rfl, rfl⟩
      refine ⟨_, rfl, s3, hi, ?_⟩
      rw [nn_tn (a := x) (by omega), w3, hy, no_some, show 12 + 36 * sl + 12 * 0 = 12 + 36 * sl by omega]
      refine C.mono (s12_push4 (k := 4) (t := t) s3 w5 hE (by rw [allK_push, List.length_append]; exact Nat.lt_of_le_of_lt (Nat.add_le_add w4 hK) (by decide)) (Or.inl rfl) (by have := (hr.1.1 t ht).2; omega) ((sl3 t ht).fe (w2.fn (fun j => by unfold SR; omega)))) ?_
      rintro o5 m5 ⟨rfl, fr5, R5⟩
      have fr6 := w1.trans (SK_SR fr5)
      refine ⟨rfl, fr6.st s0, u12_call__167 (fr6.st s0) ⟨rfl, fr6, ?_⟩⟩
      rw [push_push] at R5
      have e : mt1 R.1 (tA (aF s x)) x = [(4, y, x, 0, t)] := by
        rw [ht, hy]
        rfl
      unfold takeR
      rw [e, List.append_assoc, w6]
      exact R5
  refine ⟨fun q => ?_, fun q => ?_⟩
  · refine fin m2 [(6, x, 0, 0, .nil)] frC frm2 (by have := T2.1.2.2.1; rw [show aF (push (sN (sT s (aC s) (up1 (aF s) x (tK (aF s x), tO (aF s x), tA (aF s x), tB (aF s x), tW (aF s x), aP s, R.2.2))) (aP s + 1) (up1 (aN s) (aP s) (fun _ => none))) [(6, x, 0, 0, .nil)]) x = (tK (aF s x), tO (aF s x), tA (aF s x), tB (aF s x), tW (aF s x), aP s, R.2.2) from up1_at] at this; exact this) (Nat.le_of_ble_eq_true rfl) R2 ?_
    have : R.2.1 = none := by
      cases e : R.2.1 with
      | none => rfl
      | some t =>
        have := hr.2.2.1
        rw [e] at this
        have h1 : decide (2 ≤ xf.1) = true := this.symm
        have := of_decide_eq_true h1
        omega
    rw [this]
    rfl
  · obtain ⟨t, ht⟩ : ∃ t, R.2.1 = some t := by
      cases e : R.2.1 with
      | some t => exact ⟨t, rfl⟩
      | none =>
        have := hr.2.2.1
        rw [e] at this
        have h1 : decide (2 ≤ xf.1) = false := this.symm
        have := of_decide_eq_false h1
        omega
    obtain ⟨y, hy⟩ := Option.isSome_iff_exists.mp (S4 (by omega))
    refine C.mono (s12_at sm2 (s := sl) (w := 1) (by omega) (by omega)) ?_
    rintro o4 m4 ⟨rfl, rfl⟩
    refine ⟨_, rfl, sm2, hi, ?_⟩
    have e680 : mI m4 680 x = nn y := by
      have := T2.1.2.2.2.1
      rw [show aF (push (sN (sT s (aC s) (up1 (aF s) x (tK (aF s x), tO (aF s x), tA (aF s x), tB (aF s x), tW (aF s x), aP s, R.2.2))) (aP s + 1) (up1 (aN s) (aP s) (fun _ => none))) [(6, x, 0, 0, .nil)]) x = (tK (aF s x), tO (aF s x), tA (aF s x), tB (aF s x), tW (aF s x), aP s, R.2.2) from up1_at] at this
      rw [this]
      show no (tB (aF s x)) = nn y
      rw [hy]
      rfl
    have e679 : mI m4 679 x = no (tA (aF s x)) := by
      have := T2.1.2.2.1
      rw [show aF (push (sN (sT s (aC s) (up1 (aF s) x (tK (aF s x), tO (aF s x), tA (aF s x), tB (aF s x), tW (aF s x), aP s, R.2.2))) (aP s + 1) (up1 (aN s) (aP s) (fun _ => none))) [(6, x, 0, 0, .nil)]) x = (tK (aF s x), tO (aF s x), tA (aF s x), tB (aF s x), tW (aF s x), aP s, R.2.2) from up1_at] at this
      exact this
    rw [e680, show 12 + 36 * sl + 12 * 1 = 24 + 36 * sl by omega]
    refine C.mono (s12_push4 (k := 4) (t := t) sm2 R2 hE (by rw [allK_push, List.length_append]; exact Nat.lt_of_le_of_lt (Nat.add_le_add (Nat.le_refl 1) hK) (by decide)) (Or.inl rfl) (by have := (hr.1.2.1 t ht).2; omega) ((sl4 t ht).fe hc676)) ?_
    rintro o5 m5 ⟨rfl, fr5, R5⟩
    have fr6 := frC.trans (SK_SR fr5)
    rw [push_push] at R5
    refine ⟨rfl, fr6.st s0, fin m5 _ fr6 (frm2.trans (SK_SR fr5)) ((fr5.i (by unfold SK; omega)).trans e679) (Nat.le_of_ble_eq_true rfl) R5 ?_⟩
    rw [ht, hy]
    rfl
