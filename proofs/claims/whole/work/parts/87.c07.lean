/-! THE OTHER ONE: wholes, choices, pairs -/
theorem cn3_oT {k : Nat} {r : Option Nat} : cn3 (oT k r) ≤ 1 := by
  cases r with
  | none => exact Nat.zero_le _
  | some x =>
    show (if k = 3 then 0 else 0 + 1) ≤ 1
    split <;> omega
theorem QOK.push {fs : List Fn} {s : Ac} {l : List Tk} (h : QOK fs s) (hc : cn3 (l ++ allK s) ≤ 4985) (hl : ∀ t, t ∈ l → kWf fs t ∧ ∀ x, x ∈ kTh t → x < aC s) : QOK fs (push s l) := by
  obtain ⟨b1, b2, b3, b4, b5, b6, b7, b8, b9, b10, b11⟩ := h
  refine ⟨b1, b2, b3, by rw [allK_push]; exact hc, b5, b6, b7, b8, b9, fun t ht => ?_, fun j hj => ?_⟩
  · rw [allK_push] at ht
    rcases List.mem_append.mp ht with q | q
    · exact hl t q
    · exact b10 t q
  · have := b11 j hj
    show lU (up1 (aV s) (aL s) _ j) ≤ 20 ∧ lX (up1 (aV s) (aL s) _ j) < aC s + 1 ∧ lZ (up1 (aV s) (aL s) _ j) ≤ 1000 ∧ (∀ d, d ∈ lD (up1 (aV s) (aL s) _ j) → d.1 < d.2 ∧ d.2 < 100) ∧ (lD (up1 (aV s) (aL s) _ j)).length + (lG (up1 (aV s) (aL s) _ j)).length ≤ 40 ∧ ∀ w, w ∈ lG (up1 (aV s) (aL s) _ j) → w < 100
    by_cases e : j = aL s
    · subst e
      rw [up1_at]
      exact this
    · rw [up1_ne e]
      exact this
/-- parts that are there are pushed -/
theorem s3_pushParts {fs : List Fn} {m m0 : Mm} {s : Ac} {rh : Nat → Nat} {x : Nat} (hm : St m) (h : HM m s rh False) (hE : aE s = 0) (hO : QOK fs s) (hc : cn3 (allK s) ≤ 4980) (hx : x < aC s) (hk : tK (aF s x) = 1) (h6 : tO (aF s x) < 6) (hA : (tA (aF s x)).isSome = decide (2 ≤ tO (aF s x))) (hB : (tB (aF s x)).isSome = decide (4 ≤ tO (aF s x))) : C m3_pushParts [.ref 12, .int (nn (rh x))] m (fun r m' => r = .inl none ∧ Fr SKc m m' ∧ HM m' (push s (oT 1 (tA (aF s x)) ++ oT 1 (tB (aF s x)))) rh False) := by
  refine C.of (by decide +kernel) (Nat.le_of_ble_eq_true rfl) rfl (w3_pushParts hm ?_)
  obtain ⟨f1, f2, f3, f4, f5, f6, f7, f8⟩ := h.all hE
  have hrx := f1.2.1 x hx
  have b1 := hO.1
  obtain ⟨q1, q2, q3, q4, q5, q6, q7⟩ := hO.2.2.2.2.2.2.1 x hx
  have hi := nn_in (a := rh x) (n := 3500) (by omega) (by omega)
  obtain ⟨⟨t1, t2, t3, t4, t5⟩, -⟩ := f1.2.2.2 x hx
  rw [nn_tn (by omega), t2 (Or.inl hk)]
  refine ⟨hi, C.mono (s11_pok hm h6) ?_⟩
  rintro o m1 ⟨rfl, rfl⟩
  have l1 : nn (tO (aF s x) / 2) ≤ 1 ↔ tO (aF s x) / 2 ≤ 1 := nn_le (b := 1) (by omega) (by decide)
  have l0 : nn (tO (aF s x) / 2) ≤ 0 ↔ tO (aF s x) / 2 ≤ 0 := nn_le (b := 0) (by omega) (by decide)
  refine ⟨_, rfl, hm, ?_⟩
  rw [l1, l0, t3, t4]
  have pu : ∀ {m2 : Mm} {s2 : Ac} {y : Nat}, St m2 → HM m2 s2 rh False → aE s2 = 0 → QOK fs s2 → cn3 (allK s2) < 5000 → C m9_push_ [.ref 23, .int 1, .int (nn (rh y))] m2 (fun r m' => r = .inl none ∧ Fr SKc m2 m' ∧ HM m' (push s2 [(1, y, 0, 0, .nil)]) rh False) := fun {m2 s2 y} a1 a2 a3 a4 a5 => s9_pushT_ (t := (1, y, 0, 0, .nil)) a1 a2 a3 a4 a5 (show (1 : Nat) ≠ 3 by decide) ⟨by simp [pM, mI_set], by simp [pM, mI_set]⟩
  refine ⟨fun w => ⟨fun w0 => ?_, fun w0 => ⟨hi, ?_⟩⟩, fun w => ⟨hi, ?_⟩⟩
  · have e1 : tA (aF s x) = none := by
      cases e : tA (aF s x) with
      | none => rfl
      | some y =>
        rw [e] at hA
        have := of_decide_eq_true hA.symm
        omega
    have e2 : tB (aF s x) = none := by
      cases e : tB (aF s x) with
      | none => rfl
      | some y =>
        rw [e] at hB
        have := of_decide_eq_true hB.symm
        omega
    rw [e1, e2]
    refine ⟨rfl, Fr.refl, ?_⟩
    have : push s (oT 1 none ++ oT 1 none) = s := by
      show setK s ([] ++ topK s) = s
      rw [List.nil_append, setK_self]
    rw [this]
    exact h
  · have e2 : tB (aF s x) = none := by
      cases e : tB (aF s x) with
      | none => rfl
      | some y =>
        rw [e] at hB
        have := of_decide_eq_true hB.symm
        omega
    obtain ⟨y, hy⟩ : ∃ y, tA (aF s x) = some y := Option.isSome_iff_exists.mp (by rw [hA]; exact decide_eq_true (by omega))
    rw [e2, hy]
    refine C.mono (pu (y := y) hm h hE hO (by omega)) ?_
    rintro o2 m2 ⟨rfl, fr2, R2⟩
    exact ⟨rfl, fr2.st hm, rfl, fr2, R2⟩
  · obtain ⟨y, hy⟩ : ∃ y, tA (aF s x) = some y := Option.isSome_iff_exists.mp (by rw [hA]; exact decide_eq_true (by omega))
    obtain ⟨z, hz⟩ : ∃ z, tB (aF s x) = some z := Option.isSome_iff_exists.mp (by rw [hB]; exact decide_eq_true (by omega))
    rw [hy, hz]
    refine C.mono (pu (y := z) hm h hE hO (by omega)) ?_
    rintro o2 m2 ⟨rfl, fr2, R2⟩
    refine ⟨rfl, fr2.st hm, fun w0 => by omega, fun _ => ⟨hi, ?_⟩⟩
    rw [fr2.i (a := 16) (by unfold SKc; omega), t3, hy]
    have hO2 : QOK fs (push s [(1, z, 0, 0, .nil)]) := hO.push (by show cn3 (allK s) + 1 ≤ 4985; omega) (fun t ht => by
      rw [List.mem_singleton.mp ht]
      exact ⟨fun q => absurd q (show ¬ (1 : Nat) = 4 by decide), fun v hv => by rw [List.mem_singleton.mp hv]; exact q7 z hz⟩)
    refine C.mono (pu (y := y) (fr2.st hm) R2 hE hO2 (by rw [allK_push]; show cn3 (allK s) + 1 < 5000; omega)) ?_
    rintro o3 m3 ⟨rfl, fr3, R3⟩
    rw [push_push] at R3
    exact ⟨rfl, (fr2.trans fr3).st hm, rfl, fr2.trans fr3, R3⟩
/-- what the class does with a thing that is to be whole -/
def wholeQ (s : Ac) (r : Nat) : Ac := if 2 ≤ tK (aF s r) then push s [(0, r, 0, 0, .nil), (1, r, 0, 0, .nil)] else if tK (aF s r) = 1 ∧ aM s r ≠ lZ (aV s (aL s)) then push (sM s (up1 (aM s) r (lZ (aV s (aL s))))) (oT 1 (tA (aF s r)) ++ oT 1 (tB (aF s r)) ++ [(3, r, 0, 0, .nil)]) else s
theorem s3_makeWhole {fs : List Fn} {m : Mm} {s : Ac} {rh : Nat → Nat} {x : Nat} (hm : St m) (h : HM m s rh False) (hE : aE s = 0) (hO : QOK fs s) (hc : cn3 (allK s) ≤ 4980) (hx : x < aC s) (hDK : tK (aF s x) = 1 → tO (aF s x) < 6 ∧ (tA (aF s x)).isSome = decide (2 ≤ tO (aF s x)) ∧ (tB (aF s x)).isSome = decide (4 ≤ tO (aF s x))) (hsg : ∀ j, 1 ≤ j → j ≤ aL s → lX (aV s j) < aC s) : C m3_makeWhole [.ref 12, .int (nn (rh x))] m (fun r m' => r = .inl none ∧ Zr m m' ∧ St m' ∧ HM m' (wholeQ s x) rh False) := by
  refine C.of (by decide +kernel) (Nat.le_of_ble_eq_true rfl) rfl (w3_makeWhole hm (C.mono (s3_isForced hm h hE hO hx) ?_))
  rintro o m1 ⟨rfl, rfl⟩
  obtain ⟨f1, f2, f3, f4, f5, f6, f7, f8⟩ := h.all hE
  have hrx := f1.2.1 x hx
  have hO' := hO
  obtain ⟨b1, b2, b3, b4, b5, b6, b7, b8, b9, b10, b11⟩ := hO'
  obtain ⟨q1, q2, q3, q4, q5, q6, q7⟩ := b7 x hx
  obtain ⟨c1, c2, c3, c4, c5, c6⟩ := b11 (aL s) (Nat.le_refl _)
  have hi := nn_in (a := rh x) (n := 3500) (by omega) (by omega)
  have hiL := nn_in (a := aL s) (n := 102) (by omega) (by omega)
  obtain ⟨⟨t1, t2, t3, t4, t5⟩, -, t6⟩ := f1.2.2.2 x hx
  refine ⟨_, rfl, hm, fun w => ?_, fun w => ?_⟩
  · have w2 : tK (aF s x) < 2 := by
      by_cases e : tK (aF s x) < 2
      · exact e
      · rw [if_neg e] at w
        exact (w rfl).elim
    have e4 := ((f3.2 (aL s) (Nat.le_refl _)).1 (Or.inr (fun q => q))).2
    have ez : nn (aM s x) = nn (lZ (aV s (aL s))) ↔ aM s x = lZ (aV s (aL s)) := nn_eq (by omega) (by omega)
    rw [nn_tn (a := rh x) (by omega), t1, f3.1, nn_tn (a := aL s) (by omega), t6, e4, show (1 : Int32) = nn 1 from rfl, tgk q2 1 (by decide) (by decide), ez]
    refine ⟨hi, fun w3 => ⟨rfl, Zr.refl, hm, ?_⟩, fun w3 => ⟨hi, hiL, fun w4 => ⟨rfl, Zr.refl, hm, ?_⟩, fun w4 => ⟨hiL, hi, ?_⟩⟩⟩
    · have : wholeQ s x = s := by
        unfold wholeQ
        rw [if_neg (by omega), if_neg (fun q => w3 q.1)]
      rw [this]
      exact h
    · have : wholeQ s x = s := by
        unfold wholeQ
        rw [if_neg (by omega), if_neg (fun q => q.2 w4)]
      rw [this]
      exact h
    · obtain ⟨d1, d2, d3⟩ := hDK w3
      have fr1 : Fr STc m1 (mSetI m1 20 (rh x) (nn (lZ (aV s (aL s))))) := Fr.refl.set (Or.inl (by omega))
      have T1 : HT (mSetI m1 20 (rh x) (nn (lZ (aV s (aL s))))) (aC s) (aF s) (up1 (aM s) x (lZ (aV s (aL s)))) rh := by
        refine ⟨f1.1, f1.2.1, f1.2.2.1, fun y hy => ?_⟩
        obtain ⟨a1, a2, a3⟩ := f1.2.2.2 y hy
        refine ⟨a1.fe (fun a z1 z2 => by rw [mI_fn (by omega)]), a2.fe (b7 y hy).1 (Up.fr fr1 (fun a j q => by unfold STc at q; omega)) rfl rfl (fun _ _ => rfl), ?_⟩
        rw [mI_set]
        by_cases e : y = x
        · rw [e, up1_at, if_pos ⟨rfl, rfl⟩]
        · have ne : rh y ≠ rh x := fun q => e (f1.2.2.1 y x hy hx q)
          rw [if_neg (by omega), up1_ne e]
          exact a3
      have R1 : HM (mSetI m1 20 (rh x) (nn (lZ (aV s (aL s))))) (sM s (up1 (aM s) x (lZ (aV s (aL s))))) rh False := h.t (n := aC s) (f := aF s) (g := up1 (aM s) x (lZ (aV s (aL s)))) hE hO fr1 T1 (fun _ _ => rfl) (fun _ _ => rfl) (f8.st rfl (fun _ _ => rfl)) hsg
      have hO1 : QOK fs (sM s (up1 (aM s) x (lZ (aV s (aL s))))) := by
        refine ⟨b1, b2, b3, b4, b5, b6, fun y hy => ?_, fun y hy => ?_, b9, b10, b11⟩
        · obtain ⟨p1, p2, p3, p4, p5, p6⟩ := b7 y hy
          refine ⟨p1, p2, p3, p4, ?_, p6⟩
          show up1 (aM s) x _ y ≤ 1000
          by_cases e : y = x
          · rw [e, up1_at]
            exact c3
          · rw [up1_ne e]
            exact p5
        · have hy2 : aC s ≤ y := hy
          exact (up1_ne (by omega)).trans (b8 y hy)
      have R2 := R1.ghost (t := (3, x, 0, 0, .nil)) hE hO1 rfl
      have hO2 : QOK fs (push (sM s (up1 (aM s) x (lZ (aV s (aL s))))) [(3, x, 0, 0, .nil)]) := hO1.push b4 (fun t ht => by
        rw [List.mem_singleton.mp ht]
        exact ⟨fun q => absurd q (show ¬ (3 : Nat) = 4 by decide), fun v hv => by rw [List.mem_singleton.mp hv]; exact hx⟩)
      refine C.mono (s3_pushParts (m0 := m1) (St.i hm) R2 hE hO2 (by rw [allK_push]; exact hc) hx w3 d1 d2 d3) ?_
      rintro o2 m2 ⟨rfl, fr2, R3⟩
      refine ⟨rfl, fr2.st (St.i hm), rfl, (STc_zr fr1).trans (SKc_zr fr2), fr2.st (St.i hm), ?_⟩
      have : wholeQ s x = push (sM s (up1 (aM s) x (lZ (aV s (aL s))))) (oT 1 (tA (aF s x)) ++ oT 1 (tB (aF s x)) ++ [(3, x, 0, 0, .nil)]) := by
        unfold wholeQ
        rw [if_neg (by omega), if_pos ⟨w3, w4⟩]
      rw [this]
      rw [push_push] at R3
      exact R3
  · have w2 : 2 ≤ tK (aF s x) := by
      by_cases e : tK (aF s x) < 2
      · rw [if_pos e] at w
        exact absurd w (by decide)
      · omega
    refine C.mono (s9_pushT_ (t := (1, x, 0, 0, .nil)) hm h hE hO (by omega) (show (1 : Nat) ≠ 3 by decide) ⟨by simp [pM, mI_set], by simp [pM, mI_set]⟩) ?_
    rintro o2 m2 ⟨rfl, fr2, R2⟩
    have hO2 : QOK fs (push s [(1, x, 0, 0, .nil)]) := hO.push (by show cn3 (allK s) + 1 ≤ 4985; omega) (fun t ht => by
      rw [List.mem_singleton.mp ht]
      exact ⟨fun q => absurd q (show ¬ (1 : Nat) = 4 by decide), fun v hv => by rw [List.mem_singleton.mp hv]; exact hx⟩)
    refine ⟨rfl, fr2.st hm, C.mono (s9_pushT_ (t := (0, x, 0, 0, .nil)) (fr2.st hm) R2 hE hO2 (by rw [allK_push]; show cn3 (allK s) + 1 < 5000; omega) (show (0 : Nat) ≠ 3 by decide) ⟨by simp [pM, mI_set], by simp [pM, mI_set]⟩) ?_⟩
    rintro o3 m3 ⟨rfl, fr3, R3⟩
    refine ⟨rfl, (fr2.trans fr3).st hm, rfl, (SKc_zr fr2).trans (SKc_zr fr3), (fr2.trans fr3).st hm, ?_⟩
    rw [push_push] at R3
    have : wholeQ s x = push s [(0, x, 0, 0, .nil), (1, x, 0, 0, .nil)] := by
      unfold wholeQ
      rw [if_pos w2]
    rw [this]
    exact R3
