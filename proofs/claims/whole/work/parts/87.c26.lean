/-! THE OTHER ONE: force -/
/-- what is needed of a thing that is forced -/
def FOQ (fs : List Fn) (s : Ac) (x : Nat) : Prop := x < aC s ∧ tW (aF s x) ≤ aL s ∧ (tK (aF s x) = 2 → (∃ xf, CS fs s x xf ∧ ∀ w r, lG (aV s (tW (aF s x))) = w :: r → 1 < xf.2.2.length → w < xf.2.2.length) ∧ ∀ u, u ∈ allK s → u.1 = 4 → u.2.2.1 ≠ x) ∧ (tK (aF s x) = 3 → ∀ w r, lG (aV s (tW (aF s x))) = w :: r → w < 2) ∧ (3 ≤ tK (aF s x) → tK (aF s x) ≤ 5 → (tA (aF s x)).isSome = true ∧ (tB (aF s x)).isSome = true)
theorem qpush1 {fs : List Fn} {s : Ac} {k x y u : Nat} (hO : QOK fs s) (hc : cn3 (allK s) ≤ 4984) (hk : k ≠ 4) (hx : ∀ v, v ∈ kTh (k, x, y, u, .nil) → v < aC s) : QOK fs (push s [(k, x, y, u, .nil)]) := hO.push (by
  show (if k = 3 then cn3 (allK s) else cn3 (allK s) + 1) ≤ 4985
  split <;> omega) (fun t ht => by
  rw [List.mem_singleton.mp ht]
  exact ⟨fun q => (hk q).elim, hx⟩)
theorem cn3_1 {s : Ac} {t : Tk} : cn3 (allK (push s [t])) ≤ cn3 (allK s) + 1 := by
  rw [allK_push]
  show (if t.1 = 3 then cn3 (allK s) else cn3 (allK s) + 1) ≤ _
  split <;> omega
theorem s3_force {fs : List Fn} {m : Mm} {s : Ac} {rh : Nat → Nat} {x : Nat} (hm : St m) (hF : CF m fs) (hpw : PW fs [] none) (h : HM m s rh False) (hE : aE s = 0) (hO : QOK fs s) (hP : PLK s) (hc5 : cn3 (allK s) ≤ 4980) (hPl : aP s < 102) (hL : aL s < 101) (hX : FOQ fs s x) (hFo : FOK s (tW (aF s x))) (npd : ¬ pdT s) : C m3_force [.ref 12, .int (nn (rh x))] m (PQ m (forceG fs true s x) rh) := by
  refine C.of (by decide +kernel) (Nat.le_of_ble_eq_true rfl) rfl (w3_force hm ?_)
  obtain ⟨hx, ho, x2, x3, x4⟩ := hX
  obtain ⟨f1, -⟩ := h.all hE
  have hsg := hFo.2.2.1
  have b1 := hO.1
  have hrx := f1.2.1 x hx
  obtain ⟨q1, q2, q3, q4, q5, q6, q7⟩ := hO.2.2.2.2.2.2.1 x hx
  have hi := nn_in (a := rh x) (n := 3500) (by omega) (by omega)
  obtain ⟨⟨t1, t2, t3, t4, t5⟩, -⟩ := f1.2.2.2 x hx
  have k2 : nn (tg (tK (aF s x))) = 2 ↔ tK (aF s x) = 2 := tgk q2 2 (by decide) (by decide)
  have k3 : nn (tg (tK (aF s x))) = 3 ↔ tK (aF s x) = 3 := tgk q2 3 (by decide) (by decide)
  have k4 : nn (tg (tK (aF s x))) = 4 ↔ tK (aF s x) = 4 := tgk q2 4 (by decide) (by decide)
  have k5 : nn (tg (tK (aF s x))) = 5 ↔ tK (aF s x) = 5 := tgk q2 5 (by decide) (by decide)
  have k6 : nn (tg (tK (aF s x))) = 6 ↔ tK (aF s x) = 6 := tgk q2 6 (by decide) (by decide)
  rw [nn_tn (a := rh x) (by omega), t1, k2, k3, k4, k5, k6, t3, t4]
  have four : ∀ (ka kb : Nat) (va vb : Int32), (ka = 10 ∧ va = 4 ∧ kb = 7 ∧ vb = 5) ∨ (ka = 11 ∧ va = 6 ∧ kb = 8 ∧ vb = 7) → ∀ a b, tA (aF s x) = some a → tB (aF s x) = some b → forceG fs true s x = push s [(1, a, 0, 0, .nil), (1, b, 0, 0, .nil), (ka, a, b, x, .nil), (kb, x, 0, 0, .nil)] →
      C m9_push_ [(.ref 23), (.int vb), (.int (nn (rh x)))] m (fun o m11 => o = .inl none ∧ St m11 ∧ C m9_push [(.ref 23), (.int va), (.int (nn (rh a))), (.int (nn (rh b))), (.int (nn (rh x)))] m11 (fun o m13 => o = .inl none ∧ St m13 ∧ C m9_push_ [(.ref 23), (.int 1), (.int (nn (rh b)))] m13 (fun o m15 => o = .inl none ∧ St m15 ∧ C m9_push_ [(.ref 23), (.int 1), (.int (nn (rh a)))] m15 (fun o m17 => o = .inl none ∧ St m17 ∧ PQ m (forceG fs true s x) rh (.inl none) m17)))) := by
    intro ka kb va vb hk a b ha hb hf
    have ha2 := q6 a ha
    have hb2 := q7 b hb
    refine C.mono (s9_pushK (k := kb) (x := x) (a := vb) hm h hE hO (by omega) (by
      rcases hk with ⟨-, -, r1, r2⟩ | ⟨-, -, r1, r2⟩
      · exact Or.inr (Or.inr (Or.inr (Or.inl ⟨r1, r2⟩)))
      · exact Or.inr (Or.inr (Or.inr (Or.inr (Or.inl ⟨r1, r2⟩)))))) ?_
    rintro o1 m1 ⟨rfl, fr1, R1⟩
    have s1 := fr1.st hm
    have O1 := qpush1 hO (k := kb) (x := x) (y := 0) (u := 0) (by omega) (by omega) (fun v hv => by
      rcases hk with ⟨-, -, rfl, -⟩ | ⟨-, -, rfl, -⟩ <;> rw [List.mem_singleton.mp hv] <;> exact hx)
    have c1 := cn3_1 (s := s) (t := (kb, x, 0, 0, .nil))
    refine ⟨rfl, s1, C.mono (s9_push3 (k := ka) (x := a) (y := b) (u := x) (a := va) s1 R1 hE O1 (by omega) (by
      rcases hk with ⟨r1, r2, -⟩ | ⟨r1, r2, -⟩
      · exact Or.inl ⟨r1, r2⟩
      · exact Or.inr ⟨r1, r2⟩)) ?_⟩
    rintro o2 m2 ⟨rfl, fr2, R2⟩
    have s2 := fr2.st s1
    have O2 := qpush1 O1 (k := ka) (x := a) (y := b) (u := x) (by omega) (by omega) (fun v hv => by
      have hv : v ∈ [a, b, x] := by rcases hk with ⟨rfl, -⟩ | ⟨rfl, -⟩ <;> exact hv
      simp only [List.mem_cons, List.not_mem_nil, or_false] at hv
      show v < aC s
      rcases hv with rfl | rfl | rfl
      · exact ha2
      · exact hb2
      · exact hx)
    have c2 := cn3_1 (s := push s [(kb, x, 0, 0, .nil)]) (t := (ka, a, b, x, .nil))
    refine ⟨rfl, s2, C.mono (s9_pushK (k := 1) (x := b) (a := 1) s2 R2 hE O2 (by omega) (Or.inr (Or.inl ⟨rfl, rfl⟩))) ?_⟩
    rintro o3 m3 ⟨rfl, fr3, R3⟩
    have s3 := fr3.st s2
    have O3 := qpush1 O2 (k := 1) (x := b) (y := 0) (u := 0) (by omega) (by omega) (fun v hv => by rw [List.mem_singleton.mp hv]; exact hb2)
    have c3 := cn3_1 (s := push (push s [(kb, x, 0, 0, .nil)]) [(ka, a, b, x, .nil)]) (t := (1, b, 0, 0, .nil))
    refine ⟨rfl, s3, C.mono (s9_pushK (k := 1) (x := a) (a := 1) s3 R3 hE O3 (by omega) (Or.inr (Or.inl ⟨rfl, rfl⟩))) ?_⟩
    rintro o4 m4 ⟨rfl, fr4, R4⟩
    have s4 := fr4.st s3
    refine ⟨rfl, s4, rfl, (((SKc_zr fr1).trans (SKc_zr fr2)).trans (SKc_zr fr3)).trans (SKc_zr fr4), s4, ?_⟩
    rw [hf]
    rw [push_push, push_push, push_push] at R4
    exact R4.fin (fun _ => pdT_push (show (1 : Nat) ≠ 12 by decide))
  have lift : ∀ {y : Mi} {s' : Ac}, forceG fs true s x = s' → C y [.ref 12, .int (nn (rh x))] m (PQ m s' rh) → C y [.ref 12, .int (nn (rh x))] m (fun o m5 => o = .inl none ∧ St m5 ∧ PQ m (forceG fs true s x) rh (.inl none) m5) := by
    intro y s' e k
    refine C.mono k ?_
    rintro o m5 ⟨rfl, z, s5, R⟩
    refine ⟨rfl, s5, rfl, z, s5, ?_⟩
    rw [e]
    exact R
  refine ⟨hi, hi, hi, fun w => ?_, fun w => ?_, fun w => ?_, fun w => ?_, fun w => ?_, fun w2 w3 w4 w5 w6 => ⟨rfl, Zr.refl, hm, ?_⟩⟩
  · obtain ⟨⟨xf, y1, y2⟩, y3⟩ := x2 w
    refine lift (s' := callA fs s x) ?_ (s3_startCall hm hF hpw h hE hO hP hc5 hPl hx y1 ho y2 hFo y3)
    unfold forceG
    rw [w]
    rfl
  · obtain ⟨y1, y2⟩ := x4 (by omega) (by omega)
    obtain ⟨a, ha⟩ := Option.isSome_iff_exists.mp y1
    obtain ⟨b, hb⟩ := Option.isSome_iff_exists.mp y2
    exact lift rfl (s3_choose hm h hE hO hc5 hx w ha hb ho (x3 w) hsg)
  · obtain ⟨y1, y2⟩ := x4 (by omega) (by omega)
    obtain ⟨a, ha⟩ := Option.isSome_iff_exists.mp y1
    obtain ⟨b, hb⟩ := Option.isSome_iff_exists.mp y2
    rw [ha, hb]
    refine four 10 7 4 5 (Or.inl ⟨rfl, rfl, rfl, rfl⟩) a b ha hb ?_
    unfold forceG
    rw [w, ha, hb]
    rfl
  · obtain ⟨y1, y2⟩ := x4 (by omega) (by omega)
    obtain ⟨a, ha⟩ := Option.isSome_iff_exists.mp y1
    obtain ⟨b, hb⟩ := Option.isSome_iff_exists.mp y2
    rw [ha, hb]
    refine four 11 8 6 7 (Or.inr ⟨rfl, rfl, rfl, rfl⟩) a b ha hb ?_
    unfold forceG
    rw [w, ha, hb]
    rfl
  · refine lift (s' := sL s (aL s + 1) (up1 (aV s) (aL s + 1) (x, 0, [], [], [tRun], 0))) ?_ (s3_startSome hm h hE hO hL hx)
    unfold forceG
    rw [w]
    rfl
  · have : forceG fs true s x = s := by
      unfold forceG
      split
      · exact (w2 (by assumption)).elim
      · exact (w3 (by assumption)).elim
      · exact (w4 (by assumption)).elim
      · exact (w5 (by assumption)).elim
      · exact (w6 (by assumption)).elim
      · rfl
    rw [this]
    exact h.fin (fun _ => npd)
