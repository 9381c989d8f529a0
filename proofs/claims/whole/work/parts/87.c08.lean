/-! THE OTHER ONE: numbers that fit, kept; choices, pairs, what is asked -/
theorem QOK.lk {fs : List Fn} {s : Ac} {x y : Nat} (h : QOK fs s) (hy : y < aC s) : QOK fs (link s x y) := by
  obtain ⟨b1, b2, b3, b4, b5, b6, b7, b8, b9, b10, b11⟩ := h
  refine ⟨b1, b2, b3, b4, b5, b6, fun z hz => ?_, b8, b9, b10, b11⟩
  obtain ⟨p1, p2, p3, p4, p5, p6, p7⟩ := b7 z hz
  show tWf fs (up1 (aF s) x _ z) ∧ tK (up1 (aF s) x _ z) < 8 ∧ tO (up1 (aF s) x _ z) < 100 ∧ tW (up1 (aF s) x _ z) ≤ 101 ∧ aM s z ≤ 1000 ∧ (∀ y, tA (up1 (aF s) x _ z) = some y → y < aC s) ∧ ∀ y, tB (up1 (aF s) x _ z) = some y → y < aC s
  by_cases e : z = x
  · subst e
    rw [up1_at]
    exact ⟨⟨fun q => absurd q (show ¬ (7 : Nat) = 6 by decide), fun q => absurd q (show ¬ (7 : Nat) = 2 by decide)⟩, show 7 < 8 by decide, p3, p4, p5, fun v hv => by cases hv; exact hy, p7⟩
  · rw [up1_ne e]
    exact ⟨p1, p2, p3, p4, p5, p6, p7⟩
theorem QOK.da {fs : List Fn} {s : Ac} {x k : Nat} {a b : Option Nat} (h : QOK fs s) (hk : k < 100) (ha : ∀ y, a = some y → y < aC s) (hb : ∀ y, b = some y → y < aC s) : QOK fs (data s x k a b) := by
  obtain ⟨b1, b2, b3, b4, b5, b6, b7, b8, b9, b10, b11⟩ := h
  refine ⟨b1, b2, b3, b4, b5, b6, fun z hz => ?_, b8, b9, b10, b11⟩
  obtain ⟨p1, p2, p3, p4, p5, p6, p7⟩ := b7 z hz
  show tWf fs (up1 (aF s) x _ z) ∧ tK (up1 (aF s) x _ z) < 8 ∧ tO (up1 (aF s) x _ z) < 100 ∧ tW (up1 (aF s) x _ z) ≤ 101 ∧ aM s z ≤ 1000 ∧ (∀ y, tA (up1 (aF s) x _ z) = some y → y < aC s) ∧ ∀ y, tB (up1 (aF s) x _ z) = some y → y < aC s
  by_cases e : z = x
  · subst e
    rw [up1_at]
    exact ⟨⟨fun q => absurd q (show ¬ (1 : Nat) = 6 by decide), fun q => absurd q (show ¬ (1 : Nat) = 2 by decide)⟩, show 1 < 8 by decide, hk, p4, p5, ha, hb⟩
  · rw [up1_ne e]
    exact ⟨p1, p2, p3, p4, p5, p6, p7⟩
theorem QOK.step {fs : List Fn} {s : Ac} (h : QOK fs s) : QOK fs (stepA s) := by
  obtain ⟨b1, b2, b3, b4, b5, b6, b7⟩ := h
  unfold stepA
  split
  · exact ⟨b1, b2, b3, b4, b5, b6, b7⟩
  · exact ⟨b1, b2, b3, b4, show aS s + 1 ≤ 100 by omega, b6, b7⟩
theorem QOK.sdd {fs : List Fn} {s : Ac} {o : Nat} {d : List (Nat × Nat)} {g : List Nat} (h : QOK fs s) (hd : ∀ e, e ∈ d → e.1 < e.2 ∧ e.2 < 100) (hl : d.length + g.length ≤ 40) (hg : ∀ w, w ∈ g → w < 100) : QOK fs (setD s o d g) := by
  obtain ⟨b1, b2, b3, b4, b5, b6, b7, b8, b9, b10, b11⟩ := h
  have hA : allK (setD s o d g) = allK s := flatB_k (fun j _ => by
    show lK (up1 (aV s) o _ j) = _
    by_cases e : j = o
    · rw [e, up1_at]
    · rw [up1_ne e])
  refine ⟨b1, b2, b3, by rw [hA]; exact b4, b5, b6, b7, b8, b9, by rw [hA]; exact b10, fun j hj => ?_⟩
  have := b11 j hj
  show lU (up1 (aV s) o _ j) ≤ 20 ∧ lX (up1 (aV s) o _ j) < aC s + 1 ∧ lZ (up1 (aV s) o _ j) ≤ 1000 ∧ (∀ d, d ∈ lD (up1 (aV s) o _ j) → d.1 < d.2 ∧ d.2 < 100) ∧ (lD (up1 (aV s) o _ j)).length + (lG (up1 (aV s) o _ j)).length ≤ 40 ∧ ∀ w, w ∈ lG (up1 (aV s) o _ j) → w < 100
  by_cases e : j = o
  · subst e
    rw [up1_at]
    exact ⟨this.1, this.2.1, this.2.2.1, hd, hl, hg⟩
  · rw [up1_ne e]
    exact this
theorem QOK.dec {fs : List Fn} {s : Ac} {o n : Nat} (h : QOK fs s) (ho : o ≤ aL s) (h0 : 0 < n) (hn : n < 100) (hw : ∀ w r, lG (aV s o) = w :: r → w < n) : QOK fs (decA s o n).2 := by
  have h2 := h
  obtain ⟨c1, c2, c3, c4, c5, c6⟩ := h2.2.2.2.2.2.2.2.2.2.2 o ho
  unfold decA
  by_cases w40 : (lD (aV s o)).length = 40
  · rw [if_pos w40]
    exact h
  · rw [if_neg w40]
    cases hg : lG (aV s o) with
    | nil =>
      simp only
      by_cases w0 : o = 0
      · rw [if_pos w0]
        exact h
      · rw [if_neg w0]
        refine h.sdd (fun e he => ?_) (by rw [List.length_cons, List.length_nil]; omega) (fun w hw => by cases hw)
        rcases List.mem_cons.mp he with q | q
        · rw [q]
          exact ⟨h0, hn⟩
        · exact c4 e q
    | cons w r =>
      rw [hg] at c5 c6
      refine h.sdd (fun e he => ?_) (by rw [List.length_cons]; rw [List.length_cons] at c5; omega) (fun v hv => c6 v (List.mem_cons_of_mem _ hv))
      rcases List.mem_cons.mp he with q | q
      · rw [q]
        exact ⟨hw w r hg, hn⟩
      · exact c4 e q
theorem decA_lX {s : Ac} {o n : Nat} : ∀ j, lX (aV (decA s o n).2 j) = lX (aV s j) := by
  intro j
  have hs : ∀ d g, lX (aV (setD s o d g) j) = lX (aV s j) := fun d g => by
    show lX (up1 (aV s) o _ j) = _
    by_cases e : j = o
    · rw [e, up1_at]
    · rw [up1_ne e]
  unfold decA
  split
  · rfl
  · split
    · exact hs _ _
    · split
      · rfl
      · exact hs _ _
theorem decA_E {s : Ac} {o n : Nat} (hE : aE s = 0) (h : aE (decA s o n).2 ≠ 0) : 2 ≤ aE (decA s o n).2 := by
  revert h
  unfold decA
  split
  · exact fun _ => show 2 ≤ 4 by decide
  · split
    · exact fun h => (h hE).elim
    · split
      · exact fun _ => show 2 ≤ 5 by decide
      · exact fun h => (h hE).elim
theorem stepA_E {s : Ac} (hE : aE s = 0) (h : aE (stepA s) ≠ 0) : 2 ≤ aE (stepA s) := by
  revert h
  unfold stepA
  split
  · exact fun _ => show 2 ≤ 4 by decide
  · exact fun h => (h hE).elim
/-- the cell of tasks but for those of act 3 -/
theorem s9_pushK {fs : List Fn} {m : Mm} {s : Ac} {rh : Nat → Nat} {k x : Nat} {a : Int32} (hm : St m) (h : HM m s rh False) (hE : aE s = 0) (hO : QOK fs s) (hb : cn3 (allK s) < 5000) (hk : (k = 0 ∧ a = 0) ∨ (k = 1 ∧ a = 1) ∨ (k = 6 ∧ a = 3) ∨ (k = 7 ∧ a = 5) ∨ (k = 8 ∧ a = 7) ∨ k = 9 ∧ a = 9) : C m9_push_ [.ref 23, .int a, .int (nn (rh x))] m (fun r m' => r = .inl none ∧ Fr SKc m m' ∧ HM m' (push s [(k, x, 0, 0, .nil)]) rh False) := by
  refine s9_pushT_ hm h hE hO hb ?_ ?_
  · show k ≠ 3
    omega
  · rcases hk with ⟨rfl, rfl⟩ | ⟨rfl, rfl⟩ | ⟨rfl, rfl⟩ | ⟨rfl, rfl⟩ | ⟨rfl, rfl⟩ | ⟨rfl, rfl⟩ <;> exact ⟨by simp [pM, mI_set], by simp [pM, mI_set]⟩
theorem s9_push3 {fs : List Fn} {m : Mm} {s : Ac} {rh : Nat → Nat} {k x y u : Nat} {a : Int32} (hm : St m) (h : HM m s rh False) (hE : aE s = 0) (hO : QOK fs s) (hb : cn3 (allK s) < 5000) (hk : (k = 10 ∧ a = 4) ∨ (k = 11 ∧ a = 6)) : C m9_push [.ref 23, .int a, .int (nn (rh x)), .int (nn (rh y)), .int (nn (rh u))] m (fun r m' => r = .inl none ∧ Fr SKc m m' ∧ HM m' (push s [(k, x, y, u, .nil)]) rh False) := by
  refine s9_pushT hm h hE hO hb ?_ ?_
  · show k ≠ 3
    omega
  · rcases hk with ⟨rfl, rfl⟩ | ⟨rfl, rfl⟩ <;> exact ⟨by simp [pM, mI_set], by simp [pM, mI_set], by simp [pM, mI_set], by simp [pM, mI_set]⟩
theorem s3_choose {fs : List Fn} {m : Mm} {s : Ac} {rh : Nat → Nat} {x a b : Nat} (hm : St m) (h : HM m s rh False) (hE : aE s = 0) (hO : QOK fs s) (hc : cn3 (allK s) ≤ 4980) (hx : x < aC s) (hk : tK (aF s x) = 3) (hA : tA (aF s x) = some a) (hB : tB (aF s x) = some b) (ho : tW (aF s x) ≤ aL s) (hw : ∀ w r, lG (aV s (tW (aF s x))) = w :: r → w < 2) (hsg : ∀ j, 1 ≤ j → j ≤ aL s → lX (aV s j) < aC s) : C m3_choose [.ref 12, .int (nn (rh x))] m (PQ m (forceG fs true s x) rh) := by
  refine C.of (by decide +kernel) (Nat.le_of_ble_eq_true rfl) rfl (w3_choose hm ?_)
  obtain ⟨f1, f2, f3, f4, f5, f6, f7, f8⟩ := h.all hE
  have hrx := f1.2.1 x hx
  obtain ⟨q1, q2, q3, q4, q5, q6, q7⟩ := hO.2.2.2.2.2.2.1 x hx
  have b1 := hO.1
  have hi := nn_in (a := rh x) (n := 3500) (by omega) (by omega)
  obtain ⟨⟨t1, t2, t3, t4, t5⟩, -⟩ := f1.2.2.2 x hx
  rw [nn_tn (a := rh x) (by omega), t5]
  refine ⟨hi, C.mono (s3_decide (n := 2) hm h hE hO ho) ?_⟩
  rintro o1 m1 ⟨z1, s1, R1, rfl⟩
  refine ⟨_, rfl, s1, ?_⟩
  have hO1 := hO.dec ho (by decide : 0 < 2) (by decide : 2 < 100) hw
  obtain ⟨e1, e2, e3, e4, e5, e6, e7, e8⟩ := decA_t (s := s) (o := tW (aF s x)) (n := 2)
  have hf : forceG fs true s x = (let d := decA s (tW (aF s x)) 2
    if aE d.2 = 0 then (match (if d.1 = 0 then tA (aF s x) else tB (aF s x)) with
      | some y => push (link d.2 x y) [(0, x, 0, 0, .nil)]
      | none => d.2) else d.2) := by
    unfold forceG
    rw [hk]
    rfl
  rw [hA, hB] at hf
  have hAk : allK (decA s (tW (aF s x)) 2).2 = allK s := by
    show lK (aV (decA s (tW (aF s x)) 2).2 (aL (decA s (tW (aF s x)) 2).2)) ++ flatB _ (aL (decA s (tW (aF s x)) 2).2) = _
    rw [e6, e8, flatB_k (fun j _ => e8 j)]
    rfl
  by_cases hD : aE (decA s (tW (aF s x)) 2).2 = 0
  · rw [if_pos hD]
    have hway : (decA s (tW (aF s x)) 2).1 < 2 := by
      revert hD
      unfold decA
      split
      · exact fun _ => (by decide : 0 < 2)
      · split
        · rename_i w r hg
          exact fun _ => hw w r hg
        · split
          · exact fun _ => (by decide : 0 < 2)
          · exact fun _ => (by decide : 0 < 2)
    have z0 : nn (decA s (tW (aF s x)) 2).1 = 0 ↔ (decA s (tW (aF s x)) 2).1 = 0 := nn_eq (b := 0) (by omega) (by decide)
    have n1 : ¬ nn (decA s (tW (aF s x)) 2).1 = -1 := by
      have : ∀ k, k < 2 → ¬ nn k = -1 := by decide +kernel
      exact this _ hway
    obtain ⟨g1, -⟩ := R1.all hD
    obtain ⟨⟨u1, u2, u3, u4, u5⟩, -⟩ := g1.2.2.2 x (by rw [e1]; exact hx)
    rw [e2, hA] at u3
    rw [e2, hB] at u4
    rw [z0, u3, u4]
    have hsg1 : ∀ j, 1 ≤ j → j ≤ aL (decA s (tW (aF s x)) 2).2 → lX (aV (decA s (tW (aF s x)) 2).2 j) < aC (decA s (tW (aF s x)) 2).2 := fun j j1 j2 => by
      rw [e1, decA_lX j]
      rw [e6] at j2
      exact hsg j j1 j2
    have go : ∀ y, y < aC s → (if aE (decA s (tW (aF s x)) 2).2 = 0 then (match (some y : Option Nat) with
      | some y => push (link (decA s (tW (aF s x)) 2).2 x y) [(0, x, 0, 0, .nil)]
      | none => (decA s (tW (aF s x)) 2).2) else (decA s (tW (aF s x)) 2).2) = forceG fs true s x → C m10_become [(.ref 13), (.int (nn (rh x))), (.int (nn (rh y)))] m1 (fun o m8 => o = .inl none ∧ St m8 ∧ C m9_push_ [(.ref 23), (.int 0), (.int (nn (rh x)))] m8 (fun o m10 => o = .inl none ∧ St m10 ∧ PQ m (forceG fs true s x) rh (.inl none) m10)) := by
      intro y hy hfy
      rw [if_pos hD] at hfy
      refine C.mono (s10_link s1 R1 hD hO1 (x := x) (y := y) (by rw [e1]; exact hx) hsg1) ?_
      rintro o2 m2 ⟨rfl, fr2, R2⟩
      have hO2 : QOK fs (link (decA s (tW (aF s x)) 2).2 x y) := hO1.lk (by rw [e1]; exact hy)
      refine ⟨rfl, fr2.st s1, C.mono (s9_pushK (k := 0) (fr2.st s1) R2 hD hO2 (by
        show cn3 (allK (decA s (tW (aF s x)) 2).2) < 5000
        rw [hAk]
        omega) (Or.inl ⟨rfl, rfl⟩)) ?_⟩
      rintro o3 m3 ⟨rfl, fr3, R3⟩
      refine ⟨rfl, fr3.st (fr2.st s1), rfl, (z1.trans (STc_zr fr2)).trans (SKc_zr fr3), fr3.st (fr2.st s1), ?_⟩
      rw [← hfy]
      exact R3.fin (fun _ => pdT_push (show (0 : Nat) ≠ 12 by decide))
    refine ⟨fun q => (n1 q).elim, fun _ => ⟨fun w => ⟨hi, go b (q7 b hB) ?_⟩, fun w => ⟨hi, go a (q6 a hA) ?_⟩⟩⟩
    · rw [hf]
      simp only
      rw [if_neg w]
    · rw [hf]
      simp only
      rw [if_pos w]
  · rw [if_neg hD]
    refine ⟨fun _ => ⟨rfl, z1, s1, ?_⟩, fun q => (q rfl).elim⟩
    rw [hf]
    simp only
    rw [if_neg hD]
    exact R1.fin (fun w => by have := decA_E hE hD; omega)
