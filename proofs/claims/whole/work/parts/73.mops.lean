/-! THE REFERENCE'S MEMORY OF A RUN: one thing at a time -/
theorem allK_setK {s : Ac} {l : List Tk} : allK (setK s l) = l ++ flatB (aV s) (aL s) := by
  show lK (up1 (aV s) (aL s) _ (aL s)) ++ flatB (up1 (aV s) (aL s) _) (aL s) = _
  rw [up1_at, flatB_up (Nat.le_refl _)]
  rfl
theorem allK_push {s : Ac} {l : List Tk} : allK (push s l) = l ++ allK s := by
  unfold push
  rw [allK_setK, List.append_assoc]
  rfl
theorem RV.v {m : Mm} {L : Nat} {v v' : Nat → Lv} (h : RV m L v) (hv : ∀ j, j ≤ L → lD (v' j) = lD (v j) ∧ lG (v' j) = lG (v j) ∧ lX (v' j) = lX (v j) ∧ lU (v' j) = lU (v j)) (hk : ∀ j, j < L → lK (v' j) = lK (v j)) : RV m L v' := by
  refine ⟨h.1, fun j hj => ?_⟩
  obtain ⟨h1, h2, h3, h4⟩ := hv j hj
  rw [h1, h2, h3, h4, flatB_k (v := v) (fun i hi => hk i (by omega))]
  exact h.2 j hj
theorem RV.setK {m : Mm} {s : Ac} {l : List Tk} (h : RV m (aL s) (aV s)) : RV m (aL s) (aV (setK s l)) := by
  refine h.v (fun j _ => ?_) (fun j hj => ?_)
  · show lD (up1 (aV s) (aL s) _ j) = _ ∧ lG (up1 (aV s) (aL s) _ j) = _ ∧ lX (up1 (aV s) (aL s) _ j) = _ ∧ lU (up1 (aV s) (aL s) _ j) = _
    by_cases e : j = aL s
    · rw [e, up1_at]
      exact ⟨rfl, rfl, rfl, rfl⟩
    · rw [up1_ne e]
      exact ⟨rfl, rfl, rfl, rfl⟩
  · show lK (up1 (aV s) (aL s) _ j) = _
    rw [up1_ne (by omega)]
theorem RD0.setK {m : Mm} {s : Ac} {l : List Tk} (h : RD m 0 (lD (aV s 0)) (lG (aV s 0))) : RD m 0 (lD (aV (setK s l) 0)) (lG (aV (setK s l) 0)) := by
  show RD m 0 (lD (up1 (aV s) (aL s) _ 0)) (lG (up1 (aV s) (aL s) _ 0))
  by_cases e : 0 = aL s
  · rw [← e, up1_at]
    exact h
  · rw [up1_ne e]
    exact h
/-- other tasks -/
theorem RM.k {m m' : Mm} {s : Ac} {l : List Tk} (h : RM m s) (hE : aE s = 0) (he : ∀ a, (a < 686 ∨ 689 < a) → a ≠ 668 → mI m' a = mI m a) (h8 : ∀ j, j ≠ 24 → mI m' 668 j = mI m 668 j) (hl : mI m' 668 24 = nn (l ++ flatB (aV s) (aL s)).length) (hq : RQ m' (l ++ flatB (aV s) (aL s))) : RM m' (setK s l) := by
  obtain ⟨f1, f2, f3, f4, f5, f6⟩ := h.2.2.2 (by omega)
  have h0 : ∀ a, 690 ≤ a → a ≤ 696 → mI m' a = mI m a := fun a a1 a2 => he a (by omega) (by omega)
  refine ⟨(h8 29 (by decide)).trans h.1, fun w => ?_, (RD0.setK h.2.2.1).fe2 (fun a a1 a2 => h0 a (by omega) a2), fun _ => ⟨f1.fe (fun a a1 a2 => he a (by omega) (by omega)) (h8 13 (by decide)), f2.fe (he 685 (by omega) (by omega)) (h8 22 (by decide)), (RV.setK f3).fe h0 (h8 31 (by decide)), ?_, ?_, (h8 30 (by decide)).trans f6⟩⟩
  · have w2 : aE s = 5 := w
    omega
  · rw [allK_setK]
    exact hl
  · rw [allK_setK]
    exact hq
theorem RM.all {m : Mm} {s : Ac} (h : RM m s) (hE : aE s = 0) : RF m s := h.2.2.2 (by omega)
def SK (a j : Nat) : Prop := (686 ≤ a ∧ a ≤ 689) ∨ a = 668 ∧ j = 24
theorem tM_fr {m : Mm} {n : Nat} {a b c d : Int32} : Fr SK m (tM m n a b c d) := ((((Fr.refl.set (Or.inl (by omega))).set (Or.inl (by omega))).set (Or.inl (by omega))).set (Or.inl (by omega))).set (Or.inr ⟨rfl, rfl⟩)
theorem s12_push {m : Mm} {s : Ac} {t : Tk} {a b c d : Int32} (hm : St m) (h : RM m s) (hE : aE s = 0) (hb : (allK s).length < 20000) (ht : TK (tM m (allK s).length a b c d) (allK s).length t) : C m12_task [.ref 668, .int a, .int b, .int c, .int d] m (fun r m' => r = .inl none ∧ Fr SK m m' ∧ RM m' (push s [t])) := by
  obtain ⟨f1, f2, f3, f4, f5, f6⟩ := h.all hE
  refine C.mono (s12_task hm f4 hb a b c d) ?_
  rintro o m' ⟨rfl, rfl⟩
  refine ⟨rfl, tM_fr, h.k hE (fun x x1 x2 => tM_fr.fn (fun j => by unfold SK; omega)) (fun j hj => tM_fr.i (by unfold SK; omega)) ?_ ?_⟩
  · show nn ((allK s).length + 1) = nn ([t] ++ topK s ++ flatB (aV s) (aL s)).length
    rw [List.append_assoc]
    rfl
  · rw [List.append_assoc]
    exact ⟨ht, f5.fe (tM_fr.fn (fun j => by unfold SK; omega)) (fun x i x1 x2 hi => by
      have hi2 : i < (allK s).length := hi
      have e : i ≠ (allK s).length := by omega
      simp [tM, mI_set, e]
      omega)⟩
theorem s12_push1 {m : Mm} {s : Ac} {k x : Nat} (hm : St m) (h : RM m s) (hE : aE s = 0) (hb : (allK s).length < 20000) (hk : k = 0 ∨ k = 1 ∨ k = 2 ∨ k = 3 ∨ k = 6 ∨ k = 9) : C m12_task [.ref 668, .int (nn k), .int (nn x), .int 0, .int 0] m (fun r m' => r = .inl none ∧ Fr SK m m' ∧ RM m' (push s [(k, x, 0, 0, .nil)])) := by
  refine s12_push hm h hE hb ?_
  rcases hk with rfl | rfl | rfl | rfl | rfl | rfl <;> exact ⟨by simp [tM, mI_set]; rfl, by simp [tM, mI_set]⟩
theorem s12_push4 {m : Mm} {s : Ac} {k q y c : Nat} {t : Tr} (hm : St m) (h : RM m s) (hE : aE s = 0) (hb : (allK s).length < 20000) (hk : k = 4 ∨ k = 5) (hq : q + tsz t ≤ 876) (ht : TC m q t) : C m12_task [.ref 668, .int (nn k), .int (nn q), .int (nn y), .int (nn c)] m (fun r m' => r = .inl none ∧ Fr SK m m' ∧ RM m' (push s [(k, y, c, 0, t)])) := by
  refine s12_push hm h hE hb ?_
  have ht2 : TC (tM m (allK s).length (nn k) (nn q) (nn y) (nn c)) q t := ht.fe (tM_fr.fn (fun j => by unfold SK; omega))
  rcases hk with rfl | rfl <;> exact ⟨by simp [tM, mI_set]; rfl, by simp [tM, mI_set], by simp [tM, mI_set], q, by simp [tM, mI_set], hq, ht2⟩
/-- other things -/
theorem RM.t {m m' : Mm} {s : Ac} {n : Nat} {f : Nat → Th} {g : Nat → Nat} (h : RM m s) (hE : aE s = 0) (he : ∀ a, (a < 677 ∨ 684 < a) → a ≠ 668 → mI m' a = mI m a) (h8 : ∀ j, j ≠ 13 → mI m' 668 j = mI m 668 j) (ht : RT m' n f g) : RM m' (sM (sT s n f) g) := by
  obtain ⟨f1, f2, f3, f4, f5, f6⟩ := h.all hE
  have h0 : ∀ a, 690 ≤ a → a ≤ 696 → mI m' a = mI m a := fun a a1 a2 => he a (by omega) (by omega)
  refine ⟨(h8 29 (by decide)).trans h.1, fun w => ?_, h.2.2.1.fe2 (fun a a1 a2 => h0 a (by omega) a2), fun _ => ⟨ht, f2.fe (he 685 (by omega) (by omega)) (h8 22 (by decide)), f3.fe h0 (h8 31 (by decide)), (h8 24 (by decide)).trans f4, f5.fe2 (he 676 (by omega) (by omega)) (fun a a1 a2 => he a (by omega) (by omega)), (h8 30 (by decide)).trans f6⟩⟩
  have w2 : aE s = 5 := w
  omega
/-- other names -/
theorem RM.n {m m' : Mm} {s : Ac} {n : Nat} {g : Nat → Nat → Option Nat} (h : RM m s) (hE : aE s = 0) (he : ∀ a, a ≠ 685 → a ≠ 668 → mI m' a = mI m a) (h8 : ∀ j, j ≠ 22 → mI m' 668 j = mI m 668 j) (hn : RN m' n g) : RM m' (sN s n g) := by
  obtain ⟨f1, f2, f3, f4, f5, f6⟩ := h.all hE
  have h0 : ∀ a, 690 ≤ a → a ≤ 696 → mI m' a = mI m a := fun a a1 a2 => he a (by omega) (by omega)
  refine ⟨(h8 29 (by decide)).trans h.1, fun w => ?_, h.2.2.1.fe2 (fun a a1 a2 => h0 a (by omega) a2), fun _ => ⟨f1.fe (fun a a1 a2 => he a (by omega) (by omega)) (h8 13 (by decide)), hn, f3.fe h0 (h8 31 (by decide)), (h8 24 (by decide)).trans f4, f5.fe2 (he 676 (by omega) (by omega)) (fun a a1 a2 => he a (by omega) (by omega)), (h8 30 (by decide)).trans f6⟩⟩
  have w2 : aE s = 5 := w
  omega
def SU (a j : Nat) : Prop := (677 ≤ a ∧ a ≤ 684) ∨ a = 668 ∧ j = 13
theorem RM.tf {m m' : Mm} {s : Ac} {n : Nat} {f : Nat → Th} {g : Nat → Nat} (h : RM m s) (hE : aE s = 0) (hf : Fr SU m m') (ht : RT m' n f g) : RM m' (sM (sT s n f) g) :=
  h.t hE (fun a a1 a2 => hf.fn (fun j => by unfold SU; omega)) (fun j hj => hf.i (by unfold SU; omega)) ht
theorem s12_link {m : Mm} {s : Ac} {x y : Nat} (hm : St m) (h : RM m s) (hE : aE s = 0) (hx : x < 6000) (h6 : tK (aF s x) ≠ 6) : C m12_become [.ref 668, .int (nn x), .int (nn y)] m (fun r m' => r = .inl none ∧ Fr SU m m' ∧ RM m' (link s x y)) := by
  refine C.mono (s12_become hm hx) ?_
  rintro o m' ⟨rfl, rfl⟩
  have f : Fr SU m (bM m x y) := (Fr.refl.set (Or.inl (by omega))).set (Or.inl (by omega))
  exact ⟨rfl, f, h.tf hE f ((h.all hE).1.link h6)⟩
theorem s12_data {m : Mm} {s : Ac} {x k : Nat} (hm : St m) (h : RM m s) (hE : aE s = 0) (hx : x < 6000) : C m12_becomeData [.ref 668, .int (nn x), .int (nn k)] m (fun r m' => r = .inl none ∧ Fr SU m m' ∧ RM m' (data s x k none none)) := by
  refine C.mono (s12_becomeData hm hx) ?_
  rintro o m' ⟨rfl, rfl⟩
  have f : Fr SU m (dM m x k) := (((Fr.refl.set (Or.inl (by omega))).set (Or.inl (by omega))).set (Or.inl (by omega))).set (Or.inl (by omega))
  exact ⟨rfl, f, h.tf hE f (h.all hE).1.data⟩
theorem SU_SR {m m' : Mm} (h : Fr SU m m') : Fr SR m m' := h.mono (fun a j q => by unfold SU at q; unfold SR; omega)
theorem SK_SR {m m' : Mm} (h : Fr SK m m') : Fr SR m m' := h.mono (fun a j q => by unfold SK at q; unfold SR; omega)
theorem SO_SR {m m' : Mm} (h : Fr SO m m') : Fr SR m m' := h.mono (fun a j q => by unfold SO at q; unfold SR; omega)
theorem SQ_SR {m m' : Mm} (h : Fr SQ m m') : Fr SR m m' := h.mono (fun a j q => by unfold SQ at q; unfold SR; omega)
/-- the program is none of a run's memory -/
theorem Fr.mx {m m' : Mm} {fs : List Fn} {nds : List Tr} {g : Option Tr} (h : MX m fs nds g) (f : Fr SR m m') : MX m' fs nds g :=
  h.same (f.st h.1) (fun a a1 a2 => f.fn (fun j => by unfold SR; omega)) (f.i (by unfold SR; omega)) (f.i (by unfold SR; omega)) (f.i (by unfold SR; omega)) (f.i (by unfold SR; omega))
