/-! THE OTHER ONE: links, data, decisions, failures -/
theorem HL.st {m m' : Mm} {n S : Nat} {rh : Nat → Nat} (h : HL m n S rh) (h0 : mI m' 13 10 = mI m 13 10) (h1 : ∀ x, x < n → mI m' 21 (rh x) = mI m 21 (rh x)) : HL m' n S rh := by
  obtain ⟨k, k1, k2, k3⟩ := h
  refine ⟨k, k1, h0.trans k2, fun x hx => ?_⟩
  rw [h1 x hx]
  exact k3 x hx
theorem s10_link {fs : List Fn} {m : Mm} {s : Ac} {rh : Nat → Nat} {pd : Prop} {x y : Nat} (hm : St m) (h : HM m s rh pd) (hE : aE s = 0) (hO : QOK fs s) (hx : x < aC s) (hsg : ∀ j, 1 ≤ j → j ≤ aL s → lX (aV s j) < aC s) : C m10_become [.ref 13, .int (nn (rh x)), .int (nn (rh y))] m (fun r m' => r = .inl none ∧ Fr STc m m' ∧ HM m' (link s x y) rh pd) := by
  obtain ⟨f1, f2, f3, f4, f5, f6, f7, f8⟩ := h.all hE
  have hrx := f1.2.1 x hx
  have b1 := hO.1
  refine C.mono (s10_become hm (by omega)) ?_
  rintro o m' ⟨rfl, rfl⟩
  have f : Fr STc m (lM m (rh x) (rh y)) := (Fr.refl.set (Or.inl (by omega))).set (Or.inl (by omega))
  exact ⟨rfl, f, h.t (g := aM s) hE hO f (f1.link (fun z hz => (hO.2.2.2.2.2.2.1 z hz).1) hx) (fun _ _ => rfl) (fun z _ => by simp [lM, mI_set]) (f8.st rfl (fun z _ => by simp [lM, mI_set])) hsg⟩
theorem s10_data {fs : List Fn} {m : Mm} {s : Ac} {rh : Nat → Nat} {pd : Prop} {x k : Nat} {a b : Option Nat} {va vb : Int32} (hm : St m) (h : HM m s rh pd) (hE : aE s = 0) (hO : QOK fs s) (hx : x < aC s) (hsg : ∀ j, 1 ≤ j → j ≤ aL s → lX (aV s j) < aC s) (ha : va = mo rh a) (hb : vb = mo rh b) : C m10_becomeData [.ref 13, .int (nn (rh x)), .int (nn k), .int va, .int vb] m (fun r m' => r = .inl none ∧ Fr STc m m' ∧ HM m' (data s x k a b) rh pd) := by
  obtain ⟨f1, f2, f3, f4, f5, f6, f7, f8⟩ := h.all hE
  have hrx := f1.2.1 x hx
  have b1 := hO.1
  refine C.mono (s10_becomeData hm (by omega)) ?_
  rintro o m' ⟨rfl, rfl⟩
  rw [ha, hb]
  have f : Fr STc m (eM m (rh x) k (mo rh a) (mo rh b)) := (((Fr.refl.set (Or.inl (by omega))).set (Or.inl (by omega))).set (Or.inl (by omega))).set (Or.inl (by omega))
  exact ⟨rfl, f, h.t (g := aM s) hE hO f (f1.data (fun z hz => (hO.2.2.2.2.2.2.1 z hz).1) hx) (fun _ _ => rfl) (fun z _ => by simp [eM, mI_set]) (f8.st rfl (fun z _ => by simp [eM, mI_set])) hsg⟩
theorem HV.sd {m m' : Mm} {s : Ac} {rh : Nat → Nat} {o : Nat} {d : List (Nat × Nat)} {g : List Nat} (h : HV m (aL s) (aV s) rh False) (ho : o ≤ aL s) (h0 : mI m' 12 9 = mI m 12 9) (hd : HR m' o d g) (h1 : ∀ j, j ≠ o → ∀ a i, 235 + 3 * j ≤ a → a ≤ 237 + 3 * j → mI m' a i = mI m a i) (h2 : ∀ i, i ≠ 3 → mI m' (235 + 3 * o) i = mI m (235 + 3 * o) i) : HV m' (aL s) (aV (setD s o d g)) rh False := by
  have hk : ∀ j, lK (aV (setD s o d g) j) = lK (aV s j) := fun j => by
    show lK (up1 (aV s) o _ j) = _
    by_cases e : j = o
    · rw [e, up1_at]
    · rw [up1_ne e]
  have hx : ∀ j, lX (aV (setD s o d g) j) = lX (aV s j) ∧ lU (aV (setD s o d g) j) = lU (aV s j) ∧ lZ (aV (setD s o d g) j) = lZ (aV s j) := fun j => by
    show lX (up1 (aV s) o _ j) = _ ∧ lU (up1 (aV s) o _ j) = _ ∧ lZ (up1 (aV s) o _ j) = _
    by_cases e : j = o
    · rw [e, up1_at]
      exact ⟨rfl, rfl, rfl⟩
    · rw [up1_ne e]
      exact ⟨rfl, rfl, rfl⟩
  have e5 : ∀ j i, i ≠ 3 → mI m' (235 + 3 * j) i = mI m (235 + 3 * j) i := fun j i hi => by
    by_cases e : j = o
    · rw [e]
      exact h2 i hi
    · exact h1 j e _ i (Nat.le_refl _) (by omega)
  refine ⟨h0.trans h.1, fun j hj => ⟨fun q => ?_, fun _ q => q.elim, fun j1 => ?_⟩⟩
  · obtain ⟨a1, a2⟩ := (h.2 j hj).1 q
    refine ⟨?_, by rw [(hx j).2.2, e5 j 4 (by decide)]; exact a2⟩
    show HR m' j (lD (up1 (aV s) o _ j)) (lG (up1 (aV s) o _ j))
    by_cases e : j = o
    · rw [e, up1_at]
      exact hd
    · rw [up1_ne e]
      exact a1.fe (fun a i b1 b2 _ => h1 j e a i b1 b2)
  · rw [(hx j).1, (hx j).2.1, e5 j 5 (by decide), e5 j 6 (by decide), e5 j 7 (by decide), flatB_k (v := aV s) (fun i _ => hk i)]
    exact (h.2 j hj).2.2 j1
theorem HM.sd {fs : List Fn} {m m' : Mm} {s : Ac} {rh : Nat → Nat} {o : Nat} {d : List (Nat × Nat)} {g : List Nat} (h : HM m s rh False) (hE : aE s = 0) (hO : QOK fs s) (ho : o ≤ aL s) (hf : ∀ a, (a < 235 ∨ 541 ≤ a) → mI m' a = mI m a) (hF : Zr m m') (hRr : mR m' = mR m) (hd : HR m' o d g) (h1 : ∀ j, j ≠ o → ∀ a i, 235 + 3 * j ≤ a → a ≤ 237 + 3 * j → mI m' a i = mI m a i) (h2 : ∀ i, i ≠ 3 → mI m' (235 + 3 * o) i = mI m (235 + 3 * o) i) : HM m' (setD s o d g) rh False := by
  obtain ⟨f1, f2, f3, f4, f5, f6, f7, f8⟩ := h.all hE
  obtain ⟨b1, b2, b3, b4, b5, b6, b7, b8, b9, b10, b11⟩ := hO
  have e12 : ∀ a j, a < 235 → mI m' a j = mI m a j := fun a j ha => by rw [hf a (Or.inl ha)]
  have hV := f3.sd ho (e12 12 9 (by decide)) hd h1 h2
  have hA : allK (setD s o d g) = allK s := flatB_k (fun j _ => by
    show lK (up1 (aV s) o _ j) = _
    by_cases e : j = o
    · rw [e, up1_at]
    · rw [up1_ne e])
  refine h.gen (fs := fs) hE (show aE s = 0 from hE) (e12 12 12 (by decide)) ((hV.2 0 (Nat.zero_le _)).1 (Or.inr (fun q => q))).1 ⟨f1.fe (fun x hx => (b7 x hx).1) hF.up (fun a a1 a2 => hf a (Or.inl (by omega))) (e12 13 9 (by decide)) (fun _ _ => by rw [hRr]), f2.fe b2 (fun a a1 a2 => hf a (Or.inl (by omega))) (e12 12 8 (by decide)), hV, ?_, ?_, (e12 12 11 (by decide)).trans f6, (e12 12 10 (by decide)).trans f7, f8.fe (e12 13 10 (by decide)) (hf 21 (by decide))⟩
  · rw [hA]
    exact (e12 23 4 (by decide)).trans f4
  · rw [hA]
    exact f5.fe2 (fun t ht => (b10 t ht).1) hF.up (fun a a1 a2 => hf a (Or.inl (by omega))) (hf 18 (by decide)) hRr
theorem s3_decide {fs : List Fn} {m : Mm} {s : Ac} {rh : Nat → Nat} {o n : Nat} (hm : St m) (h : HM m s rh False) (hE : aE s = 0) (hO : QOK fs s) (ho : o ≤ aL s) : C m3_decide [.ref 12, .int (nn o), .int (nn n)] m (fun r m' => Zr m m' ∧ St m' ∧ HM m' (decA s o n).2 rh False ∧ r = .inl (some (.int (if aE (decA s o n).2 = 0 then nn (decA s o n).1 else -1)))) := by
  refine C.of (by decide +kernel) (Nat.le_of_ble_eq_true rfl) rfl (u3_decide hm ?_)
  obtain ⟨f1, f2, f3, f4, f5, f6, f7, f8⟩ := h.all hE
  have hO' := hO
  obtain ⟨b1, b2, b3, b4, b5, b6, b7, b8, b9, b10, b11⟩ := hO'
  obtain ⟨c1, c2, c3, c4, c5, c6⟩ := b11 o ho
  obtain ⟨gv, d1, d2, d3, d4, d5, d6⟩ := ((f3.2 o ho).1 (Or.inr (fun q => q))).1
  have hi := nn_in (a := o) (n := 102) (by omega) (by omega)
  have e40 : nn (lD (aV s o)).length < 40 ↔ (lD (aV s o)).length < 40 := nn_lt (b := 40) (by omega) (by decide)
  have eg : nn (lD (aV s o)).length < nn gv ↔ (lD (aV s o)).length < gv := nn_lt (by omega) (by omega)
  have e0 : nn o = 0 ↔ o = 0 := nn_eq (b := 0) (by omega) (by decide)
  rw [nn_tn (a := o) (by omega), d4, d1, e40, eg, e0]
  refine ⟨hi, fun w40 => ?_, fun w40 => ?_⟩
  · have hj := nn_in (a := (lD (aV s o)).length) (n := 40) (by omega) w40
    have h60 : ∀ (m1 : Mm) (w : Nat) (G : List Nat), St m1 → Fr (fun a j => a = 236 + 3 * o ∧ j = (lD (aV s o)).length) m m1 → mI m1 (236 + 3 * o) (lD (aV s o)).length = nn w → decA s o n = (w, setD s o ((w, n) :: lD (aV s o)) G) → G.length = gv - ((lD (aV s o)).length + 1) → (∀ i x, G[i]? = some x → mI m (236 + 3 * o) ((lD (aV s o)).length + 1 + i) = nn x) →
        V m3_decide 60 [some (.ref 12), some (.int (nn o)), some (.int (nn n)), some (.ref (235 + 3 * o)), some (.int (nn (lD (aV s o)).length))] [] m1 (fun r m' => Zr m m' ∧ St m' ∧ HM m' (decA s o n).2 rh False ∧ r = .inl (some (.int (if aE (decA s o n).2 = 0 then nn (decA s o n).1 else -1)))) := by
      intro m1 w G s1 fr1 w1 w2 w3 w4
      refine u3_decide_60 s1 (by omega) ?_
      rw [nn_tn (a := (lD (aV s o)).length) (by omega), nn_one, mI_set, if_neg (by omega), mI_set, if_neg (by omega), w1]
      have fr2 : Fr (fun a j => (a = 235 + 3 * o ∧ j = 3) ∨ ((a = 236 + 3 * o ∨ a = 237 + 3 * o) ∧ j = (lD (aV s o)).length)) m (mSetI (mSetI m1 (237 + 3 * o) (lD (aV s o)).length (nn n)) (235 + 3 * o) 3 (nn ((lD (aV s o)).length + 1))) :=
        ((fr1.mono (fun a j q => Or.inr ⟨Or.inl q.1, q.2⟩)).set (Or.inr ⟨Or.inr rfl, rfl⟩)).set (Or.inl ⟨rfl, rfl⟩)
      have zr : Zr m (mSetI (mSetI m1 (237 + 3 * o) (lD (aV s o)).length (nn n)) (235 + 3 * o) 3 (nn ((lD (aV s o)).length + 1))) := fr2.zr (fun a j q => by omega)
      refine ⟨hj, hj, zr, fr2.st hm, ?_, ?_⟩
      · rw [w2]
        refine h.sd hE hO ho (fun a ha => fr2.fn (fun j => by omega)) zr fr2.r ⟨gv, ?_, d2, ?_, ?_, fun i d hi2 => ?_, fun i x hx => ?_⟩ (fun j hj a i a1 a2 => fr2.i (by omega)) (fun i hi => fr2.i (by omega))
        · rw [fr2.i (by omega)]
          exact d1
        · simp only [List.length_cons]
          exact w3
        · rw [mI_set, if_pos ⟨rfl, rfl⟩]
          rfl
        · simp only [List.reverse_cons] at hi2
          by_cases e : i < (lD (aV s o)).length
          · rw [List.getElem?_append_left (by rw [List.length_reverse]; exact e)] at hi2
            rw [fr2.i (by omega), fr2.i (by omega)]
            exact d5 i d hi2
          · have hl := (List.getElem?_eq_some_iff.mp hi2).1
            simp only [List.length_append, List.length_reverse, List.length_singleton] at hl
            obtain rfl : i = (lD (aV s o)).length := by omega
            rw [List.getElem?_append_right (by rw [List.length_reverse]; exact Nat.le_refl _), List.length_reverse, Nat.sub_self] at hi2
            cases hi2
            rw [mI_set, if_neg (by omega), mI_set, if_neg (by omega), mI_set, if_neg (by omega), mI_set, if_pos ⟨rfl, rfl⟩]
            exact ⟨w1, rfl⟩
        · simp only [List.length_cons]
          rw [fr2.i (by omega)]
          exact w4 i x hx
      · rw [w2, if_pos (show aE (setD s o ((w, n) :: lD (aV s o)) G) = 0 from hE)]
    have n40 : ¬ (lD (aV s o)).length = 40 := by omega
    refine ⟨fun wg => ?_, fun wg => ⟨fun w0 => ⟨hj, ?_⟩, fun w0 => ?_⟩⟩
    · cases hg : lG (aV s o) with
      | nil =>
        rw [hg] at d3
        simp only [List.length_nil] at d3
        omega
      | cons w r =>
        have hd : decA s o n = (w, setD s o ((w, n) :: lD (aV s o)) r) := by
          unfold decA
          rw [if_neg n40, hg]
        rw [hg, List.length_cons] at d3
        refine h60 m w r hm Fr.refl ?_ hd (by omega) (fun i x hx => ?_)
        · have := d6 0 w (by rw [hg]; rfl)
          simpa using this
        · have := d6 (i + 1) x (by rw [hg]; exact hx)
          rw [show (lD (aV s o)).length + 1 + i = (lD (aV s o)).length + (i + 1) by omega]
          exact this
    · have hg : lG (aV s o) = [] := List.eq_nil_of_length_eq_zero (by omega)
      have hd : decA s o n = (0, setD s o ((0, n) :: lD (aV s o)) []) := by
        unfold decA
        rw [if_neg n40, hg]
        exact if_neg w0
      rw [nn_tn (a := (lD (aV s o)).length) (by omega)]
      refine h60 _ 0 [] (St.i hm) (Fr.refl.set ⟨rfl, rfl⟩) (by rw [mI_set, if_pos ⟨rfl, rfl⟩]; rfl) hd (by simp only [List.length_nil]; omega) (fun i x hx => by cases hx)
    · have hg : lG (aV s o) = [] := List.eq_nil_of_length_eq_zero (by omega)
      have hd : decA s o n = (0, sB s 5 n) := by
        unfold decA
        rw [if_neg n40, hg]
        exact if_pos w0
      have fr2 : Fr (fun a j => a = 12 ∧ (j = 12 ∨ j = 13)) m (mSetI (mSetI m 12 12 4) 12 13 (nn n)) := (Fr.refl.set ⟨rfl, Or.inl rfl⟩).set ⟨rfl, Or.inr rfl⟩
      rw [hd]
      refine ⟨fr2.zr (fun a j q => by omega), fr2.st hm, ⟨?_, fun _ => ?_, h.2.2.1.fe (fun a i a1 a2 _ => fr2.i (by omega)), fun w => ?_⟩, by rw [if_neg (show ¬ aE (sB s 5 n) = 0 from (by decide : ¬ (5 : Nat) = 0))]⟩
      · rw [mI_set, if_neg (by omega), mI_set, if_pos ⟨rfl, rfl⟩]
        rfl
      · rw [mI_set, if_pos ⟨rfl, rfl⟩]
        rfl
      · have : (5 : Nat) < 2 := w
        omega
  · have hd : decA s o n = (0, sE s 4) := by
      unfold decA
      rw [if_pos (by omega)]
    rw [hd]
    have fr2 : Fr (fun a j => a = 12 ∧ j = 12) m (mSetI m 12 12 3) := Fr.refl.set ⟨rfl, rfl⟩
    exact ⟨fr2.zr (fun a j q => by omega), fr2.st hm, h.sE (by decide) (by decide) (by rw [mI_set, if_pos ⟨rfl, rfl⟩]; rfl) (fun a a1 a2 => mI_fn (by omega)), by rw [if_neg (show ¬ aE (sE s 4) = 0 from (by decide : ¬ (4 : Nat) = 0))]⟩
/-- on to the next way of the last decision that has one -/
theorem s2_advance {m : Mm} {o : Nat} {D : List (Nat × Nat)} (hm : St m) (ho : o < 102) (h3 : mI m (235 + 3 * o) 3 = nn D.length) (hl : D.length ≤ 40) (hd : ∀ i d, D.reverse[i]? = some d → mI m (236 + 3 * o) i = nn d.1 ∧ mI m (237 + 3 * o) i = nn d.2) (hw : ∀ d, d ∈ D → d.1 < d.2 ∧ d.2 < 100) : C m2_advance [.ref (235 + 3 * o)] m (fun r m' => (backA D = [] ∧ r = .inl (some (.int 0)) ∧ m' = m) ∨ ∃ w n r', backA D = (w, n) :: r' ∧ r = .inl (some (.int 1)) ∧ m' = mSetI (mSetI m (236 + 3 * o) r'.length (nn (w + 1))) (235 + 3 * o) 2 (nn (r'.length + 1)) ∧ r'.length < D.length ∧ ∃ pre, D = pre ++ (w, n) :: r') := by
  refine C.of (by decide +kernel) (Nat.le_of_ble_eq_true rfl) rfl (w2_advance hm ho ?_)
  rw [h3]
  have loop : ∀ (D' pre : List (Nat × Nat)), D = pre ++ D' → backA D' = backA D → ∀ v, v = nn D'.length - 1 → V m2_advance 7 [some (.ref (235 + 3 * o)), some (.int v)] [] m (fun r m' => (backA D = [] ∧ r = .inl (some (.int 0)) ∧ m' = m) ∨ ∃ w n r', backA D = (w, n) :: r' ∧ r = .inl (some (.int 1)) ∧ m' = mSetI (mSetI m (236 + 3 * o) r'.length (nn (w + 1))) (235 + 3 * o) 2 (nn (r'.length + 1)) ∧ r'.length < D.length ∧ ∃ pre, D = pre ++ (w, n) :: r') := by
    intro D'
    induction D' with
    | nil =>
      intro pre hp hbk v hv
      obtain rfl : v = -1 := hv
      refine w2_advance_7 hm ho ⟨fun _ => Or.inl ⟨hbk.symm, rfl, rfl⟩, fun w => absurd (by decide) w⟩
    | cons d r ih =>
      intro pre hp hbk v hv
      obtain ⟨w, n⟩ := d
      rw [List.length_cons, nn_pred (by omega), Nat.add_sub_cancel] at hv
      subst hv
      have hlD : D.length = pre.length + (r.length + 1) := by rw [hp, List.length_append, List.length_cons]
      have hrev : D.reverse = r.reverse ++ ((w, n) :: pre.reverse) := by
        rw [hp, List.reverse_append, List.reverse_cons, List.append_assoc]
        rfl
      have hat : D.reverse[r.length]? = some (w, n) := by
        rw [hrev, List.getElem?_append_right (by simp), List.length_reverse, Nat.sub_self]
        rfl
      obtain ⟨q1, q2⟩ := hd r.length (w, n) hat
      obtain ⟨z1, z2⟩ := hw (w, n) (by rw [hp]; exact List.mem_append_right _ List.mem_cons_self)
      have z1' : w < n := z1
      have z2' : n < 100 := z2
      have hj := nn_in (a := r.length) (n := 40) (by omega) (by omega)
      have ewn : nn n ≤ nn w + 1 ↔ n ≤ w + 1 := by
        rw [nn_one]
        exact nn_le (by omega) (by omega)
      refine w2_advance_7 hm ho ⟨fun q => (nn_neg (by omega) q).elim, fun _ => ?_⟩
      rw [nn_tn (by omega), q1, q2, ewn, nn_one, nn_one]
      refine ⟨hj, hj, fun wn => ?_, fun wn => ⟨hj, hj, Or.inr ⟨w, n, r, ?_, rfl, rfl, by omega, pre, hp⟩⟩⟩
      · refine ih (pre ++ [(w, n)]) (by rw [hp, List.append_assoc]; rfl) (by rw [← hbk]; exact (if_pos (by omega)).symm) _ ?_
        rw [Int32.sub_eq_add_neg]
      · rw [← hbk]
        exact if_neg (by omega)
  exact loop D [] rfl rfl _ rfl
