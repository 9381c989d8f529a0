/-! BOTH MACHINES ALIKE: turns -/
/-- the one is the other one but for tasks without effect, and marks -/
def RRx (q a : Ac) : Prop := ∃ K M, q = wk a K M ∧ (aE a = 0 → AL0 a K)
theorem AL0.after {a p S : Ac} {rk rk' : Nat → Nat} {K1 K' : Nat → List Tk} (hE : Ev a S) (g : GR a rk) (g' : GR S rk') (e1 : aC p = aC a) (e2 : aF p = aF a) (hq : ∀ j, j ≤ aL p → ∀ t, t ∈ K1 j → ∀ y, y ∈ mth t → y < aC a) (ha : ∀ j, j ≤ aL p → ∀ t, t ∈ lK (aV p j) → ∀ y, y ∈ mth t → y < aC a) (h : SHP p K1 S K') : AL0 S K' := fun j hj => by
  obtain ⟨nq, na, mq, ma, h1, h2, h3, h4⟩ := h j hj
  rw [h1, h2, er_app, er_app, h3]
  rcases h4 with ⟨h5, h6, h7, h8⟩ | ⟨h5, h6⟩
  · rw [er_ev hE g g' (fun t ht => hq j h5 t (h7 t ht)), er_ev hE g g' (fun t ht => ha j h5 t (h8 t ht))]
    rw [er_eq e1 e2, er_eq e1 e2] at h6
    rw [h6]
  · rw [h5, h6]
def silA (s : Ac) (t : Tk) : Prop := ((t.1 = 0 ∨ t.1 = 1 ∨ (t.1 = 4 ∧ 10 ≤ tcode t.2.2.2.2)) ∧ tK (aF s (root s t.2.1)) < 2) ∨ (t.1 = 2 ∧ Cl s t.2.1) ∨ t.1 = 3 ∨ t.1 = 13 ∨ t.1 = 14
def silQ (s : Ac) (t : Tk) : Prop := (t.1 = 0 ∧ tK (aF s (root s t.2.1)) < 2) ∨ (t.1 = 1 ∧ Cl s t.2.1) ∨ t.1 = 3
/-- parts of what is closed are without effect -/
theorem er_parts {s : Ac} {x : Nat} (h : ∀ w, Pa s x w → Cl s w) : er s (oT 1 (tA (aF s x)) ++ oT 1 (tB (aF s x)) ++ [(3, x, 0, 0, .nil)]) = [] := by
  have one : ∀ (o : Option Nat), (∀ w, o = some w → Cl s w) → er s (oT 1 o) = [] := fun o ho => by
    cases o with
    | none => rfl
    | some w =>
      show er s [(1, w, 0, 0, .nil)] = []
      rw [er_one, (nz12 (Or.inl rfl)).1 (ho w rfl)]
  rw [er_app, er_app, one _ (fun w hw => h w (Or.inl hw)), one _ (fun w hw => h w (Or.inr hw))]
  rfl
theorem Cl.pa {s : Ac} {y : Nat} (h : Cl s y) (hk : tK (aF s (root s y)) = 1) : ∀ w, Pa s (root s y) w → Cl s w := fun w hw => (Cl_iff.mp h).2 w hk hw
/-- a task of the reference without effect -/
theorem RRx.nA {fs : List Fn} {q a : Ac} {t : Tk} {l : List Tk} (hR : RRx q a) (hE : aE a = 0) (ht : topK a = t :: l) (hs : silA a t) (hKO : KO fs a (aL a) [] t l) : RRx q (goX (doA fs) a) := by
  obtain ⟨K, M, e, A⟩ := hR
  have A := A hE
  rw [goX_cons hE ht]
  have fin : ∀ S new, S = push (setK a l) new → er a new = nz a t → RRx q S := fun S new hS hn => by
    refine ⟨K, M, by rw [hS, wk_push, wk_setK]; exact e, fun _ j hj => ?_⟩
    have hC : aC S = aC a := by rw [hS]; rfl
    have hF : aF S = aF a := by rw [hS]; rfl
    have hj : j ≤ aL a := by
      rw [hS] at hj
      exact hj
    rw [er_eq hC hF, er_eq hC hF, A j hj, hS]
    by_cases w : j = aL a
    · subst w
      have h1 : topK (push (setK a l) new) = new ++ l := by
        rw [topK_push, topK_setK]
      have h1 : lK (aV (push (setK a l) new) (aL a)) = new ++ l := h1
      rw [h1, er_app, hn]
      show er a (topK a) = _
      rw [ht]
      rfl
    · have h1 : lK (aV (push (setK a l) new) j) = lK (aV a j) := by
        show lK (up1 (up1 (aV a) (aL a) _) (aL a) _ j) = _
        rw [up1_ne w, up1_ne w]
      rw [h1]
  have fin0 : ∀ S, S = setK a l → nz a t = [] → RRx q S := fun S hS hn => by
    refine ⟨K, M, by rw [hS, wk_setK]; exact e, fun _ j hj => ?_⟩
    have hC : aC S = aC a := by rw [hS]; rfl
    have hF : aF S = aF a := by rw [hS]; rfl
    have hj : j ≤ aL a := by
      rw [hS] at hj
      exact hj
    rw [er_eq hC hF, er_eq hC hF, A j hj, hS]
    by_cases w : j = aL a
    · subst w
      have h1 : lK (aV (setK a l) (aL a)) = l := topK_setK
      rw [h1]
      show er a (topK a) = _
      rw [ht]
      show nz a t ++ er a l = _
      rw [hn]
      rfl
    · have h1 : lK (aV (setK a l) j) = lK (aV a j) := by
        show lK (up1 (aV a) (aL a) _ j) = _
        rw [up1_ne w]
      rw [h1]
  obtain ⟨k, y, b, c, p⟩ := t
  obtain ⟨q1, q2⟩ := hKO
  rcases hs with ⟨hk, hf⟩ | ⟨hk, hc⟩ | hk | hk | hk
  · rcases hk with hk | hk | ⟨hk, h10⟩
    · have hk : k = 0 := hk
      subst hk
      have e0 : doA fs (setK a l) (0, y, b, c, p) = setK a l := by
        have k2 : tK (aF a (root a y)) = 0 ∨ tK (aF a (root a y)) = 1 := by
          have hf : tK (aF a (root a y)) < 2 := hf
          omega
        show forceG fs false (setK a l) (root a y) = _
        unfold forceG
        rcases k2 with w | w <;> (rw [show tK (aF (setK a l) (root a y)) = _ from w]; rfl)
      exact fin0 _ e0 (nz0.1 hf)
    · have hk : k = 1 := hk
      subst hk
      refine fin _ [(0, y, 0, 0, .nil), (2, y, 0, 0, .nil)] rfl ?_
      show nz a (0, y, 0, 0, .nil) ++ (nz a (2, y, 0, 0, .nil) ++ []) = nz a (1, y, b, c, p)
      rw [nz0.1 hf, List.append_nil]
      rfl
    · have hk : k = 4 := hk
      subst hk
      have e0 : doA fs (setK a l) (4, y, b, c, p) = push (setK a l) [(0, y, 0, 0, .nil), (5, y, b, c, p)] := if_neg (by
        have h10 : 10 ≤ tcode p := h10
        show ¬ tcode p < 10
        omega)
      refine fin _ _ e0 ?_
      show nz a (0, y, 0, 0, .nil) ++ (nz a (5, y, b, c, p) ++ []) = nz a (4, y, b, c, p)
      rw [nz0.1 hf, List.append_nil]
      rfl
  · have hk : k = 2 := hk
    subst hk
    by_cases w : tK (aF a (root a y)) = 1 ∧ aM a (root a y) = 0
    · have e0 : doA fs (setK a l) (2, y, b, c, p) = push (setK a l) (oT 1 (tA (aF a (root a y))) ++ oT 1 (tB (aF a (root a y))) ++ [(3, root a y, 0, 0, .nil)]) := if_pos w
      refine fin _ _ e0 ?_
      rw [er_parts (Cl.pa hc w.1), (nz12 (Or.inr rfl)).1 hc]
    · have e0 : doA fs (setK a l) (2, y, b, c, p) = setK a l := if_neg w
      exact fin0 _ e0 ((nz12 (Or.inr rfl)).1 hc)
  · have hk : k = 3 := hk
    subst hk
    obtain ⟨K', M', e', A'⟩ := fin0 (setK a l) rfl rfl
    refine ⟨K', M', e', fun h0 j hj => ?_⟩
    have h := A' h0 j hj
    show er (sM (setK a l) (up1 (aM a) y 1)) (K' j) = er (sM (setK a l) (up1 (aM a) y 1)) (lK (aV (setK a l) j))
    rw [er_eq (s := setK a l) (S := sM (setK a l) (up1 (aM a) y 1)) rfl rfl, er_eq (s := setK a l) (S := sM (setK a l) (up1 (aM a) y 1)) rfl rfl]
    exact h
  · have hk : k = 13 := hk
    subst hk
    exact fin _ [(10, y, b, c, .nil), (7, c, 0, 0, .nil)] rfl rfl
  · have hk : k = 14 := hk
    subst hk
    exact fin _ [(11, y, b, c, .nil), (8, c, 0, 0, .nil)] rfl rfl
/-- a task of the other one without effect -/
theorem RRx.nQ {fs : List Fn} {q a : Ac} {t : Tk} {l : List Tk} (hR : RRx q a) (hE : aE a = 0) (ht : topK q = t :: l) (hs : silQ a t) : RRx (goX (doQ fs) q) a := by
  obtain ⟨K, M, e, A⟩ := hR
  have A := A hE
  have hEq : aE q = 0 := by rw [e]; exact hE
  rw [goX_cons hEq ht]
  have hK : K (aL a) = t :: l := by
    rw [e] at ht
    exact ht
  have fin : ∀ S M' new, S = wk a (up1 K (aL a) (new ++ l)) M' → er a new = nz a t → RRx S a := fun S M' new hS hn => by
    refine ⟨_, _, hS, fun _ j hj => ?_⟩
    by_cases w : j = aL a
    · subst w
      rw [up1_at, er_app, hn, ← A _ hj, hK]
      rfl
    · rw [up1_ne w]
      exact A j hj
  have es : setK q l = wk a (up1 K (aL a) l) M := by rw [e, setK_wk]
  have ps : ∀ new, push (setK q l) new = wk a (up1 K (aL a) (new ++ l)) M := fun new => by
    rw [es, push_wk, up1_at, up1_up1]
  obtain ⟨k, y, b, c, p⟩ := t
  rcases hs with ⟨hk, hf⟩ | ⟨hk, hc⟩ | hk
  · have hk : k = 0 := hk
    subst hk
    have e0 : doQ fs (setK q l) (0, y, b, c, p) = setK q l := by
      have k2 : tK (aF a (root a y)) = 0 ∨ tK (aF a (root a y)) = 1 := by
        have hf : tK (aF a (root a y)) < 2 := hf
        omega
      have er' : root q y = root a y := by rw [e]; rfl
      have ef : aF q = aF a := by rw [e]; rfl
      show forceG fs true (setK q l) (root q y) = _
      have ek : tK (aF (setK q l) (root q y)) = tK (aF a (root a y)) := by
        show tK (aF q (root q y)) = _
        rw [er', ef]
      unfold forceG
      rw [ek]
      rcases k2 with w | w <;> (rw [w]; rfl)
    rw [e0]
    exact fin _ M [] es (nz0.1 hf).symm
  · have hk : k = 1 := hk
    subst hk
    have hc : Cl a y := hc
    have er' : root q y = root a y := by rw [e]; rfl
    have ef : aF q = aF a := by rw [e]; rfl
    have hf := (Cl_iff.mp hc).1
    have w : ¬ 2 ≤ tK (aF q (root q y)) := by
      rw [er', ef]
      omega
    by_cases w2 : tK (aF q (root q y)) = 1 ∧ aM q (root q y) ≠ lZ (aV (setK q l) (aL q))
    · have e0 : doQ fs (setK q l) (1, y, b, c, p) = push (sM (setK q l) (up1 (aM q) (root q y) (lZ (aV (setK q l) (aL q))))) (oT 1 (tA (aF q (root q y))) ++ oT 1 (tB (aF q (root q y))) ++ [(3, root q y, 0, 0, .nil)]) := (if_neg w).trans (if_pos w2)
      rw [e0]
      have : push (sM (setK q l) (up1 (aM q) (root q y) (lZ (aV (setK q l) (aL q))))) (oT 1 (tA (aF q (root q y))) ++ oT 1 (tB (aF q (root q y))) ++ [(3, root q y, 0, 0, .nil)]) = sM (push (setK q l) (oT 1 (tA (aF q (root q y))) ++ oT 1 (tB (aF q (root q y))) ++ [(3, root q y, 0, 0, .nil)])) (up1 (aM q) (root q y) (lZ (aV (setK q l) (aL q)))) := rfl
      rw [this, ps]
      refine fin (sM (wk a _ M) _) _ _ rfl ?_
      rw [er', ef]
      have k1 : tK (aF a (root a y)) = 1 := by
        have := w2.1
        rw [er', ef] at this
        exact this
      rw [er_parts (Cl.pa hc k1), (nz12 (Or.inl rfl)).1 hc]
    · have e0 : doQ fs (setK q l) (1, y, b, c, p) = setK q l := (if_neg w).trans (if_neg w2)
      rw [e0]
      exact fin _ M [] es ((nz12 (Or.inl rfl)).1 hc).symm
  · have hk : k = 3 := hk
    subst hk
    exact fin _ M [] es rfl
