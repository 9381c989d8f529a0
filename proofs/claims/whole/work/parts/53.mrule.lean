/-! A RULE IS TOLD, IN THE MODEL -/
def LR (v1 v2 v3 v4 v5 v6 v7 : Int32) : List (Option Value) := [some (.ref 668), some (.int v1), some (.int v2), some (.int v3), some (.int v4), some (.int v5), some (.int v6), some (.int v7)]
/-- the rule is laid at a free place -/
theorem rule192 {m0 m : Mm} {fs : List Fn} {nds : List Tr} {g : Option Tr} {f j : Nat} {x : Fn} {a b r v6 : Int32} {t : Tr} {K : Option Value ⊕ String → Mm → Prop} {sl : Nat → Nat → Nat} {us : List Nat} (hw : PW fs nds g) (hm : St m) (hn : MN m nds) (hx : fs[f]? = some x) (er : nget nds r = some t) (hj : j < 24) (hju : ¬ j ∈ us) (hT : tot fs < 24) (hrok : rok fs x.1 (mkR nds x.1 a b t))
    (h0 : MF0 m fs) (h9 : mI m 668 9 = nn (tot fs)) (h12 : mI m 668 12 = 0) (h73 : ∀ f, fs.length ≤ f → f < 8 → mI m 673 f = 0) (hR0 : MR m0 fs sl us) (h6 : ∀ q, ¬ (12 + 36 * j ≤ q ∧ q < 48 + 36 * j) → mI m 676 q = mI m0 676 q) (e73 : ∀ q, mI m 673 q = mI m0 673 q) (e74 : ∀ q, mI m 674 q = mI m0 674 q) (e75 : ∀ q, mI m 675 q = if q = j then 1 else mI m0 675 q) (hg : MG m0 g) (e11 : mI m 668 11 = mI m0 668 11) (hfr : Fr SF m0 m)
    (c1 : ∀ u, (mkR nds x.1 a b t).1 = some u → TC m (12 + 36 * j) u) (c2 : ∀ u, (mkR nds x.1 a b t).2.1 = some u → TC m (24 + 36 * j) u)
    (hK : ∀ o m', FunM m0 nds g ((0, nn x.2.2.length), fs.set f (x.1, x.2.1, x.2.2 ++ [mkR nds x.1 a b t])) o m' → K o m') :
    V m12_rule 192 (LR (nn f) a b r (nn x.1) v6 (nn j)) [] m K := by
  obtain ⟨r1, r2, r3, r4, r5, r6⟩ := hR0
  obtain ⟨p1, p2⟩ := r5 f x hx
  have hf := (List.getElem?_eq_some_iff.mp hx).1
  have hf8 := h0.2.1
  have hl := tot_le hx
  have tz : tsz t ≤ 12 := hrok.1.2.2.2
  refine u12_rule_192 hm (C.mono (s12_at (w := 2) hm (show j < 1000 by omega) (by decide)) ?_)
  rintro o m1 ⟨rfl, rfl⟩
  refine ⟨_, rfl, hm, C.mono (s12_copies (q := 12 + 36 * j + 12 * 2) hm hn er (by omega)) ?_⟩
  rintro o M ⟨rfl, fM, tM⟩
  have v8 : vp_in (nn f) 8 := nn_in (by omega) (by omega)
  have m73 : mI M 673 f = nn x.2.2.length := (fM.i (by omega)).trans ((e73 f).trans p1)
  have e24 : (24 : Int32) * nn f = nn (24 * f) := nn_mul 24 f
  rw [nn_tn (by omega), m73, e24, nn_add, nn_tn (by omega), nn_one, fM.i (by omega), h9, nn_one, nn_pred (by omega), Nat.add_sub_cancel]
  refine ⟨rfl, fM.st hm, v8, nn_in (by omega) (by omega), v8, v8, v8, hK _ _ ?_⟩
  generalize hR : mkR nds x.1 a b t = R at *
  have hR22 : R.2.2 = t := by rw [← hR]; rfl
  generalize hM2 : mSetI (mSetI (mSetI M 674 (24 * f + x.2.2.length) (nn j)) 673 f (nn (x.2.2.length + 1))) 668 9 (nn (tot fs + 1)) = M2
  have fr : Fr (fun b q => (b = 676 ∧ 12 + 36 * j + 12 * 2 ≤ q ∧ q < 12 + 36 * j + 12 * 2 + tsz t) ∨ (b = 674 ∧ q = 24 * f + x.2.2.length) ∨ (b = 673 ∧ q = f) ∨ (b = 668 ∧ q = 9)) m1 M2 := by
    rw [← hM2]
    have f0 : Fr (fun b q => (b = 676 ∧ 12 + 36 * j + 12 * 2 ≤ q ∧ q < 12 + 36 * j + 12 * 2 + tsz t) ∨ (b = 674 ∧ q = 24 * f + x.2.2.length) ∨ (b = 673 ∧ q = f) ∨ (b = 668 ∧ q = 9)) m1 M := fM.mono (fun b q w => Or.inl w)
    exact ((f0.set (Or.inr (Or.inl ⟨rfl, rfl⟩))).set (Or.inr (Or.inr (Or.inl ⟨rfl, rfl⟩)))).set (Or.inr (Or.inr (Or.inr ⟨rfl, rfl⟩)))
  have ts := tot_set (y := (x.1, x.2.1, x.2.2 ++ [R])) hx
  have dl : (x.2.2 ++ [R]).length = x.2.2.length + 1 := by rw [List.length_append]; rfl
  have e0 : ((x.1, x.2.1, x.2.2 ++ [R]) : Fn).2.2.length = x.2.2.length + 1 := dl
  rw [e0] at ts
  have len : (fs.set f (x.1, x.2.1, x.2.2 ++ [R])).length = fs.length := List.length_set
  have atf := set_at (y := (x.1, x.2.1, x.2.2 ++ [R])) hf
  have code : ∀ q, ¬ (12 + 36 * j ≤ q ∧ q < 48 + 36 * j) → mI M2 676 q = mI m0 676 q := fun q w => (fr.i (by omega)).trans (h6 q w)
  have newC : RC M2 j R := by
    refine ⟨fun u hu => (c1 u hu).eq (fun q q1 q2 => fr.i ?_), fun u hu => (c2 u hu).eq (fun q q1 q2 => fr.i ?_), ?_⟩
    · have := (hrok.1.1 u hu).2
      omega
    · have := (hrok.1.2.1 u hu).2
      omega
    · rw [hR22]
      have e3 : 12 + 36 * j + 12 * 2 = 36 + 36 * j := by omega
      rw [e3] at tM
      refine tM.eq (fun q q1 q2 => ?_)
      rw [← hM2, mI_set, if_neg (by omega), mI_set, if_neg (by omega), mI_set, if_neg (by omega)]
  have oldC : ∀ (f' k : Nat) (y : Fn) (R' : Rl), fs[f']? = some y → y.2.2[k]? = some R' → mI M2 674 (24 * f' + k) = nn (sl f' k) ∧ sl f' k ∈ us ∧ RC M2 (sl f' k) R' := by
    intro f' k y R' hy hk
    obtain ⟨u3, u4, u5⟩ := (r5 f' y hy).2 k R' hk
    have hkl := (List.getElem?_eq_some_iff.mp hk).1
    have hly := tot_le hy
    have hne : sl f' k ≠ j := fun z => hju (z ▸ u4)
    refine ⟨?_, u4, u5.eq ((hw.2.2.1 f' y hy).2 R' (List.mem_of_getElem? hk)) (fun q q1 q2 => code q (by omega))⟩
    have hne2 : 24 * f' + k ≠ 24 * f + x.2.2.length := by
      intro z
      have : f' = f := by omega
      subst this
      rw [hx] at hy
      cases hy
      omega
    exact (fr.i (by omega)).trans ((e74 _).trans u3)
  refine ⟨⟨⟨_, rfl, fun _ => rfl⟩, (fr.i (by omega)).trans h12⟩, hfr.trans (fr.mono (fun b q w => by unfold SF; omega)), fr.st hm, hn.fr fr (by omega) (fun q => by omega) (fun q => by omega), ⟨⟨?_, ?_, fun f' y hy => ?_⟩, ?_, fun f' q1 q2 => ?_, fun f' k => if f' = f ∧ k = x.2.2.length then j else sl f' k, j :: us, ?_, ?_, fun s hs => ?_, fun s hs => ?_, fun f' y hy => ?_, fun f1 f1' k k' y y' hy hy' hk hk' eq => ?_⟩, (fr.i (by omega)).trans (e11.trans hg.1), fun u hu => ?_⟩
  · show mI M2 668 0 = nn (fs.set f (x.1, x.2.1, x.2.2 ++ [R])).length
    rw [len]
    exact (fr.i (by omega)).trans h0.1
  · show (fs.set f (x.1, x.2.1, x.2.2 ++ [R])).length ≤ 8
    rw [len]
    exact hf8
  · rw [fr.i (by omega), fr.i (by omega)]
    rcases atf f' y hy with ⟨-, w⟩ | ⟨w1, w2⟩
    · exact h0.2.2 f' y w
    · subst w1 w2
      exact h0.2.2 _ x hx
  · rw [← hM2, mI_set, if_pos ⟨rfl, rfl⟩]
    exact congrArg nn (show tot fs + 1 = tot (fs.set f (x.1, x.2.1, x.2.2 ++ [R])) by omega)
  · have q1' : (fs.set f (x.1, x.2.1, x.2.2 ++ [R])).length ≤ f' := q1
    rw [len] at q1'
    exact (fr.i (by omega)).trans (h73 f' q1' q2)
  · exact List.nodup_cons.mpr ⟨hju, r1⟩
  · show us.length + 1 = tot (fs.set f (x.1, x.2.1, x.2.2 ++ [R]))
    omega
  · rcases List.mem_cons.mp hs with w | w
    · omega
    · exact r3 s w
  · rw [fr.i (by omega), e75]
    by_cases es : s = j
    · rw [if_pos es, if_pos (by rw [es]; exact List.mem_cons_self)]
    · rw [if_neg es, r4 s hs]
      by_cases hin : s ∈ us
      · rw [if_pos hin, if_pos (List.mem_cons_of_mem _ hin)]
      · rw [if_neg hin, if_neg (fun w => by
          rcases List.mem_cons.mp w with w | w
          · exact es w
          · exact hin w)]
  · rcases atf f' y hy with ⟨w1, w⟩ | ⟨w1, w2⟩
    · refine ⟨(fr.i (by omega)).trans ((e73 f').trans (r5 f' y w).1), fun k R' hR' => ?_⟩
      obtain ⟨u3, u4, u5⟩ := oldC f' k y R' w hR'
      simp only
      rw [if_neg (fun z => w1 z.1)]
      exact ⟨u3, List.mem_cons_of_mem _ u4, u5⟩
    · subst w1 w2
      refine ⟨?_, fun k R' hR' => ?_⟩
      · rw [← hM2, mI_set, if_neg (by omega), mI_set, if_pos ⟨rfl, rfl⟩, e0]
      · by_cases hk : k < x.2.2.length
        · have hR'' : x.2.2[k]? = some R' := by
            have h8 : (x.2.2 ++ [R])[k]? = some R' := hR'
            rw [List.getElem?_append_left hk] at h8
            exact h8
          obtain ⟨u3, u4, u5⟩ := oldC f' k x R' hx hR''
          simp only
          rw [if_neg (fun z => by omega)]
          exact ⟨u3, List.mem_cons_of_mem _ u4, u5⟩
        · have h8 : (x.2.2 ++ [R])[k]? = some R' := hR'
          have hk2 := (List.getElem?_eq_some_iff.mp h8).1
          rw [dl] at hk2
          have ek : k = x.2.2.length := by omega
          subst ek
          rw [List.getElem?_append_right (Nat.le_refl _), Nat.sub_self] at h8
          cases h8
          simp only
          rw [if_pos ⟨trivial, trivial⟩]
          refine ⟨?_, List.mem_cons_self, newC⟩
          rw [← hM2, mI_set, if_neg (by omega), mI_set, if_neg (by omega), mI_set, if_pos ⟨rfl, rfl⟩]
  · have old : ∀ (f' k : Nat) (y : Fn), (fs.set f (x.1, x.2.1, x.2.2 ++ [R]))[f']? = some y → k < y.2.2.length → (f' = f ∧ k = x.2.2.length) ∨ (¬ (f' = f ∧ k = x.2.2.length) ∧ ∃ y', fs[f']? = some y' ∧ k < y'.2.2.length ∧ sl f' k ∈ us) := by
      intro f' k y hy hk
      rcases atf f' y hy with ⟨w1, w⟩ | ⟨w1, w2⟩
      · exact Or.inr ⟨fun z => w1 z.1, y, w, hk, (oldC f' k y _ w (List.getElem?_eq_getElem hk)).2.1⟩
      · subst w1 w2
        rw [e0] at hk
        by_cases ek : k = x.2.2.length
        · exact Or.inl ⟨rfl, ek⟩
        · have hk2 : k < x.2.2.length := by omega
          exact Or.inr ⟨fun z => ek z.2, x, hx, hk2, (oldC _ k x _ hx (List.getElem?_eq_getElem hk2)).2.1⟩
    simp only at eq
    rcases old f1 k y hy hk with z | ⟨zn, z, z1, z2, z3⟩
    · rcases old f1' k' y' hy' hk' with z' | ⟨zn', z', z1', z2', z3'⟩
      · exact ⟨z.1.trans z'.1.symm, z.2.trans z'.2.symm⟩
      · rw [if_pos z, if_neg zn'] at eq
        exact (hju (eq ▸ z3')).elim
    · rcases old f1' k' y' hy' hk' with z' | ⟨zn', z', z1', z2', z3'⟩
      · rw [if_neg zn, if_pos z'] at eq
        exact (hju (eq ▸ z3)).elim
      · rw [if_neg zn, if_neg zn'] at eq
        exact r6 f1 f1' k k' z z' z1 z1' z2 z2' eq
  · have tu := (hw.2.2.2.2.2 u hu).2
    exact (hg.2 u hu).eq (fun q q1 q2 => code q (by omega))
