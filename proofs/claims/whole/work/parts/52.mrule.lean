/-! THE MODEL'S RULES -/
theorem set_at {fs : List Fn} {f : Nat} {y : Fn} (hf : f < fs.length) : ∀ (f' : Nat) (z : Fn), (fs.set f y)[f']? = some z → (f' ≠ f ∧ fs[f']? = some z) ∨ (f' = f ∧ z = y) := by
  intro f' z hz
  by_cases e : f = f'
  · subst e
    rw [List.getElem?_set_self hf] at hz
    cases hz
    exact Or.inr ⟨rfl, rfl⟩
  · rw [List.getElem?_set_ne e] at hz
    exact Or.inl ⟨fun w => e w.symm, hz⟩
theorem ml_unrule {m : Mm} {fs : List Fn} {nds : List Tr} {g : Option Tr} (hw : PW fs nds g) (h : MX m fs nds g) (a : Int32) : C m12_unrule [.ref 668, .int a] m (FunM m nds g (opUnrule fs a)) := by
  obtain ⟨hm, h2, h3, h4⟩ := id h
  obtain ⟨⟨f1, f2, f3⟩, f4, f5, sl, us, r1, r2, r3, r4, r5, r6⟩ := id h3
  refine C.of (by decide +kernel) (Nat.le_of_ble_eq_true rfl) rfl (u12_unrule hm (C.mono (s12_isFun hm h3.1 a) ?_))
  rintro o m' ⟨rfl, rfl⟩
  cases e : fget fs a with
  | none =>
    refine ⟨_, rfl, hm, fun q => (q rfl).elim, fun _ => u12_unrule_27 hm ⟨fun q => absurd q (by decide), fun _ => ?_⟩⟩
    rw [show opUnrule fs a = ((1, 0), fs) by unfold opUnrule; rw [e]]
    exact FunM.no h Fr.refl (by decide) rfl
  | some x =>
    obtain ⟨g1, g2, g3⟩ := fget_some e
    have hl := tot_le g3
    have hT := hw.2.1
    rw [if_pos (show (some x).isSome = true from rfl)]
    have en := nn_of g1
    generalize hf : a.toNatClampNeg = f at *
    subst en
    obtain ⟨p1, p2⟩ := r5 f x g3
    have l0 : mI m' 673 f = 0 ↔ x.2.2.length = 0 := by
      rw [p1]
      exact nn_eq (b := 0) (by omega) (by decide)
    have v8 : vp_in (nn f) 8 := nn_in (by omega) (by omega)
    refine ⟨_, rfl, hm, fun _ => ⟨v8, ?_⟩, fun q => absurd q (by decide)⟩
    rw [l0]
    refine ⟨fun w => u12_unrule_27 hm ⟨fun _ => ?_, fun q => absurd (by decide) q⟩, fun w => u12_unrule_27 hm ⟨fun q => absurd q (by decide), fun _ => ?_⟩⟩
    · have hk : x.2.2.length - 1 < x.2.2.length := by omega
      have hR := List.getElem?_eq_getElem hk
      generalize x.2.2[x.2.2.length - 1]'hk = R at hR
      obtain ⟨p3, p4, p5⟩ := p2 _ R hR
      have s24 := r3 _ p4
      have e24 : (24 : Int32) * nn f = nn (24 * f) := nn_mul 24 f
      rw [nn_tn (by omega), p1, nn_pred (by omega), e24, nn_add, nn_tn (by omega), p3, nn_tn (by omega), f4, nn_pred (by omega)]
      refine ⟨v8, v8, v8, nn_in (by omega) (by omega), nn_in (by omega) s24, v8, ?_⟩
      rw [show opUnrule fs (nn f) = ((0, nn (x.2.2.length - 1)), fs.set f (x.1, x.2.1, x.2.2.dropLast)) by unfold opUnrule; rw [e]; simp only; rw [if_neg w, hf]]
      generalize hs0 : sl f (x.2.2.length - 1) = s0 at *
      generalize hM : mSetI (mSetI (mSetI (mSetI m' 668 12 0) 673 f (nn (x.2.2.length - 1))) 675 s0 0) 668 9 (nn (tot fs - 1)) = M
      have fr : Fr (fun b j => (b = 668 ∧ (j = 9 ∨ j = 12)) ∨ (b = 673 ∧ j = f) ∨ (b = 675 ∧ j = s0)) m' M := by
        rw [← hM]
        exact (((Fr.refl.set (Or.inl ⟨rfl, Or.inr rfl⟩)).set (Or.inr (Or.inl ⟨rfl, rfl⟩))).set (Or.inr (Or.inr ⟨rfl, rfl⟩))).set (Or.inl ⟨rfl, Or.inl rfl⟩)
      have ts := tot_set (y := (x.1, x.2.1, x.2.2.dropLast)) g3
      have dl : (x.2.2.dropLast).length = x.2.2.length - 1 := List.length_dropLast
      have e0 : ((x.1, x.2.1, x.2.2.dropLast) : Fn).2.2.length = x.2.2.length - 1 := dl
      rw [e0] at ts
      have len : (fs.set f (x.1, x.2.1, x.2.2.dropLast)).length = fs.length := List.length_set
      have atf := set_at (y := (x.1, x.2.1, x.2.2.dropLast)) g2
      have dr : ∀ (k : Nat) (R : Rl), (x.2.2.dropLast)[k]? = some R → k < x.2.2.length - 1 ∧ x.2.2[k]? = some R := by
        intro k R hR
        have hk := (List.getElem?_eq_some_iff.mp hR).1
        rw [dl] at hk
        rw [List.getElem?_dropLast, if_pos (by omega)] at hR
        exact ⟨hk, hR⟩
      refine ⟨⟨⟨_, rfl, fun _ => rfl⟩, ?_⟩, fr.mono (fun b j q => by unfold SF; omega), fr.st hm, h2.fr fr (by omega) (fun j => by omega) (fun j => by omega), ⟨⟨by rw [len]; exact (fr.i (by omega)).trans f1, by rw [len]; exact f2, fun f' y hy => ?_⟩, ?_, fun f' q1 q2 => ?_, sl, us.erase s0, r1.erase s0, ?_, fun s hs => r3 s (List.mem_of_mem_erase hs), fun s hs => ?_, fun f' y hy => ?_, fun f1 f1' k k' y y' hy hy' hk hk' eq => ?_⟩, (fr.i (by omega)).trans h4.1, fun t ht => (h4.2 t ht).eq (fun j _ _ => fr.i (by omega))⟩
      · rw [← hM, mI_set, if_neg (by omega), mI_set, if_neg (by omega), mI_set, if_neg (by omega), mI_set, if_pos ⟨rfl, rfl⟩]
        rfl
      · rw [fr.i (by omega), fr.i (by omega)]
        rcases atf f' y hy with ⟨-, w⟩ | ⟨w1, w2⟩
        · exact f3 f' y w
        · subst w1 w2
          exact f3 _ x g3
      · rw [← hM, mI_set, if_pos ⟨rfl, rfl⟩]
        exact congrArg nn (show tot fs - 1 = tot (fs.set f (x.1, x.2.1, x.2.2.dropLast)) by omega)
      · rw [len] at q1
        rw [fr.i (by omega)]
        exact f5 f' q1 q2
      · show (us.erase s0).length = tot (fs.set f (x.1, x.2.1, x.2.2.dropLast))
        rw [List.length_erase_of_mem p4, r2]
        omega
      · by_cases es : s = s0
        · subst es
          rw [← hM, mI_set, if_neg (by omega), mI_set, if_pos ⟨rfl, rfl⟩, if_neg (List.Nodup.not_mem_erase r1)]
        · rw [fr.i (by omega), r4 s hs]
          by_cases hin : s ∈ us
          · rw [if_pos hin, if_pos ((List.mem_erase_of_ne es).mpr hin)]
          · rw [if_neg hin, if_neg (fun w => hin (List.mem_of_mem_erase w))]
      · rcases atf f' y hy with ⟨w1, w⟩ | ⟨w1, w2⟩
        · obtain ⟨u1, u2⟩ := r5 f' y w
          refine ⟨(fr.i (by omega)).trans u1, fun k R' hR' => ?_⟩
          obtain ⟨u3, u4, u5⟩ := u2 k R' hR'
          have hne : sl f' k ≠ s0 := fun z => w1 (r6 f' f k (x.2.2.length - 1) y x w g3 (List.getElem?_eq_some_iff.mp hR').1 hk (z.trans hs0.symm)).1
          exact ⟨(fr.i (by omega)).trans u3, (List.mem_erase_of_ne hne).mpr u4, u5.eq ((hw.2.2.1 f' y w).2 R' (List.mem_of_getElem? hR')) (fun j _ _ => fr.i (by omega))⟩
        · subst w1 w2
          refine ⟨?_, fun k R' hR' => ?_⟩
          · rw [← hM, mI_set, if_neg (by omega), mI_set, if_neg (by omega), mI_set, if_pos ⟨rfl, rfl⟩, e0]
          · obtain ⟨d1, d2⟩ := dr k R' hR'
            obtain ⟨u3, u4, u5⟩ := p2 k R' d2
            have hne : sl f' k ≠ s0 := fun z => by
              have := (r6 f' f' k (x.2.2.length - 1) x x g3 g3 (by omega) hk (z.trans hs0.symm)).2
              omega
            exact ⟨(fr.i (by omega)).trans u3, (List.mem_erase_of_ne hne).mpr u4, u5.eq ((hw.2.2.1 _ x g3).2 R' (List.mem_of_getElem? d2)) (fun j _ _ => fr.i (by omega))⟩
      · have old : ∀ (f' k : Nat) (y : Fn), (fs.set f (x.1, x.2.1, x.2.2.dropLast))[f']? = some y → k < y.2.2.length → ∃ y', fs[f']? = some y' ∧ k < y'.2.2.length := by
          intro f' k y hy hk
          rcases atf f' y hy with ⟨-, w⟩ | ⟨w1, w2⟩
          · exact ⟨y, w, hk⟩
          · subst w1 w2
            rw [e0] at hk
            exact ⟨x, g3, by omega⟩
        obtain ⟨z, z1, z2⟩ := old f1 k y hy hk
        obtain ⟨z', z1', z2'⟩ := old f1' k' y' hy' hk'
        exact r6 f1 f1' k k' z z' z1 z1' z2 z2' eq
    · rw [show opUnrule fs (nn f) = ((2, 0), fs) by unfold opUnrule; rw [e]; exact if_pos w]
      exact FunM.no h Fr.refl (by decide) rfl
/-- a place that is free -/
theorem free_at {us : List Nat} (h1 : us.length < 24) (h2 : ∀ s, s < 24 → s ∈ us) : False := by
  have h3 : (List.range 24).length ≤ us.length := List.Nodup.length_le_of_subset List.nodup_range (fun s hs => h2 s (List.mem_range.mp hs))
  rw [List.length_range] at h3
  omega
