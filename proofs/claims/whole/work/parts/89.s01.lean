/-! SEARCHES OF THE MODEL: a row is told -/
def STm (R : Nat) (a j : Nat) : Prop := a = 702 ∨ a = 712 ∨ (a = 703 ∧ j = R) ∨ (a = 704 ∧ 40 * R ≤ j ∧ j < 40 * R + 40)
def ALm (m : Mm) (T : List Nat) : Prop := ∀ k x, T.reverse[k]? = some x → mI m 702 k = nn x
def OPt (m : Mm) (L : List Nat) : Prop := ∀ k x, L[k]? = some x → mI m 712 k = nn x
theorem ALm.push {m : Mm} {T : List Nat} {y : Nat} (h : ALm m T) : ALm (mSetI m 702 T.length (nn y)) (y :: T) := fun k x hk => by
  rw [List.reverse_cons] at hk
  rw [mI_set]
  by_cases e : k < T.length
  · rw [List.getElem?_append_left (by rw [List.length_reverse]; exact e)] at hk
    rw [if_neg (by omega)]
    exact h k x hk
  · have hl := (List.getElem?_eq_some_iff.mp hk).1
    rw [List.length_append, List.length_reverse, List.length_singleton] at hl
    obtain rfl : k = T.length := by omega
    rw [List.getElem?_append_right (by rw [List.length_reverse]; exact Nat.le_refl _), List.length_reverse, Nat.sub_self] at hk
    obtain rfl : y = x := Option.some.inj hk
    rw [if_pos ⟨rfl, rfl⟩]
theorem RT.st {m m' : Mm} {n R : Nat} {f : Nat → Th} {mk : Nat → Nat} (h : RT m n f mk) (fr : Fr (STm R) m m') : RT m' n f mk := h.fe (fun a a1 a2 => fr.fn (fun j => by unfold STm; omega)) (fr.i (by unfold STm; omega))
theorem nOf_no : ∀ {L : List Nat} {x : Nat}, x ∉ L → nOf L x = L.length
  | [], _, _ => rfl
  | y :: L, x, h => by
    show (if y = x then 0 else nOf L x + 1) = L.length + 1
    rw [if_neg (fun e => h (by rw [e]; exact List.mem_cons_self ..)), nOf_no (fun q => h (List.mem_cons_of_mem _ q))]
theorem nOf_at : ∀ {L : List Nat} {x : Nat}, x ∈ L → L[nOf L x]? = some x
  | y :: L, x, h => by
    show (y :: L)[if y = x then 0 else nOf L x + 1]? = some x
    by_cases e : y = x
    · rw [if_pos e, e]
      rfl
    · rw [if_neg e, List.getElem?_cons_succ]
      rcases List.mem_cons.mp h with q | q
      · exact absurd q.symm e
      · exact nOf_at q
theorem s12_tell {fs : List Fn} {m : Mm} {s : Ac} {R : Nat} {o : Option Nat} (hm : St m) (hk : TLk2 fs s) (hT : RT m (aC s) (aF s) (aM s)) (hR : R < 70) (ho : ∀ y, o = some y → y < aC s ∧ Cl s y) :
    C m12_tell [.ref 668, .int (nn R), .int (no o)] m (fun r m' => r = .inl none ∧ Fr (STm R) m m' ∧ mI m' 703 R = nn (tellP s 40 o.toList []).length ∧ ∀ (p x : Nat), (tellP s 40 o.toList [])[p]? = some x → mI m' 704 (40 * R + p) = nn x) := by
  refine C.of (by decide +kernel) (Nat.le_of_ble_eq_true rfl) rfl (u12_tell hm ?_)
  obtain ⟨⟨rk, g⟩, hC, hX⟩ := id hk
  have ng : ∀ a, a < 2147483648 → (nn a ≤ 0 ↔ a = 0) := fun a ha => by
    have : nn a ≤ nn 0 ↔ a ≤ 0 := nn_le ha (by decide)
    exact this.trans (by omega)
  have tR : Int32.toNatClampNeg (nn R) = R := nn_tn (by omega)
  have loop : ∀ (d : Nat) (T L pre : List Nat) (M : Mm), pre.length + d = 40 → St M → Fr (STm R) m M → ALm M T → T.length ≤ pre.length + 1 → OPt M L → L.length ≤ pre.length → (∀ y, y ∈ T → y < aC s ∧ Cl s y) → (∀ y, y ∈ L → y < aC s) → tellP s 40 o.toList [] = pre ++ tellP s d T L → (∀ (p x : Nat), pre[p]? = some x → mI M 704 (40 * R + p) = nn x) →
      V m12_tell 22 [some (.ref 668), some (.int (nn R)), some (.int (no o)), some (.int (nn T.length)), some (.int (nn L.length)), some (.int (nn pre.length)), none, none, none] [] M (fun r m' => r = .inl none ∧ Fr (STm R) m m' ∧ mI m' 703 R = nn (tellP s 40 o.toList []).length ∧ ∀ (p x : Nat), (tellP s 40 o.toList [])[p]? = some x → mI m' 704 (40 * R + p) = nn x) := by
    intro d
    induction d with
    | zero =>
      intro T L pre M hp sM fr hA hTl hO hL hTc hLc hRw hrow
      have e : tellP s 40 o.toList [] = pre := by rw [hRw]; exact List.append_nil _
      have fin : V m12_tell 205 [some (.ref 668), some (.int (nn R)), some (.int (no o)), some (.int (nn T.length)), some (.int (nn L.length)), some (.int (nn pre.length)), none, none, none] [] M (fun r m' => r = .inl none ∧ Fr (STm R) m m' ∧ mI m' 703 R = nn (tellP s 40 o.toList []).length ∧ ∀ (p x : Nat), (tellP s 40 o.toList [])[p]? = some x → mI m' 704 (40 * R + p) = nn x) := by
        refine u12_tell_205 sM ⟨nn_in (by omega) hR, ?_⟩
        rw [tR, e]
        refine ⟨rfl, fr.set (Or.inr (Or.inr (Or.inl ⟨rfl, rfl⟩))), by rw [mI_set, if_pos ⟨rfl, rfl⟩], fun p x hx => ?_⟩
        rw [mI_set, if_neg (by omega)]
        exact hrow p x hx
      refine u12_tell_22 sM ⟨fun _ => fin, fun _ => ⟨fun _ => fin, fun q => ?_⟩⟩
      rw [show pre.length = 40 by omega] at q
      exact (q (Int32.le_refl _)).elim
    | succ d ih =>
      intro T L pre M hp sM fr hA hTl hO hL hTc hLc hRw hrow
      have n40 : 40 ≤ nn pre.length ↔ 40 ≤ pre.length := nn_le (a := 40) (by decide) (by omega)
      have hTM := hT.st fr
      refine u12_tell_22 sM ?_
      rw [ng T.length (by omega), n40]
      refine ⟨fun e0 => ?_, fun ne => ⟨fun q => by omega, fun _ => ?_⟩⟩
      · have hT0 : T = [] := List.length_eq_zero_iff.mp e0
        subst hT0
        have e : tellP s 40 o.toList [] = pre := by rw [hRw]; exact List.append_nil _
        refine u12_tell_205 sM ⟨nn_in (by omega) hR, ?_⟩
        rw [tR, e]
        refine ⟨rfl, fr.set (Or.inr (Or.inr (Or.inl ⟨rfl, rfl⟩))), by rw [mI_set, if_pos ⟨rfl, rfl⟩], fun p x hx => ?_⟩
        rw [mI_set, if_neg (by omega)]
        exact hrow p x hx
      · cases T with
        | nil => exact absurd rfl ne
        | cons y T =>
          obtain ⟨yl, yc⟩ := hTc y (List.mem_cons_self ..)
          have hTlen : (y :: T).length = T.length + 1 := rfl
          have hpp : nn (y :: T).length + (-1) = nn T.length := by
            rw [show nn (y :: T).length + (-1) = nn (y :: T).length - 1 from by rw [Int32.sub_eq_add_neg]]
            exact nn_pred (by omega)
          have tT : Int32.toNatClampNeg (nn T.length) = T.length := nn_tn (by omega)
          rw [hpp, tT]
          have hAy : mI M 702 T.length = nn y := hA T.length y (by
            rw [List.reverse_cons, List.getElem?_append_right (by rw [List.length_reverse]; exact Nat.le_refl _), List.length_reverse, Nat.sub_self]
            rfl)
          have hAT : ALm M T := fun k x hx => hA k x (by
            rw [List.reverse_cons, List.getElem?_append_left (by rw [List.length_reverse] ; have := (List.getElem?_eq_some_iff.mp hx).1; rw [List.length_reverse] at this; omega)]
            exact hx)
          rw [hAy]
          obtain ⟨z, hz⟩ : ∃ z, z = root s y := ⟨_, rfl⟩
          have zl : z < aC s := by rw [hz]; exact g.lt yl
          have zr : root s z = z := by rw [hz]; exact g.rr yl
          have zc : Cl s z := yc.ro (by rw [zr]; exact hz.symm)
          have zk : tK (aF s z) < 2 := by
            have := (Cl_iff.mp zc).1
            rw [zr] at this
            exact this
          have tz : Int32.toNatClampNeg (nn z) = z := nn_tn (by omega)
          have vz : vp_in (nn z) 6000 := nn_in (by omega) (by omega)
          refine ⟨nn_in (by omega) (by omega), C.mono (s12_root (rk := rk) sM hTM (by omega) (fun x hx => (hX x hx).2.1) g.lk yl) ?_⟩
          rintro o4 m4 ⟨rfl, e4⟩
          have e4 := e4.symm
          subst e4
          have hrr : rootF (aF s) (aC s) y = z := hz.symm
          rw [hrr]
          refine ⟨_, rfl, sM, vz, vz, ?_⟩
          rw [tz]
          obtain ⟨f1, f2, f3, f4, f5⟩ := (hTM.2 z zl).1
          have hR' : tellP s (d + 1) (y :: T) L = if tK (aF s z) = 0 then (10 + nOf L z) :: tellP s d T (if z ∈ L then L else L ++ [z]) else tO (aF s z) :: tellP s d (kidsL s z ++ T) L := by
            rw [hz]
            rfl
          have ek : nn (tK (aF s z)) = 0 ↔ tK (aF s z) = 0 := nn_eq (b := 0) (by omega) (by decide)
          have wr : ∀ (M2 : Mm) (v : Nat), (∀ (p x : Nat), pre[p]? = some x → mI M2 704 (40 * R + p) = nn x) → ∀ (p x : Nat), (pre ++ [v])[p]? = some x → mI (mSetI M2 704 (40 * R + pre.length) (nn v)) 704 (40 * R + p) = nn x := fun M2 v hr p x hx => by
            rw [mI_set]
            by_cases w : p < pre.length
            · rw [List.getElem?_append_left w] at hx
              rw [if_neg (by omega)]
              exact hr p x hx
            · have hl := (List.getElem?_eq_some_iff.mp hx).1
              rw [List.length_append, List.length_singleton] at hl
              obtain rfl : p = pre.length := by omega
              rw [List.getElem?_append_right (Nat.le_refl _), Nat.sub_self] at hx
              obtain rfl : v = x := Option.some.inj hx
              rw [if_pos ⟨rfl, rfl⟩]
          have e40 : 40 * nn R + nn pre.length = nn (40 * R + pre.length) := by
            rw [show (40 : Int32) = nn 40 from rfl, nn_mul, nn_add]
          -- the code is laid
          have at185 : ∀ (M2 : Mm) (T2 L2 : List Nat) (v : Nat) (x8 : Option Value), St M2 → Fr (STm R) m M2 → ALm M2 T2 → T2.length ≤ pre.length + 2 → OPt M2 L2 → L2.length ≤ pre.length + 1 → (∀ y, y ∈ T2 → y < aC s ∧ Cl s y) → (∀ y, y ∈ L2 → y < aC s) → tellP s (d + 1) (y :: T) L = v :: tellP s d T2 L2 → (∀ (p x : Nat), pre[p]? = some x → mI M2 704 (40 * R + p) = nn x) →
              V m12_tell 185 [some (.ref 668), some (.int (nn R)), some (.int (no o)), some (.int (nn T2.length)), some (.int (nn L2.length)), some (.int (nn pre.length)), some (.int (nn z)), some (.int (nn v)), x8] [] M2 (fun r m' => r = .inl none ∧ Fr (STm R) m m' ∧ mI m' 703 R = nn (tellP s 40 o.toList []).length ∧ ∀ (p x : Nat), (tellP s 40 o.toList [])[p]? = some x → mI m' 704 (40 * R + p) = nn x) := by
            intro M2 T2 L2 v x8 s2 fr2 hA2 hT2 hO2 hL2 hTc2 hLc2 he hr2
            refine V.weak (L' := [some (.ref 668), some (.int (nn R)), some (.int (no o)), some (.int (nn T2.length)), some (.int (nn L2.length)), some (.int (nn pre.length)), some (.int (nn z)), some (.int (nn v)), none]) rfl (fun i v q => ?_) (u12_tell_185 s2 ?_)
            · rcases i with _ | _ | _ | _ | _ | _ | _ | _ | _ | i
              all_goals first | exact q | cases q
            rw [e40, nn_tn (by omega), nn_one]
            refine ⟨nn_in (by omega) (by omega), ?_⟩
            have fr3 : Fr (STm R) m (mSetI M2 704 (40 * R + pre.length) (nn v)) := fr2.set (Or.inr (Or.inr (Or.inr ⟨rfl, by omega, by omega⟩)))
            have key := ih T2 L2 (pre ++ [v]) _ (by rw [List.length_append, List.length_singleton]; omega) (fr3.st hm) fr3 (fun k x hx => by
              rw [mI_set, if_neg (by omega)]
              exact hA2 k x hx) (by rw [List.length_append, List.length_singleton]; omega) (fun k x hx => by
              rw [mI_set, if_neg (by omega)]
              exact hO2 k x hx) (by rw [List.length_append, List.length_singleton]; omega) hTc2 hLc2 (by rw [hRw, he, List.append_assoc]; rfl) (wr M2 v hr2)
            rw [List.length_append, List.length_singleton] at key
            refine V.weak (L' := [some (.ref 668), some (.int (nn R)), some (.int (no o)), some (.int (nn T2.length)), some (.int (nn L2.length)), some (.int (nn (pre.length + 1))), none, none, none]) rfl (fun i v q => ?_) key
            rcases i with _ | _ | _ | _ | _ | _ | _ | _ | _ | i
            all_goals first | exact q | cases q
          rw [f1, ek]
          refine ⟨fun w0 => ?_, fun w0 => ?_⟩
          · -- data
            have k1 : tK (aF s z) = 1 := by omega
            rw [if_neg w0] at hR'
            rw [f2 (by omega), f4]
            have kl : ∀ y, y ∈ kidsL s z ++ T → y < aC s ∧ Cl s y := fun w hw => by
              rcases List.mem_append.mp hw with q | q
              · exact kids_cl g zl zr zc k1 w q
              · exact hTc w (List.mem_cons_of_mem _ q)
            -- the first part
            have at158 : ∀ (M2 : Mm) (T2 : List Nat), St M2 → Fr (STm R) m M2 → ALm M2 T2 → (tA (aF s z)).toList ++ T2 = kidsL s z ++ T → OPt M2 L → (∀ (p x : Nat), pre[p]? = some x → mI M2 704 (40 * R + p) = nn x) →
                V m12_tell 158 [some (.ref 668), some (.int (nn R)), some (.int (no o)), some (.int (nn T2.length)), some (.int (nn L.length)), some (.int (nn pre.length)), some (.int (nn z)), some (.int (nn (tO (aF s z)))), none] [] M2 (fun r m' => r = .inl none ∧ Fr (STm R) m m' ∧ mI m' 703 R = nn (tellP s 40 o.toList []).length ∧ ∀ (p x : Nat), (tellP s 40 o.toList [])[p]? = some x → mI m' 704 (40 * R + p) = nn x) := by
              intro M2 T2 s2 fr2 hA2 hT2 hO2 hr2
              have hl2 : T2.length ≤ T.length + 2 := by
                have := congrArg List.length hT2
                rw [List.length_append, List.length_append] at this
                have := kids_len (s := s) (z := z)
                omega
              refine u12_tell_158 s2 ?_
              rw [tz, show mI M2 679 z = no (tA (aF s z)) from ((hT.st fr2).2 z zl).1.2.2.1]
              refine ⟨vz, ?_⟩
              have hTl2 : ((tA (aF s z)).toList ++ T2).length ≤ pre.length + 2 := by
                rw [hT2, List.length_append]
                have := kids_len (s := s) (z := z)
                omega
              cases hA0 : tA (aF s z) with
              | none =>
                rw [hA0] at hT2 hTl2
                have hT2 : T2 = kidsL s z ++ T := hT2
                refine ⟨fun _ => ?_, fun q => (q rfl).elim⟩
                exact at185 M2 T2 L _ none s2 fr2 hA2 hTl2 hO2 (by omega) (by rw [hT2]; exact kl) hLc (by rw [hT2]; exact hR') hr2
              | some a =>
                rw [hA0] at hT2 hTl2
                have hT2 : a :: T2 = kidsL s z ++ T := hT2
                have al : a < aC s := (kl a (by rw [← hT2]; exact List.mem_cons_self ..)).1
                refine ⟨fun q => (nn_m1 (by omega) q).elim, fun _ => ⟨vz, nn_in (by omega) (by omega), ?_⟩⟩
                rw [nn_tn (a := T2.length) (by omega), nn_one]
                have fr3 : Fr (STm R) m (mSetI M2 702 T2.length (nn a)) := fr2.set (Or.inl rfl)
                refine at185 (mSetI M2 702 T2.length (nn a)) (a :: T2) L _ none (fr3.st hm) fr3 hA2.push hTl2 (fun k x hx => ?_) (by omega) (by rw [hT2]; exact kl) hLc (by rw [hT2]; exact hR') (fun p x hx => ?_)
                · rw [mI_set, if_neg (by omega)]
                  exact hO2 k x hx
                · rw [mI_set, if_neg (by omega)]
                  exact hr2 p x hx
            refine ⟨vz, ?_⟩
            cases hB0 : tB (aF s z) with
            | none =>
              refine ⟨fun _ => ?_, fun q => (q rfl).elim⟩
              refine at158 M T sM fr hAT ?_ hO hrow
              unfold kidsL
              rw [hB0]
              show _ = (tA (aF s z)).toList ++ [] ++ T
              rw [List.append_nil]
            | some b =>
              have bl : b < aC s := (kl b (by
                unfold kidsL
                rw [hB0]
                exact List.mem_append_left _ (List.mem_append_right _ (List.mem_singleton.mpr rfl)))).1
              refine ⟨fun q => (nn_m1 (by omega) q).elim, fun _ => ⟨vz, nn_in (by omega) (by omega), ?_⟩⟩
              rw [nn_one]
              have fr3 : Fr (STm R) m (mSetI M 702 T.length (nn b)) := fr.set (Or.inl rfl)
              refine at158 (mSetI M 702 T.length (nn b)) (b :: T) (fr3.st hm) fr3 hAT.push ?_ (fun k x hx => ?_) (fun p x hx => ?_)
              · unfold kidsL
                rw [hB0]
                show _ = (tA (aF s z)).toList ++ [b] ++ T
                rw [List.append_assoc]
                rfl
              · rw [mI_set, if_neg (by omega)]
                exact hO k x hx
              · rw [mI_set, if_neg (by omega)]
                exact hrow p x hx
          · -- unbound
            rw [if_pos w0] at hR'
            rw [f2 (by omega)]
            have at95 : V m12_tell 95 [some (.ref 668), some (.int (nn R)), some (.int (no o)), some (.int (nn T.length)), some (.int (nn L.length)), some (.int (nn pre.length)), some (.int (nn z)), some (.int (nn (tO (aF s z)))), some (.int (nn (nOf L z)))] [] M (fun r m' => r = .inl none ∧ Fr (STm R) m m' ∧ mI m' 703 R = nn (tellP s 40 o.toList []).length ∧ ∀ (p x : Nat), (tellP s 40 o.toList [])[p]? = some x → mI m' 704 (40 * R + p) = nn x) := by
              have hnl : nOf L z ≤ L.length := by
                by_cases w : z ∈ L
                · exact Nat.le_of_lt (nOf_lt w)
                · rw [nOf_no w]
                  exact Nat.le_refl _
              have eqn : nn (nOf L z) = nn L.length ↔ nOf L z = L.length := nn_eq (by omega) (by omega)
              have fr3 : Fr (STm R) m (mSetI M 712 (nOf L z) (nn z)) := fr.set (Or.inr (Or.inl rfl))
              have e10 : (10 + nn (nOf L z) : Int32) = nn (10 + nOf L z) := by
                rw [show (10 : Int32) = nn 10 from rfl]
                exact nn_add _ _
              have fin : ∀ L2, (if z ∈ L then L else L ++ [z]) = L2 → V m12_tell 185 [some (.ref 668), some (.int (nn R)), some (.int (no o)), some (.int (nn T.length)), some (.int (nn L2.length)), some (.int (nn pre.length)), some (.int (nn z)), some (.int (10 + nn (nOf L z))), some (.int (nn (nOf L z)))] [] (mSetI M 712 (nOf L z) (nn z)) (fun r m' => r = .inl none ∧ Fr (STm R) m m' ∧ mI m' 703 R = nn (tellP s 40 o.toList []).length ∧ ∀ (p x : Nat), (tellP s 40 o.toList [])[p]? = some x → mI m' 704 (40 * R + p) = nn x) := fun L2 hL2 => by
                rw [e10]
                rw [hL2] at hR'
                refine at185 (mSetI M 712 (nOf L z) (nn z)) T L2 _ _ (fr3.st hm) fr3 (fun k x hx => ?_) (by omega) (fun k x hx => ?_) ?_ (fun w hw => hTc w (List.mem_cons_of_mem _ hw)) (fun x hx => ?_) hR' (fun p x hx => ?_)
                · rw [mI_set, if_neg (by omega)]
                  exact hAT k x hx
                · rw [mI_set]
                  rw [← hL2] at hx
                  by_cases w : z ∈ L
                  · rw [if_pos w] at hx
                    by_cases e : k = nOf L z
                    · rw [if_pos ⟨rfl, e⟩]
                      rw [e, nOf_at w] at hx
                      obtain rfl : z = x := Option.some.inj hx
                      rfl
                    · rw [if_neg (fun q => e q.2)]
                      exact hO k x hx
                  · rw [if_neg w] at hx
                    rw [nOf_no w]
                    by_cases e : k < L.length
                    · rw [List.getElem?_append_left e] at hx
                      rw [if_neg (by omega)]
                      exact hO k x hx
                    · have hl := (List.getElem?_eq_some_iff.mp hx).1
                      rw [List.length_append, List.length_singleton] at hl
                      obtain rfl : k = L.length := by omega
                      rw [List.getElem?_append_right (Nat.le_refl _), Nat.sub_self] at hx
                      obtain rfl : z = x := Option.some.inj hx
                      rw [if_pos ⟨rfl, rfl⟩]
                · rw [← hL2]
                  split
                  · omega
                  · rw [List.length_append]
                    show L.length + 1 ≤ pre.length + 1
                    omega
                · rw [← hL2] at hx
                  by_cases w : z ∈ L
                  · rw [if_pos w] at hx
                    exact hLc x hx
                  · rw [if_neg w] at hx
                    rcases List.mem_append.mp hx with q | q
                    · exact hLc x q
                    · rw [List.mem_singleton.mp q]
                      exact zl
                · rw [mI_set, if_neg (by omega)]
                  exact hrow p x hx
              refine u12_tell_95 sM ?_
              rw [nn_tn (a := nOf L z) (by omega), eqn]
              refine ⟨nn_in (by omega) (by omega), fun ne => u12_tell_118 (fr3.st hm) ?_, fun eq => u12_tell_118 (fr3.st hm) ?_⟩
              · have hzL : z ∈ L := by
                  by_cases w : z ∈ L
                  · exact w
                  · exact absurd (nOf_no w) ne
                rw [Int32.add_zero]
                exact fin L (if_pos hzL)
              · have hzL : z ∉ L := fun q => by
                  have := nOf_lt q
                  omega
                have := fin (L ++ [z]) (if_neg hzL)
                rw [List.length_append] at this
                rw [nn_one]
                exact this
            have seek : ∀ (suf pr : List Nat), L = pr ++ suf → z ∉ pr → nOf L z = pr.length + nOf suf z → V m12_tell 70 [some (.ref 668), some (.int (nn R)), some (.int (no o)), some (.int (nn T.length)), some (.int (nn L.length)), some (.int (nn pre.length)), some (.int (nn z)), some (.int (nn (tO (aF s z)))), some (.int (nn pr.length))] [] M (fun r m' => r = .inl none ∧ Fr (STm R) m m' ∧ mI m' 703 R = nn (tellP s 40 o.toList []).length ∧ ∀ (p x : Nat), (tellP s 40 o.toList [])[p]? = some x → mI m' 704 (40 * R + p) = nn x) := by
              intro suf
              induction suf with
              | nil =>
                intro pr hpr hn he
                rw [List.append_nil] at hpr
                have he : nOf L z = pr.length := he
                rw [he] at at95
                refine u12_tell_70 sM ⟨fun _ => at95, fun q => ?_⟩
                rw [hpr] at q
                exact (q (Int32.le_refl _)).elim
              | cons u suf ih2 =>
                intro pr hpr hn he
                have hlen : L.length = pr.length + (suf.length + 1) := by rw [hpr, List.length_append, List.length_cons]
                have hu : L[pr.length]? = some u := by
                  rw [hpr, List.getElem?_append_right (Nat.le_refl _), Nat.sub_self]
                  rfl
                have hub := hLc u (List.mem_of_getElem? hu)
                have l1 : nn L.length ≤ nn pr.length ↔ L.length ≤ pr.length := nn_le (by omega) (by omega)
                have eu : nn u = nn z ↔ u = z := nn_eq (by omega) (by omega)
                refine u12_tell_70 sM ?_
                rw [l1, nn_tn (a := pr.length) (by omega), hO _ u hu, eu, nn_one]
                refine ⟨fun q => by omega, fun _ => ⟨nn_in (by omega) (by omega), fun e => ?_, fun ne => ?_⟩⟩
                · have hz : nOf L z = pr.length := by
                    rw [he]
                    show pr.length + (if u = z then 0 else nOf suf z + 1) = _
                    rw [if_pos e]
                    rfl
                  rw [hz] at at95
                  exact at95
                · have key := ih2 (pr ++ [u]) (by rw [hpr, List.append_assoc]; rfl) (fun q => by
                    rcases List.mem_append.mp q with q | q
                    · exact hn q
                    · exact ne (List.mem_singleton.mp q).symm) (by
                    rw [he, List.length_append, List.length_singleton]
                    show pr.length + (if u = z then 0 else nOf suf z + 1) = _
                    rw [if_neg ne]
                    omega)
                  rw [List.length_append, List.length_singleton] at key
                  exact key
            exact seek L [] rfl (fun q => by cases q) (Nat.zero_add _).symm
  cases o with
  | none =>
    refine ⟨fun _ => ?_, fun q => (q rfl).elim⟩
    exact loop 40 [] [] [] m rfl hm Fr.refl (fun k x hx => by cases hx) (Nat.zero_le _) (fun k x hx => by cases hx) (Nat.zero_le _) (fun y hy => (List.not_mem_nil hy).elim) (fun y hy => (List.not_mem_nil hy).elim) rfl (fun p x hx => by cases hx)
  | some y =>
    obtain ⟨yl, yc⟩ := ho y rfl
    refine ⟨fun q => (nn_m1 (by omega) q).elim, fun _ => ⟨nn_in (a := 0) (by decide) (by decide), ?_⟩⟩
    have fr1 : Fr (STm R) m (mSetI m 702 0 (nn y)) := Fr.refl.set (Or.inl rfl)
    refine loop 40 [y] [] [] _ rfl (fr1.st hm) fr1 (fun k x hx => ?_) (Nat.le_refl _) (fun k x hx => by cases hx) (Nat.zero_le _) (fun w hw => ?_) (fun y hy => (List.not_mem_nil hy).elim) rfl (fun p x hx => by cases hx)
    · have hx : [y][k]? = some x := hx
      cases k with
      | zero =>
        obtain rfl : y = x := Option.some.inj hx
        rw [mI_set, if_pos ⟨rfl, rfl⟩]
        rfl
      | succ k => cases hx
    · rw [List.mem_singleton.mp hw]
      exact ⟨yl, yc⟩
