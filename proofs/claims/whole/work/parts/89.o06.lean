/-! A RUN WITHIN IS MADE AGAIN: choices, what is asked and united, what is whole -/
theorem SC.lnk {fs : List Fn} {j : Nat} {Dm : Nat → Prop} {be : Nat → Nat} {p q P Q : Ac} {rp rq rq' : Nat → Nat} {a z z' : Nat} (C : SC j Dm be p q) (E : Ev p q) (Ep : Ev p P) (Eq : Ev q Q) (Jp : JR fs p rp) (Jq : JR fs q rq) (gq' : GR Q rq') (Da : Dm a) (rz : RR j Dm be p q z z')
  (cP : aC P = aC p) (fP : aF P = up1 (aF p) a (7, tO (aF p a), some z, tB (aF p a), tW (aF p a), tP (aF p a), tT (aF p a))) (nP : aN P = aN p)
  (cQ : aC Q = aC q) (fQ : aF Q = up1 (aF q) (be a) (7, tO (aF q (be a)), some z', tB (aF q (be a)), tW (aF q (be a)), tP (aF q (be a)), tT (aF q (be a)))) (nQ : aN Q = aN q) : SC j Dm be P Q := by
  obtain ⟨c1, c2, c3, m1, m2, m3, m4, m5, m6, m7⟩ := C.1 a Da
  refine C.step E Ep Eq Jp.1 Jq.1 gq' (fun x _ q => ⟨q, rfl⟩) (fun _ x _ _ q _ => q) (fun x dx => ?_) C.2
  obtain ⟨z1, z2, _⟩ := C.1 x dx
  by_cases e : x = a
  · subst e
    refine Or.inr ⟨by rw [cP]; exact c1, by rw [cQ]; exact c2, by rw [fP, up1_at]; exact c3, ?_⟩
    have f1 : aF P x = (7, tO (aF p x), some z, tB (aF p x), tW (aF p x), tP (aF p x), tT (aF p x)) := by rw [fP, up1_at]
    have f2 : aF Q (be x) = (7, tO (aF q (be x)), some z', tB (aF q (be x)), tW (aF q (be x)), tP (aF q (be x)), tT (aF q (be x))) := by rw [fQ, up1_at]
    unfold TM
    rw [f1, f2]
    refine ⟨rfl, m2, m3, m4, ?_, fun h7 => absurd rfl h7, fun hN => ?_⟩
    · show RR j Dm be P Q z z'
      exact rz.mono C E Ep Eq Jq.1 gq' (fun q => q) (fun q => ⟨q, rfl⟩)
    · rcases hN with w | ⟨w, _⟩
      · exact absurd w (show ¬ (7 : Nat) = 6 by decide)
      · exact absurd w (show ¬ (7 : Nat) = 2 by decide)
  · have e2 : be x ≠ be a := fun q => e (C.2 _ _ dx Da q)
    exact Or.inl ⟨z1, by rw [fP, up1_ne e], by rw [fQ, up1_ne e2], fun _ => by rw [nP, nQ]; exact ⟨rfl, rfl⟩⟩
theorem SC.dat {fs : List Fn} {j : Nat} {Dm : Nat → Prop} {be : Nat → Nat} {p q P Q : Ac} {rp rq rq' : Nat → Nat} {a k : Nat} (C : SC j Dm be p q) (E : Ev p q) (Ep : Ev p P) (Eq : Ev q Q) (Jp : JR fs p rp) (Jq : JR fs q rq) (gq' : GR Q rq') (Da : Dm a)
  (cP : aC P = aC p) (fP : aF P = up1 (aF p) a (1, k, none, none, tW (aF p a), tP (aF p a), tT (aF p a))) (nP : aN P = aN p)
  (cQ : aC Q = aC q) (fQ : aF Q = up1 (aF q) (be a) (1, k, none, none, tW (aF q (be a)), tP (aF q (be a)), tT (aF q (be a)))) (nQ : aN Q = aN q) : SC j Dm be P Q := by
  obtain ⟨c1, c2, c3, m1, m2, m3, m4, m5, m6, m7⟩ := C.1 a Da
  refine C.step E Ep Eq Jp.1 Jq.1 gq' (fun x _ q => ⟨q, rfl⟩) (fun _ x _ _ q _ => q) (fun x dx => ?_) C.2
  obtain ⟨z1, z2, _⟩ := C.1 x dx
  by_cases e : x = a
  · subst e
    refine Or.inr ⟨by rw [cP]; exact c1, by rw [cQ]; exact c2, by rw [fP, up1_at]; exact c3, ?_⟩
    have f1 : aF P x = (1, k, none, none, tW (aF p x), tP (aF p x), tT (aF p x)) := by rw [fP, up1_at]
    have f2 : aF Q (be x) = (1, k, none, none, tW (aF q (be x)), tP (aF q (be x)), tT (aF q (be x))) := by rw [fQ, up1_at]
    unfold TM
    rw [f1, f2]
    refine ⟨rfl, rfl, m3, m4, trivial, fun _ => trivial, fun hN => ?_⟩
    rcases hN with w | ⟨w, _⟩
    · exact absurd w (show ¬ (1 : Nat) = 6 by decide)
    · exact absurd w (show ¬ (1 : Nat) = 2 by decide)
  · have e2 : be x ≠ be a := fun q => e (C.2 _ _ dx Da q)
    exact Or.inl ⟨z1, by rw [fP, up1_ne e], by rw [fQ, up1_ne e2], fun _ => by rw [nP, nQ]; exact ⟨rfl, rfl⟩⟩
/-- a task of one thing is for the same -/
theorem nw_01 {q : Ac} {k x y a b c d : Nat} {P R : Tr} (hk : k = 0 ∨ k = 1 ∨ k = 2) (e : root q x = root q y) : nw q (k, x, a, b, P) = nw q (k, y, c, d, R) := by
  have ec : Cl q x ↔ Cl q y := ⟨fun h => h.ro e, fun h => h.ro e.symm⟩
  rcases hk with hk | hk | hk
  · subst hk
    unfold nw
    by_cases w : tK (aF q (root q x)) < 2
    · rw [nz0.1 w, nz0.1 (by rw [← e]; exact w)]
    · rw [nz0.2 (Nat.not_lt.mp w), nz0.2 (by rw [← e]; exact Nat.not_lt.mp w), e]
  · subst hk
    unfold nw
    by_cases w : Cl q x
    · rw [(nz12 (Or.inl rfl)).1 w, (nz12 (Or.inl rfl)).1 (ec.mp w)]
    · rw [(nz12 (Or.inl rfl)).2 w, (nz12 (Or.inl rfl)).2 (fun q => w (ec.mpr q)), e]
  · subst hk
    unfold nw
    by_cases w : Cl q x
    · rw [(nz12 (Or.inr rfl)).1 w, (nz12 (Or.inr rfl)).1 (ec.mp w)]
    · rw [(nz12 (Or.inr rfl)).2 w, (nz12 (Or.inr rfl)).2 (fun q => w (ec.mpr q)), e]
theorem ew_oT {j : Nat} {Dm : Nat → Prop} {be : Nat → Nat} {p q : Ac} {A A' : Option Nat} (h : RO j Dm be p q A A') : ew q ((oT 1 A).map (trx Dm be)) = ew q (oT 1 A') := by
  cases A with
  | none =>
    cases A' with
    | none => rfl
    | some y => exact h.elim
  | some x =>
    cases A' with
    | none => exact h.elim
    | some y =>
      have h : RR j Dm be p q x y := h
      show ew q [(1, bhx Dm be x, 0, 0, .nil)] = ew q [(1, y, 0, 0, .nil)]
      rw [ew_one, ew_one]
      exact nw_01 (Or.inr (Or.inl rfl)) h.2.2.2.symm
theorem tw_oT {j : Nat} {Dm : Nat → Prop} {be : Nat → Nat} {p q P : Ac} {A A' : Option Nat} (h : RO j Dm be p q A A') (Ep : Ev p P) : ∀ t, t ∈ oT 1 A → TOw j Dm P t := fun t ht => by
  cases A with
  | none => exact (List.not_mem_nil ht).elim
  | some x =>
    obtain ⟨y, _, r⟩ := h.sm.1 x rfl
    rw [List.mem_singleton.mp ht]
    refine ⟨fun v hv => ?_, trivial⟩
    rw [List.mem_singleton.mp hv, (Ep.2 x r.1).1]
    exact r.2.2.1
/-- nothing of things changes: only tasks are laid -/
theorem L_lay {fs : List Fn} {j : Nat} {Dm : Nat → Prop} {be : Nat → Nat} {p q P Q : Ac} {rp rq : Nat → Nat} {tp tq : Tk} {lp lq np nq : List Tk} (h : SYw j Dm be p q) (h1 : 1 ≤ j) (Jp : JR fs p rp) (Jq : JR fs q rq) (E : Ev p q)
  (htp : topK p = tp :: lp) (htq : topK q = tq :: lq) (hh : nw q (trx Dm be tp) = nw q tq)
  (lp1 : lvs p P lp np) (lq1 : lvs q Q lq nq) (kp : kg p P) (kq : kg q Q) (p1 : aC P = aC p) (p2 : aF P = aF p) (p3 : aN P = aN p) (q1 : aC Q = aC q) (q2 : aF Q = aF q) (q3 : aN Q = aN q)
  (hN : ∀ t, t ∈ np → TOw j Dm p t) (hM : ew q (np.map (trx Dm be)) = ew q nq) : SYw j Dm be P Q := by
  have gq' : GR Q rq := Jq.1.eq q1 q2 q3
  refine h.mk' h1 Jp Jq E (Ev.same (by rw [p1]; exact Nat.le_refl _) (fun _ _ => by rw [p2])) (Ev.same (by rw [q1]; exact Nat.le_refl _) (fun _ _ => by rw [q2])) gq' htp htq hh lp1 lq1 (fun _ _ q => q) (fun _ _ q => ⟨q, rfl⟩) (h.1.1.eqv p1 p2 p3 q1 q2 q3) (fun t ht => ?_) ?_ (h.dt.kg kp kq)
  · obtain ⟨a1, a2⟩ := hN t ht
    unfold TOw
    rw [p2]
    exact ⟨a1, a2⟩
  · rw [ew_eq q1 q2, ew_eq q1 q2]
    exact hM
theorem L_eith {fs : List Fn} {j : Nat} {Dm : Nat → Prop} {be : Nat → Nat} {p q : Ac} {rp rq rq' : Nat → Nat} {tp tq : Tk} {lp lq : List Tk} {a : Nat} (h : SYw j Dm be p q) (h1 : 1 ≤ j) (Jp : JR fs p rp) (Jq : JR fs q rq) (E : Ev p q) (hEp : aE p = 0) (hEq : aE q = 0)
  (htp : topK p = tp :: lp) (htq : topK q = tq :: lq) (hh : nw q (trx Dm be tp) = nw q tq) (Da : Dm a) (k3 : tK (aF p a) = 3)
  (hw : (decA (setK q lq) (tW (aF p a)) 2).1 = (decA (setK p lp) (tW (aF p a)) 2).1)
  (h0 : aE (forceG fs false (setK p lp) a) = 0) (h0' : aE (forceG fs false (setK q lq) (be a)) = 0) (Ep : Ev p (forceG fs false (setK p lp) a)) (Eq : Ev q (forceG fs false (setK q lq) (be a))) (gq' : GR (forceG fs false (setK q lq) (be a)) rq') : SYw j Dm be (forceG fs false (setK p lp) a) (forceG fs false (setK q lq) (be a)) := by
  have C := h.1.1
  obtain ⟨c1, c2, c3, m1, m2, m3, m4, m5, m6, m7⟩ := C.1 a Da
  have wq : tW (aF (setK q lq) (be a)) = tW (aF p a) := m3
  obtain ⟨iA, iB⟩ := (Jp.2.2.1.1 a c1).2.2.2.2.2.1 (by omega) (by omega)
  obtain ⟨dp, hdp⟩ : ∃ d, d = decA (setK p lp) (tW (aF p a)) 2 := ⟨_, rfl⟩
  obtain ⟨dq, hdq⟩ : ∃ d, d = decA (setK q lq) (tW (aF p a)) 2 := ⟨_, rfl⟩
  have efp : forceG fs false (setK p lp) a = if aE dp.2 = 0 then (match (if dp.1 = 0 then tA (aF p a) else tB (aF p a)) with
    | some y => push (link dp.2 a y) [(0, y, 0, 0, .nil)]
    | none => dp.2) else dp.2 := by
    unfold forceG
    rw [show tK (aF (setK p lp) a) = 3 from k3, hdp]
    rfl
  have efq : forceG fs false (setK q lq) (be a) = if aE dq.2 = 0 then (match (if dq.1 = 0 then tA (aF q (be a)) else tB (aF q (be a))) with
    | some y => push (link dq.2 (be a) y) [(0, y, 0, 0, .nil)]
    | none => dq.2) else dq.2 := by
    unfold forceG
    rw [show tK (aF (setK q lq) (be a)) = 3 from m1.trans k3, wq, hdq]
    rfl
  rw [efp] at h0 Ep ⊢
  rw [efq] at h0' Eq gq' ⊢
  rw [← hdp, ← hdq] at hw
  by_cases g1 : aE dp.2 = 0
  · rw [if_pos g1] at h0 Ep ⊢
    by_cases g2 : aE dq.2 = 0
    · rw [if_pos g2] at h0' Eq gq' ⊢
      rw [hw] at h0' Eq gq' ⊢
      have rz : RO j Dm be p q (if dp.1 = 0 then tA (aF p a) else tB (aF p a)) (if dp.1 = 0 then tA (aF q (be a)) else tB (aF q (be a))) := by
        by_cases w : dp.1 = 0
        · rw [if_pos w, if_pos w]
          exact m5
        · rw [if_neg w, if_neg w]
          exact m6 (by omega)
      have is : (if dp.1 = 0 then tA (aF p a) else tB (aF p a)).isSome = true := by
        split
        · exact iA
        · exact iB
      obtain ⟨z, hz⟩ := Option.isSome_iff_exists.mp is
      obtain ⟨z', hz', rzz⟩ := rz.sm.1 z hz
      rw [hz] at Ep ⊢
      rw [hz'] at Eq gq' ⊢
      have Ep : Ev p (push (link dp.2 a z) [(0, z, 0, 0, .nil)]) := Ep
      have Eq : Ev q (push (link dq.2 (be a) z') [(0, z', 0, 0, .nil)]) := Eq
      have gq' : GR (push (link dq.2 (be a) z') [(0, z', 0, 0, .nil)]) rq' := gq'
      show SYw j Dm be (push (link dp.2 a z) [(0, z, 0, 0, .nil)]) (push (link dq.2 (be a) z') [(0, z', 0, 0, .nil)])
      have dtd : dtx j dp.2 dq.2 := by
        rw [hdp, hdq]
        exact h.dt.sk.dec c3 hEp hEq (by rw [← hdp]; exact g1) (by rw [← hdq]; exact g2) (by rw [← hdp, ← hdq]; exact hw)
      obtain ⟨x1, x2, x3, x4⟩ : aC dp.2 = aC p ∧ aF dp.2 = aF p ∧ aN dp.2 = aN p ∧ aP dp.2 = aP p := by
        rw [hdp]
        exact Ev.dec (s := setK p lp) (by rw [← hdp]; exact g1)
      obtain ⟨y1, y2, y3, y4⟩ : aC dq.2 = aC q ∧ aF dq.2 = aF q ∧ aN dq.2 = aN q ∧ aP dq.2 = aP q := by
        rw [hdq]
        exact Ev.dec (s := setK q lq) (by rw [← hdq]; exact g2)
      have l1 : lvs p dp.2 lp [] := by rw [hdp]; exact lvs.dec lvs_set
      have l2 : lvs q dq.2 lq [] := by rw [hdq]; exact lvs.dec lvs_set
      have C' : SC j Dm be (push (link dp.2 a z) [(0, z, 0, 0, .nil)]) (push (link dq.2 (be a) z') [(0, z', 0, 0, .nil)]) := C.lnk E Ep Eq Jp Jq gq' Da rzz x1 (by rw [← x2]; rfl) x3 y1 (by rw [← y2]; rfl) y3
      refine h.mk' h1 Jp Jq E Ep Eq gq' htp htq hh (lvs.pu (q := link dp.2 a z) l1) (lvs.pu (q := link dq.2 (be a) z') l2) (fun _ _ q => q) (fun _ _ q => ⟨q, rfl⟩) C' (fun t ht => ?_) ?_ (dtd.kg (kg_push (s := link dp.2 a z)) (kg_push (s := link dq.2 (be a) z')))
      · rw [List.mem_singleton.mp ht]
        refine ⟨fun v hv => ?_, trivial⟩
        rw [List.mem_singleton.mp hv, (Ep.2 z rzz.1).1]
        exact rzz.2.2.1
      · have r2 : RR j Dm be (push (link dp.2 a z) [(0, z, 0, 0, .nil)]) (push (link dq.2 (be a) z') [(0, z', 0, 0, .nil)]) z z' := rzz.mono C E Ep Eq Jq.1 gq' (fun q => q) (fun q => ⟨q, rfl⟩)
        show ew _ [(0, bhx Dm be z, 0, 0, .nil)] = ew _ [(0, z', 0, 0, .nil)]
        rw [ew_one, ew_one]
        exact nw_01 (Or.inl rfl) r2.2.2.2.symm
    · rw [if_neg g2] at h0'
      exact absurd h0' g2
  · rw [if_neg g1] at h0
    exact absurd h0 g1
theorem L_same {fs : List Fn} {j : Nat} {Dm : Nat → Prop} {be : Nat → Nat} {p q : Ac} {rp rq : Nat → Nat} {tp tq : Tk} {lp lq : List Tk} {a : Nat} (h : SYw j Dm be p q) (h1 : 1 ≤ j) (Jp : JR fs p rp) (Jq : JR fs q rq) (E : Ev p q)
  (htp : topK p = tp :: lp) (htq : topK q = tq :: lq) (hh : nw q (trx Dm be tp) = nw q tq) (Da : Dm a) (k45 : tK (aF p a) = 4 ∨ tK (aF p a) = 5) : SYw j Dm be (forceG fs false (setK p lp) a) (forceG fs false (setK q lq) (be a)) := by
  have C := h.1.1
  obtain ⟨c1, c2, c3, m1, m2, m3, m4, m5, m6, m7⟩ := C.1 a Da
  obtain ⟨iA, iB⟩ := (Jp.2.2.1.1 a c1).2.2.2.2.2.1 (by omega) (by omega)
  obtain ⟨A, hA⟩ := Option.isSome_iff_exists.mp iA
  obtain ⟨B, hB⟩ := Option.isSome_iff_exists.mp iB
  have m6 := m6 (by omega)
  obtain ⟨A', hA', rA⟩ := m5.sm.1 A hA
  obtain ⟨B', hB', rB⟩ := m6.sm.1 B hB
  have gen : ∀ k, (k = 13 ∨ k = 14) → SYw j Dm be (push (setK p lp) (oT 1 (tA (aF p a)) ++ oT 1 (tB (aF p a)) ++ [(k, A, B, a, .nil)])) (push (setK q lq) (oT 1 (tA (aF q (be a))) ++ oT 1 (tB (aF q (be a))) ++ [(k, A', B', be a, .nil)])) := fun k hk => by
    refine L_lay h h1 Jp Jq E htp htq hh lvs_set.pu lvs_set.pu (kg_setK.tr kg_push) (kg_setK.tr kg_push) rfl rfl rfl rfl rfl rfl (fun t ht => ?_) ?_
    · rcases List.mem_append.mp ht with w | w
      · rcases List.mem_append.mp w with w | w
        · exact tw_oT m5 (Ev.same (Nat.le_refl _) (fun _ _ => rfl)) t w
        · exact tw_oT m6 (Ev.same (Nat.le_refl _) (fun _ _ => rfl)) t w
      · rw [List.mem_singleton.mp w]
        have m3 : ∀ v, v ∈ [A, B, a] → Dm v ∨ tW (aF p v) < j := fun v hv => by
          rcases List.mem_cons.mp hv with e | e
          · rw [e]
            exact rA.2.2.1
          · rcases List.mem_cons.mp e with e | e
            · rw [e]
              exact rB.2.2.1
            · rw [List.mem_singleton.mp e]
              exact Or.inl Da
        rcases hk with e | e <;> subst e <;> exact ⟨m3, Da⟩
    · rw [List.map_append, List.map_append, ew_app, ew_app, ew_app, ew_app, ew_oT m5, ew_oT m6]
      have : ew q ([((k, A, B, a, .nil) : Tk)].map (trx Dm be)) = ew q [(k, A', B', be a, .nil)] := by
        rcases hk with e | e <;> subst e
        · show [((10, root q (bhx Dm be A), root q (bhx Dm be B), bhx Dm be a, .nil) : Tk), (7, bhx Dm be a, 0, 0, .nil)] = [(10, root q A', root q B', be a, .nil), (7, be a, 0, 0, .nil)]
          rw [bhx_i Da, rA.2.2.2, rB.2.2.2]
        · show [((11, root q (bhx Dm be A), root q (bhx Dm be B), bhx Dm be a, .nil) : Tk), (8, bhx Dm be a, 0, 0, .nil)] = [(11, root q A', root q B', be a, .nil), (8, be a, 0, 0, .nil)]
          rw [bhx_i Da, rA.2.2.2, rB.2.2.2]
      rw [this]
  rcases k45 with k4 | k5
  · have e1 : forceG fs false (setK p lp) a = push (setK p lp) (oT 1 (tA (aF p a)) ++ oT 1 (tB (aF p a)) ++ [(13, A, B, a, .nil)]) := by
      unfold forceG
      rw [show tK (aF (setK p lp) a) = 4 from k4]
      show push (setK p lp) (oT 1 (tA (aF p a)) ++ oT 1 (tB (aF p a)) ++ [(13, (tA (aF p a)).getD 0, (tB (aF p a)).getD 0, a, .nil)]) = _
      rw [hA, hB]
      rfl
    have e2 : forceG fs false (setK q lq) (be a) = push (setK q lq) (oT 1 (tA (aF q (be a))) ++ oT 1 (tB (aF q (be a))) ++ [(13, A', B', be a, .nil)]) := by
      unfold forceG
      rw [show tK (aF (setK q lq) (be a)) = 4 from m1.trans k4]
      show push (setK q lq) (oT 1 (tA (aF q (be a))) ++ oT 1 (tB (aF q (be a))) ++ [(13, (tA (aF q (be a))).getD 0, (tB (aF q (be a))).getD 0, be a, .nil)]) = _
      rw [hA', hB']
      rfl
    rw [e1, e2]
    exact gen 13 (Or.inl rfl)
  · have e1 : forceG fs false (setK p lp) a = push (setK p lp) (oT 1 (tA (aF p a)) ++ oT 1 (tB (aF p a)) ++ [(14, A, B, a, .nil)]) := by
      unfold forceG
      rw [show tK (aF (setK p lp) a) = 5 from k5]
      show push (setK p lp) (oT 1 (tA (aF p a)) ++ oT 1 (tB (aF p a)) ++ [(14, (tA (aF p a)).getD 0, (tB (aF p a)).getD 0, a, .nil)]) = _
      rw [hA, hB]
      rfl
    have e2 : forceG fs false (setK q lq) (be a) = push (setK q lq) (oT 1 (tA (aF q (be a))) ++ oT 1 (tB (aF q (be a))) ++ [(14, A', B', be a, .nil)]) := by
      unfold forceG
      rw [show tK (aF (setK q lq) (be a)) = 5 from m1.trans k5]
      show push (setK q lq) (oT 1 (tA (aF q (be a))) ++ oT 1 (tB (aF q (be a))) ++ [(14, (tA (aF q (be a))).getD 0, (tB (aF q (be a))).getD 0, be a, .nil)]) = _
      rw [hA', hB']
      rfl
    rw [e1, e2]
    exact gen 14 (Or.inr rfl)
/-- a run within is to be begun -/
theorem L_more {fs : List Fn} {j : Nat} {Dm : Nat → Prop} {be : Nat → Nat} {p q : Ac} {rp rq : Nat → Nat} {tp tq : Tk} {lp lq : List Tk} {a : Nat} (h : SYw j Dm be p q) (h1 : 1 ≤ j) (Jp : JR fs p rp) (Jq : JR fs q rq) (E : Ev p q)
  (htp : topK p = tp :: lp) (htq : topK q = tq :: lq) (hh : nw q (trx Dm be tp) = nw q tq) (Da : Dm a) : SYw j Dm be (sL (setK p lp) (aL p + 1) (up1 (aV (setK p lp)) (aL p + 1) (a, 0, [], [], [tRun], 0))) (sL (setK q lq) (aL q + 1) (up1 (aV (setK q lq)) (aL q + 1) (be a, 0, [], [], [tRun], 0))) := by
  have base : SYw j Dm be (setK p lp) (setK q lq) := L_lay (np := []) (nq := []) h h1 Jp Jq E htp htq hh lvs_set lvs_set kg_setK kg_setK rfl rfl rfl rfl rfl rfl (fun t ht => (List.not_mem_nil ht).elim) rfl
  obtain ⟨⟨C, hl⟩, e1, e2⟩ := base
  have e1 : aL q = aL p := e1
  have e2 : j ≤ aL p := e2
  refine ⟨⟨C.eqv rfl rfl rfl rfl rfl rfl, fun k k1 k2 => ?_⟩, by show aL q + 1 = aL p + 1; rw [e1], by show j ≤ aL p + 1; omega⟩
  have k2 : k < aL p + 1 + 1 := k2
  by_cases w : k = aL p + 1
  · subst w
    have f1 : aV (sL (setK p lp) (aL p + 1) (up1 (aV (setK p lp)) (aL p + 1) (a, 0, [], [], [tRun], 0))) (aL p + 1) = (a, 0, [], [], [tRun], 0) := up1_at
    have f2 : aV (sL (setK q lq) (aL q + 1) (up1 (aV (setK q lq)) (aL q + 1) (be a, 0, [], [], [tRun], 0))) (aL p + 1) = (be a, 0, [], [], [tRun], 0) := by
      rw [← e1]
      exact up1_at
    unfold SVl
    rw [f1, f2]
    refine ⟨fun t ht => ?_, rfl, rfl, fun _ => ⟨Da, rfl, rfl, rfl⟩, fun e => by omega⟩
    rw [List.mem_singleton.mp ht]
    exact ⟨fun v hv => (List.not_mem_nil hv).elim, trivial⟩
  · have f1 : aV (sL (setK p lp) (aL p + 1) (up1 (aV (setK p lp)) (aL p + 1) (a, 0, [], [], [tRun], 0))) k = aV (setK p lp) k := up1_ne w
    have f2 : aV (sL (setK q lq) (aL q + 1) (up1 (aV (setK q lq)) (aL q + 1) (be a, 0, [], [], [tRun], 0))) k = aV (setK q lq) k := up1_ne (by omega)
    have := hl k k1 (by show k < aL p + 1; omega)
    obtain ⟨t1, t2, t3, t4, t5⟩ := this
    unfold SVl
    rw [f1, f2, ew_eq (s := setK q lq) (S := sL (setK q lq) (aL q + 1) (up1 (aV (setK q lq)) (aL q + 1) (be a, 0, [], [], [tRun], 0))) rfl rfl, ew_eq (s := setK q lq) (S := sL (setK q lq) (aL q + 1) (up1 (aV (setK q lq)) (aL q + 1) (be a, 0, [], [], [tRun], 0))) rfl rfl]
    exact ⟨t1, t2, t3, t4, t5⟩
