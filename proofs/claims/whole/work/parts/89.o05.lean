/-! A RUN WITHIN IS MADE AGAIN: calls, choices, what is whole -/
theorem decA_f {s : Ac} {o n : Nat} (h0 : aE (decA s o n).2 = 0) (hE : aE s = 0) : (decA s o n).2 = setD s o (((decA s o n).1, n) :: lD (aV s o)) (lG (aV s o)).tail ∧ (decA s o n).1 = (lG (aV s o)).headD 0 := by
  unfold decA at h0 ⊢
  by_cases w : (lD (aV s o)).length = 40
  · rw [if_pos w] at h0
    exact absurd h0 (show ¬ (4 : Nat) = 0 by decide)
  · rw [if_neg w] at h0 ⊢
    cases e : lG (aV s o) with
    | cons x r => exact ⟨rfl, rfl⟩
    | nil =>
      rw [e] at h0
      by_cases w2 : o = 0
      · have h0 : aE (if o = 0 then ((0, sB s 5 n) : Nat × Ac) else (0, setD s o ((0, n) :: lD (aV s o)) [])).2 = 0 := h0
        rw [if_pos w2] at h0
        exact absurd h0 (show ¬ (5 : Nat) = 0 by decide)
      · show (if o = 0 then ((0, sB s 5 n) : Nat × Ac) else (0, setD s o ((0, n) :: lD (aV s o)) [])).2 = setD s o (((if o = 0 then ((0, sB s 5 n) : Nat × Ac) else (0, setD s o ((0, n) :: lD (aV s o)) [])).1, n) :: lD (aV s o)) [] ∧ (if o = 0 then ((0, sB s 5 n) : Nat × Ac) else (0, setD s o ((0, n) :: lD (aV s o)) [])).1 = 0
        rw [if_neg w2]
        exact ⟨rfl, rfl⟩
theorem dtx.dec {j : Nat} {p q : Ac} {o n : Nat} (h : dtx j p q) (ho : j ≤ o) (hp : aE p = 0) (hq : aE q = 0) (h0 : aE (decA p o n).2 = 0) (h0' : aE (decA q o n).2 = 0) (hw : (decA q o n).1 = (decA p o n).1) : dtx j (decA p o n).2 (decA q o n).2 := by
  obtain ⟨e1, _⟩ := decA_f h0 hp
  obtain ⟨e2, _⟩ := decA_f h0' hq
  rw [e1, e2, hw]
  intro k k1 k2
  have k2 : k ≤ aL p := k2
  obtain ⟨d1, d2⟩ := h k k1 k2
  by_cases e : k = o
  · subst e
    have a1 : aV (setD p k (((decA p k n).1, n) :: lD (aV p k)) (lG (aV p k)).tail) k = (lX (aV p k), lU (aV p k), ((decA p k n).1, n) :: lD (aV p k), (lG (aV p k)).tail, lK (aV p k), lZ (aV p k)) := up1_at
    have a2 : aV (setD q k (((decA p k n).1, n) :: lD (aV q k)) (lG (aV q k)).tail) k = (lX (aV q k), lU (aV q k), ((decA p k n).1, n) :: lD (aV q k), (lG (aV q k)).tail, lK (aV q k), lZ (aV q k)) := up1_at
    rw [a1, a2]
    refine ⟨?_, fun hk => ?_⟩
    · show _ :: lD (aV q k) = _ :: lD (aV p k)
      rw [d1]
    · refine ⟨(d2 hk).1, ?_⟩
      show (lG (aV q k)).tail = (lG (aV p k)).tail
      rw [(d2 hk).2]
  · have a1 : aV (setD p o (((decA p o n).1, n) :: lD (aV p o)) (lG (aV p o)).tail) k = aV p k := up1_ne e
    have a2 : aV (setD q o (((decA p o n).1, n) :: lD (aV q o)) (lG (aV q o)).tail) k = aV q k := up1_ne e
    rw [a1, a2]
    exact ⟨d1, d2⟩
theorem dtx.sk {j : Nat} {p q : Ac} {lp lq : List Tk} (h : dtx j p q) : dtx j (setK p lp) (setK q lq) := h.kg kg_setK kg_setK
theorem Ev.dec {s : Ac} {o n : Nat} (h0 : aE (decA s o n).2 = 0) : aC (decA s o n).2 = aC s ∧ aF (decA s o n).2 = aF s ∧ aN (decA s o n).2 = aN s ∧ aP (decA s o n).2 = aP s := by
  obtain ⟨d, g, e⟩ := decA_go h0
  rw [e]
  exact ⟨rfl, rfl, rfl, rfl⟩
theorem L_call {fs : List Fn} {j : Nat} {Dm : Nat → Prop} {be : Nat → Nat} {p q : Ac} {rp rq rq' : Nat → Nat} {tp tq : Tk} {lp lq : List Tk} {a : Nat} (h : SYw j Dm be p q) (h1 : 1 ≤ j) (Jp : JR fs p rp) (Jq : JR fs q rq) (E : Ev p q) (hEp : aE p = 0) (hEq : aE q = 0)
  (htp : topK p = tp :: lp) (htq : topK q = tq :: lq) (hh : nw q (trx Dm be tp) = nw q tq) (Da : Dm a) (k2 : tK (aF p a) = 2) (hn : ¬ (rulf fs (tO (aF p a))).length = 0)
  (hw : 1 < (rulf fs (tO (aF p a))).length → (decA (setK q lq) (tW (aF p a)) (rulf fs (tO (aF p a))).length).1 = (decA (setK p lp) (tW (aF p a)) (rulf fs (tO (aF p a))).length).1)
  (h0 : aE (callA fs (setK p lp) a) = 0) (h0' : aE (callA fs (setK q lq) (be a)) = 0) (Ep : Ev p (callA fs (setK p lp) a)) (Eq : Ev q (callA fs (setK q lq) (be a))) (gq' : GR (callA fs (setK q lq) (be a)) rq') : SYw j Dm be (callA fs (setK p lp) a) (callA fs (setK q lq) (be a)) := by
  obtain ⟨c1, c2, c3, m1, m2, m3, m4, m5, m6, m7⟩ := h.1.1.1 a Da
  have C := h.1.1
  have oq : tO (aF (setK q lq) (be a)) = tO (aF p a) := m2
  have wq : tW (aF (setK q lq) (be a)) = tW (aF p a) := m3
  have fin : ∀ dp dq : Nat × Ac, aE dp.2 = 0 → aE dq.2 = 0 → aE (stepA dp.2) = 0 → aE (stepA dq.2) = 0 → lvs p dp.2 lp [] → lvs q dq.2 lq [] → dtx j dp.2 dq.2 → dq.1 = dp.1 → (aC dp.2 = aC p ∧ aF dp.2 = aF p ∧ aN dp.2 = aN p ∧ aP dp.2 = aP p) → (aC dq.2 = aC q ∧ aF dq.2 = aF q ∧ aN dq.2 = aN q ∧ aP dq.2 = aP q) → ∀ R, Ev p (takeR (stepA dp.2) a R) → Ev q (takeR (stepA dq.2) (be a) R) → GR (takeR (stepA dq.2) (be a) R) rq' → SYw j Dm be (takeR (stepA dp.2) a R) (takeR (stepA dq.2) (be a) R) := by
    intro dp dq _ _ s1 s2 lv1 lv2 dt _ ⟨x1, x2, x3, x4⟩ ⟨y1, y2, y3, y4⟩ R Ep Eq gq'
    obtain ⟨P, hP⟩ : ∃ P, P = takeR (stepA dp.2) a R := ⟨_, rfl⟩
    obtain ⟨Q, hQ⟩ : ∃ Q, Q = takeR (stepA dq.2) (be a) R := ⟨_, rfl⟩
    have ep := stepA_k s1
    have eq := stepA_k s2
    have hP2 : P = push (takeT (sS dp.2 (aS dp.2 + 1)) a R) (mt1 R.1 (tA (aF p a)) a ++ mt1 R.2.1 (tB (aF p a)) a ++ [(6, a, 0, 0, .nil)]) := by
      rw [hP, ep, ← x2]
      rfl
    have hQ2 : Q = push (takeT (sS dq.2 (aS dq.2 + 1)) (be a) R) (mt1 R.1 (tA (aF q (be a))) (be a) ++ mt1 R.2.1 (tB (aF q (be a))) (be a) ++ [(6, be a, 0, 0, .nil)]) := by
      rw [hQ, eq, ← y2]
      rfl
    rw [← hP, ← hQ]
    rw [← hP] at Ep
    rw [← hQ] at Eq gq'
    have fP : aF P = up1 (aF p) a (tK (aF p a), tO (aF p a), tA (aF p a), tB (aF p a), tW (aF p a), aP p, R.2.2) := by rw [hP2, ← x2, ← x4]; rfl
    have fQ : aF Q = up1 (aF q) (be a) (tK (aF q (be a)), tO (aF q (be a)), tA (aF q (be a)), tB (aF q (be a)), tW (aF q (be a)), aP q, R.2.2) := by rw [hQ2, ← y2, ← y4]; rfl
    have nP : aN P = up1 (aN p) (aP p) (fun _ => none) := by rw [hP2, ← x3, ← x4]; rfl
    have nQ : aN Q = up1 (aN q) (aP q) (fun _ => none) := by rw [hQ2, ← y3, ← y4]; rfl
    have cP : aC P = aC p := by rw [hP2, ← x1]; rfl
    have cQ : aC Q = aC q := by rw [hQ2, ← y1]; rfl
    have ro : ∀ x y, RO j Dm be p q x y → RO j Dm be P Q x y := fun x y hh => hh.mono C E Ep Eq Jq.1 gq' (fun _ _ q => q) (fun _ _ q => ⟨q, rfl⟩)
    have pl : ∀ {s : Ac} {rk : Nat → Nat}, JR fs s rk → ∀ z, z < aC s → Nmd (aF s z) → tP (aF s z) < aP s := fun J z hz hN => by
      have w := J.2.2.1.1 z hz
      rcases hN with q | ⟨q, q2⟩
      · exact (w.2.2.2.2.2.2 q).2.2.1
      · exact ((w.2.2.2.2.1 q).2 q2).2.2
    have C' : SC j Dm be P Q := by
      refine C.step E Ep Eq Jp.1 Jq.1 gq' (fun x _ q => ⟨q, rfl⟩) (fun _ x _ _ q _ => q) (fun z dz => ?_) C.2
      obtain ⟨z1, z2, _⟩ := C.1 z dz
      by_cases e : z = a
      · subst e
        refine Or.inr ⟨by rw [cP]; exact c1, by rw [cQ]; exact c2, ?_, ?_⟩
        · rw [fP, up1_at]
          exact c3
        · have f1 : aF P z = (tK (aF p z), tO (aF p z), tA (aF p z), tB (aF p z), tW (aF p z), aP p, R.2.2) := by rw [fP, up1_at]
          have f2 : aF Q (be z) = (tK (aF q (be z)), tO (aF q (be z)), tA (aF q (be z)), tB (aF q (be z)), tW (aF q (be z)), aP q, R.2.2) := by rw [fQ, up1_at]
          unfold TM
          rw [f1, f2]
          refine ⟨m1, m2, m3, rfl, ro _ _ m5, fun _ => ro _ _ (m6 (by omega)), fun _ k => ?_⟩
          show RO j Dm be P Q (aN P (aP p) k) (aN Q (aP q) k)
          rw [nP, nQ, up1_at, up1_at]
          trivial
      · have e2 : be z ≠ be a := fun q => e (C.2 _ _ dz Da q)
        refine Or.inl ⟨z1, by rw [fP, up1_ne e], by rw [fQ, up1_ne e2], fun hN => ?_⟩
        have p1 := pl Jp z z1 hN
        have p2 := pl Jq (be z) z2 (by
          obtain ⟨_, _, _, w1, _, _, w4, _⟩ := C.1 z dz
          unfold Nmd at hN ⊢
          rw [w1, w4]
          exact hN)
        rw [nP, nQ, up1_ne (by omega), up1_ne (by omega)]
        exact ⟨rfl, rfl⟩
    have l1 : lvs p P lp (mt1 R.1 (tA (aF p a)) a ++ mt1 R.2.1 (tB (aF p a)) a ++ [(6, a, 0, 0, .nil)]) := by
      rw [hP2]
      exact lvs.pu (q := takeT (sS dp.2 (aS dp.2 + 1)) a R) lv1
    have l2 : lvs q Q lq (mt1 R.1 (tA (aF q (be a))) (be a) ++ mt1 R.2.1 (tB (aF q (be a))) (be a) ++ [(6, be a, 0, 0, .nil)]) := by
      rw [hQ2]
      exact lvs.pu (q := takeT (sS dq.2 (aS dq.2 + 1)) (be a) R) lv2
    refine h.mk' h1 Jp Jq E Ep Eq gq' htp htq hh l1 l2 (fun _ _ q => q) (fun _ _ q => ⟨q, rfl⟩) C' (fun t ht => ?_) ?_ ?_
    · have four : ∀ (P' : Option Tr) (o : Option Nat), (∀ z, o = some z → z < aC p ∧ (Dm z ∨ tW (aF p z) < j)) → t ∈ mt1 P' o a → TOw j Dm P t := fun P' o ho ht => by
        cases P' with
        | none => exact (List.not_mem_nil ht).elim
        | some P' =>
          cases o with
          | none => exact (List.not_mem_nil ht).elim
          | some z =>
            rw [List.mem_singleton.mp ht]
            obtain ⟨z0, z1⟩ := ho z rfl
            refine ⟨fun v hv => ?_, Da⟩
            rcases List.mem_cons.mp hv with e | e
            · rw [e, (Ep.2 z z0).1]
              exact z1
            · rw [List.mem_singleton.mp e]
              exact Or.inl Da
      rcases List.mem_append.mp ht with q | q
      · rcases List.mem_append.mp q with q | q
        · exact four _ _ (fun z hz => by
            obtain ⟨z', _, r⟩ := m5.sm.1 z hz
            exact ⟨r.1, r.2.2.1⟩) q
        · exact four _ _ (fun z hz => by
            obtain ⟨z', _, r⟩ := (m6 (by omega)).sm.1 z hz
            exact ⟨r.1, r.2.2.1⟩) q
      · rw [List.mem_singleton.mp q]
        exact ⟨fun v hv => by rw [List.mem_singleton.mp hv]; exact Or.inl Da, Da⟩
    · rw [List.map_append, List.map_append, ew_app, ew_app, ew_app, ew_app, ew_mt (ro _ _ m5) Da, ew_mt (ro _ _ (m6 (by omega))) Da]
      have : ew Q ([((6, a, 0, 0, .nil) : Tk)].map (trx Dm be)) = ew Q [(6, be a, 0, 0, .nil)] := by
        show [((6, bhx Dm be a, 0, 0, .nil) : Tk)] = [(6, be a, 0, 0, .nil)]
        rw [bhx_i Da]
      rw [this]
    · rw [hP2, hQ2]
      refine dt.kg ?_ ?_
      · exact kg_push (s := takeT (sS dp.2 (aS dp.2 + 1)) a R)
      · exact kg_push (s := takeT (sS dq.2 (aS dq.2 + 1)) (be a) R)
  unfold callA at h0 h0' Ep Eq gq' ⊢
  rw [oq, wq] at h0' Eq gq' ⊢
  rw [if_neg hn] at h0' Eq gq'
  rw [if_neg (show ¬ (rulf fs (tO (aF (setK p lp) a))).length = 0 from hn)] at h0 Ep ⊢
  rw [if_neg hn]
  obtain ⟨dp, hdp⟩ : ∃ d, d = (if 1 < (rulf fs (tO (aF (setK p lp) a))).length then decA (setK p lp) (tW (aF (setK p lp) a)) (rulf fs (tO (aF (setK p lp) a))).length else (0, setK p lp)) := ⟨_, rfl⟩
  obtain ⟨dq, hdq⟩ : ∃ d, d = (if 1 < (rulf fs (tO (aF p a))).length then decA (setK q lq) (tW (aF p a)) (rulf fs (tO (aF p a))).length else (0, setK q lq)) := ⟨_, rfl⟩
  simp only [] at h0 h0' Ep Eq gq' ⊢
  rw [← hdp] at h0 Ep ⊢
  rw [← hdq] at h0' Eq gq' ⊢
  by_cases g1 : aE dp.2 = 0
  · rw [if_pos g1] at h0 Ep ⊢
    by_cases g2 : aE dq.2 = 0
    · rw [if_pos g2] at h0' Eq gq' ⊢
      by_cases g3 : aE (stepA dp.2) = 0
      · rw [if_pos g3] at h0 Ep ⊢
        by_cases g4 : aE (stepA dq.2) = 0
        · rw [if_pos g4] at h0' Eq gq' ⊢
          have both : lvs p dp.2 lp [] ∧ lvs q dq.2 lq [] ∧ dtx j dp.2 dq.2 ∧ dq.1 = dp.1 ∧ (aC dp.2 = aC p ∧ aF dp.2 = aF p ∧ aN dp.2 = aN p ∧ aP dp.2 = aP p) ∧ (aC dq.2 = aC q ∧ aF dq.2 = aF q ∧ aN dq.2 = aN q ∧ aP dq.2 = aP q) := by
            by_cases w : 1 < (rulf fs (tO (aF p a))).length
            · rw [if_pos (show 1 < (rulf fs (tO (aF (setK p lp) a))).length from w)] at hdp
              rw [if_pos w] at hdq
              rw [hdp] at g1 ⊢
              rw [hdq] at g2 ⊢
              exact ⟨lvs.dec lvs_set, lvs.dec lvs_set, h.dt.sk.dec c3 hEp hEq g1 g2 (hw w), hw w, Ev.dec g1, Ev.dec g2⟩
            · rw [if_neg (show ¬ 1 < (rulf fs (tO (aF (setK p lp) a))).length from w)] at hdp
              rw [if_neg w] at hdq
              rw [hdp, hdq]
              exact ⟨lvs_set, lvs_set, h.dt.sk, rfl, ⟨rfl, rfl, rfl, rfl⟩, ⟨rfl, rfl, rfl, rfl⟩⟩
          obtain ⟨b1, b2, b3, b4, b5, b6⟩ := both
          rw [b4] at h0' Eq gq' ⊢
          exact fin dp dq g1 g2 g3 g4 b1 b2 b3 b4 b5 b6 _ Ep Eq gq'
        · rw [if_neg g4] at h0'
          exact absurd h0' g4
      · rw [if_neg g3] at h0
        exact absurd h0 g3
    · rw [if_neg g2] at h0'
      exact absurd h0' g2
  · rw [if_neg g1] at h0
    exact absurd h0 g1
